section
/-! safe rows -/
theorem sf_Formula_join {x1 : Int} {x2 : Int64} {x3 : Int64} {M : Mem}   (h_M : IM M) (h_x1 : InR x1)  : Ok (fun _ => True) (t_Formula_join M x1 x2 x3) := by
  unfold t_Formula_join
  refine ok_ite (fun c_1 => ?_) (fun c_1 => ?_)
  · refine ok_ite (fun c_2 => ?_) (fun c_2 => ?_)
    · refine ok_ite (fun c_3 => ?_) (fun c_3 => ?_)
      · exact (sf_Formula_join_L185  h_M h_x1 (inr_c rfl) )
      · exact (sf_Formula_join_L180  h_M h_x1 )
    · exact (sf_Formula_join_L180  h_M h_x1 )
  · refine ok_ite (fun c_4 => ?_) (fun c_4 => ?_)
    · refine ok_ite (fun c_5 => ?_) (fun c_5 => ?_)
      · exact (sf_Formula_join_L205  h_M h_x1 )
      · refine ok_ite (fun c_6 => ?_) (fun c_6 => ?_)
        · exact (sf_Formula_join_L205  h_M h_x1 )
        · exact (sf_Formula_join_L206  h_M h_x1 (inr_c rfl) )
    · refine ok_ite (fun c_7 => ?_) (fun c_7 => ?_)
      · exact (sf_Formula_join_L314  h_M h_x1 )
      · refine ok_ite (fun c_8 => ?_) (fun c_8 => ?_)
        · exact (sf_Formula_join_L314  h_M h_x1 )
        · refine ok_ite (fun c_9 => ?_) (fun c_9 => ?_)
          · exact (sf_Formula_join_L314  h_M h_x1 )
          · refine ok_ite (fun c_10 => ?_) (fun c_10 => ?_)
            · exact (sf_Formula_join_L314  h_M h_x1 )
            · refine ok_ite (fun c_11 => ?_) (fun c_11 => ?_)
              · exact (sf_Formula_join_L314  h_M h_x1 )
              · refine ok_ite (fun c_12 => ?_) (fun c_12 => ?_)
                · exact (sf_Formula_join_L314  h_M h_x1 )
                · refine ok_ite (fun c_13 => ?_) (fun c_13 => ?_)
                  · exact (sf_Formula_join_L314  h_M h_x1 )
                  · refine ok_ite (fun c_14 => ?_) (fun c_14 => ?_)
                    · exact (sf_Formula_join_L314  h_M h_x1 )
                    · refine ok_ite (fun c_15 => ?_) (fun c_15 => ?_)
                      · exact (sf_Formula_join_L314  h_M h_x1 )
                      · refine ok_ite (fun c_16 => ?_) (fun c_16 => ?_)
                        · exact (sf_Formula_join_L314  h_M h_x1 )
                        · refine ok_ite (fun c_17 => ?_) (fun c_17 => ?_)
                          · exact (sf_Formula_join_L314  h_M h_x1 )
                          · refine ok_ite (fun c_18 => ?_) (fun c_18 => ?_)
                            · exact (sf_Formula_join_L314  h_M h_x1 )
                            · refine ok_ite (fun c_19 => ?_) (fun c_19 => ?_)
                              · exact (sf_Formula_join_L314  h_M h_x1 )
                              · refine ok_ite (fun c_20 => ?_) (fun c_20 => ?_)
                                · exact (sf_Formula_join_L314  h_M h_x1 )
                                · refine ok_ite (fun c_21 => ?_) (fun c_21 => ?_)
                                  · exact (sf_Formula_join_L314  h_M h_x1 )
                                  · refine ok_ite (fun c_22 => ?_) (fun c_22 => ?_)
                                    · exact (sf_Formula_join_L314  h_M h_x1 )
                                    · refine ok_ite (fun c_23 => ?_) (fun c_23 => ?_)
                                      · exact (sf_Formula_join_L314  h_M h_x1 )
                                      · refine ok_ite (fun c_24 => ?_) (fun c_24 => ?_)
                                        · exact (sf_Formula_join_L314  h_M h_x1 )
                                        · refine ok_ite (fun c_25 => ?_) (fun c_25 => ?_)
                                          · exact (sf_Formula_join_L314  h_M h_x1 )
                                          · refine ok_ite (fun c_26 => ?_) (fun c_26 => ?_)
                                            · exact (sf_Formula_join_L314  h_M h_x1 )
                                            · refine ok_ite (fun c_27 => ?_) (fun c_27 => ?_)
                                              · exact (sf_Formula_join_L314  h_M h_x1 )
                                              · refine ok_ite (fun c_28 => ?_) (fun c_28 => ?_)
                                                · exact (sf_Formula_join_L314  h_M h_x1 )
                                                · refine ok_ite (fun c_29 => ?_) (fun c_29 => ?_)
                                                  · exact (sf_Formula_join_L314  h_M h_x1 )
                                                  · refine ok_ite (fun c_30 => ?_) (fun c_30 => ?_)
                                                    · exact (sf_Formula_join_L314  h_M h_x1 )
                                                    · refine ok_ite (fun c_31 => ?_) (fun c_31 => ?_)
                                                      · exact (sf_Formula_join_L314  h_M h_x1 )
                                                      · refine ok_ite (fun c_32 => ?_) (fun c_32 => ?_)
                                                        · exact (sf_Formula_join_L314  h_M h_x1 )
                                                        · refine ok_ite (fun c_33 => ?_) (fun c_33 => ?_)
                                                          · exact ok_some True.intro
                                                          · refine ok_ite (fun c_34 => ?_) (fun c_34 => ?_)
                                                            · exact ok_some True.intro
                                                            · refine ok_ite (fun c_35 => ?_) (fun c_35 => ?_)
                                                              · refine ok_bind (Q := fun _ => True) (sf_Formula_product  h_M  ) (fun q36 h_q36 => ?_)
                                                                exact ok_some True.intro
                                                              · refine ok_ite (fun c_36 => ?_) (fun c_36 => ?_)
                                                                · exact (sf_Formula_join_L314  h_M h_x1 )
                                                                · refine ok_ite (fun c_37 => ?_) (fun c_37 => ?_)
                                                                  · refine ok_ite (fun c_38 => ?_) (fun c_38 => ?_)
                                                                    · exact (sf_Formula_join_L221  h_M h_x1 (inr_c rfl) )
                                                                    · exact (sf_Formula_join_L221  h_M h_x1 (inr_c rfl) )
                                                                  · refine ok_ite (fun c_39 => ?_) (fun c_39 => ?_)
                                                                    · refine ok_ite (fun c_40 => ?_) (fun c_40 => ?_)
                                                                      · exact (sf_Formula_join_L236  h_M h_x1 (inr_c rfl) )
                                                                      · exact (sf_Formula_join_L236  h_M h_x1 (inr_c rfl) )
                                                                    · refine ok_ite (fun c_41 => ?_) (fun c_41 => ?_)
                                                                      · refine ok_ite (fun c_42 => ?_) (fun c_42 => ?_)
                                                                        · exact (sf_Formula_join_L251  h_M h_x1 (inr_c rfl) )
                                                                        · exact (sf_Formula_join_L251  h_M h_x1 (inr_c rfl) )
                                                                      · refine ok_ite (fun c_43 => ?_) (fun c_43 => ?_)
                                                                        · refine ok_ite (fun c_44 => ?_) (fun c_44 => ?_)
                                                                          · exact (sf_Formula_join_L266  h_M h_x1 (inr_c rfl) )
                                                                          · exact (sf_Formula_join_L266  h_M h_x1 (inr_c rfl) )
                                                                        · refine ok_ite (fun c_45 => ?_) (fun c_45 => ?_)
                                                                          · refine ok_ite (fun c_46 => ?_) (fun c_46 => ?_)
                                                                            · exact (sf_Formula_join_L281  h_M h_x1 (inr_c rfl) )
                                                                            · exact (sf_Formula_join_L281  h_M h_x1 (inr_c rfl) )
                                                                          · refine ok_ite (fun c_47 => ?_) (fun c_47 => ?_)
                                                                            · refine ok_ite (fun c_48 => ?_) (fun c_48 => ?_)
                                                                              · exact (sf_Formula_join_L296  h_M h_x1 (inr_c rfl) )
                                                                              · exact (sf_Formula_join_L296  h_M h_x1 (inr_c rfl) )
                                                                            · exact (sf_Formula_join_L314  h_M h_x1 )
theorem sf_Formula_value_L4 {k0 r1 N1 : Nat} : ∀ (n fu : Nat) (M : Mem) (v2 v3 : Int), v3 + (n : Int) = 2147483647 → 0 ≤ v3 → 0 ≤ v2 → v2 ≤ 64 → n < fu → IM M → Ok (fun r => IM r.1) (t_Formula_value_L4 k0 r1 N1 fu M v2 v3) := by
  intro n
  induction n with
  | zero =>
    intro fu M v2 v3 h0 hp h1 h2 h3 hM
    obtain ⟨g, rfl⟩ : ∃ g, fu = g + 1 := ⟨fu - 1, by omega⟩
    rw [t_Formula_value_L4, if_pos (by have := (hM k0 3).2; omega)]
    unfold t_Formula_value_L234
    exact ok_ite (fun _ => ok_some hM) (fun _ => ok_some hM)
  | succ n ih =>
    intro fu M v2 v3 h0 hp h1 h2 h3 hM
    obtain ⟨g, rfl⟩ : ∃ g, fu = g + 1 := ⟨fu - 1, by omega⟩
    rw [t_Formula_value_L4]
    have e234 : Ok (fun r => IM r.1) (t_Formula_value_L234 k0 r1 N1 M v2) := by
      unfold t_Formula_value_L234
      exact ok_ite (fun _ => ok_some hM) (fun _ => ok_some hM)
    have w3 : w32 (v3 + 1) = v3 + 1 := w32_id (by unfold InR; omega)
    have nx : ∀ (M1 : Mem) (v : Int), IM M1 → 0 ≤ v → v ≤ 64 → Ok (fun r => IM r.1) (t_Formula_value_L228 k0 r1 N1 (fun a0_ a1_ a2_ => t_Formula_value_L4 k0 r1 N1 g a0_ a1_ a2_) M1 v v3) := by
      intro M1 v h4 h5 h6
      unfold t_Formula_value_L228
      rw [w3]
      exact ih g M1 v (v3 + 1) (by omega) (by omega) h5 h6 (by omega) h4
    have e44 : ∀ v4 : Int, Ok (fun r => IM r.1) (t_Formula_value_L44 k0 r1 N1 (fun a0_ a1_ a2_ => t_Formula_value_L4 k0 r1 N1 g a0_ a1_ a2_) M v2 v3 v4) := by
      intro v4
      unfold t_Formula_value_L44 t_Formula_value_L90
      refine ok_ite (fun c => ?_) (fun _ => ok_some hM)
      have w2 : w32 (v2 + 1) = v2 + 1 := w32_id (by unfold InR; omega)
      rw [w2]
      refine ok_ite (fun _ => ?_) (fun _ => ?_)
      · exact ok_let (fun _ _ => ok_guard ⟨h1, c⟩ (ok_let (fun M3 e3 => nx _ _ (by rw [e3]; exact hM.setL) (by omega) (by omega))))
      · exact ok_let (fun _ _ => ok_guard ⟨h1, c⟩ (ok_let (fun M3 e3 => nx _ _ (by rw [e3]; exact hM.setL) (by omega) (by omega))))
    have e149 : ∀ v4 : Int, InR v4 → Ok (fun r => IM r.1) (t_Formula_value_L149 k0 r1 N1 (fun a0_ a1_ a2_ => t_Formula_value_L4 k0 r1 N1 g a0_ a1_ a2_) M v2 v3 v4) := by
      intro v4 h4
      unfold t_Formula_value_L149
      refine ok_ite (fun _ => ok_some hM) (fun c => ?_)
      have w2 : w32 (v2 - 2) = v2 - 2 := w32_id (by unfold InR; omega)
      have w1 : w32 (v2 - 1) = v2 - 1 := w32_id (by unfold InR; omega)
      have w0 : w32 (v2 + (-1)) = v2 + (-1) := w32_id (by unfold InR; omega)
      rw [w2, w1, w0]
      refine ok_ite (fun _ => ok_some hM) (fun _ => ?_)
      refine ok_guard (by omega) (ok_guard (by omega) ?_)
      refine ok_bind (Q := fun _ => True) (sf_Formula_join hM h4) (fun q _ => ?_)
      refine ok_ite (fun _ => ok_some hM) (fun _ => ?_)
      refine ok_ite (fun _ => ?_) (fun _ => ok_some hM)
      exact ok_guard (by omega) (ok_let (fun M3 e3 => nx _ _ (by rw [e3]; exact hM.setL) (by omega) (by omega)))
    have e142 : ∀ v6 : Int, 0 < v2 → Ok (fun r => IM r.1) (t_Formula_value_L142 k0 r1 N1 (fun a0_ a1_ a2_ => t_Formula_value_L4 k0 r1 N1 g a0_ a1_ a2_) M v2 v3 (w32 (v2 - 1)) v6) := by
      intro v6 c
      unfold t_Formula_value_L142
      have w1 : w32 (v2 - 1) = v2 - 1 := w32_id (by unfold InR; omega)
      rw [w1]
      exact ok_let (fun _ _ => ok_guard (by omega) (ok_let (fun M3 e3 => nx _ _ (by rw [e3]; exact hM.setL) (by omega) (by omega))))
    refine ok_ite (fun _ => e234) (fun _ => ok_ite (fun _ => e234) (fun _ => ?_))
    refine ok_let (fun q5 e5 => ?_)
    have h5 : InR q5 := by
      rw [e5]; unfold t_WF_look
      split
      · exact inr_c rfl
      · split
        · exact inr_c rfl
        · exact hM _ _
    refine ok_ite (fun _ => e44 _) (fun _ => ok_let (fun q8 _ => ok_ite (fun _ => ?_) (fun _ => e44 _)))
    refine ok_ite (fun _ => e149 _ h5) (fun c => ok_ite (fun _ => e149 _ h5) (fun _ => ok_ite (fun _ => ?_) (fun _ => e149 _ h5)))
    have w1 : w32 (v2 - 1) = v2 - 1 := w32_id (by unfold InR; omega)
    exact ok_guard (by rw [w1]; omega) (ok_ite (fun _ => e142 _ (by omega)) (fun _ => e142 _ (by omega)))
theorem sf_Formula_value {k0 r1 N1 : Nat} {M : Mem} (hM : IM M) : Ok (fun r => IM r.1) (t_Formula_value M k0 r1 N1) := sf_Formula_value_L4 2147483647 FU M 0 0 (by omega) (by omega) (by omega) (by omega) (by unfold FU; omega) hM
theorem sf_Laws_joyTold {k1 : Nat} {x2 : Int} {x3 : Int} {M : Mem}   (h_M : IM M) (h_x2 : InR x2) (h_x3 : InR x3)  : Ok (fun r => IM r.1) (t_Laws_joyTold M k1 x2 x3) := by
  unfold t_Laws_joyTold
  refine ok_let (fun q1 e_q1 => ?_)
  have h_q1 : (fun r => InR r) q1 := by rw [e_q1]; exact (sf_WF_look  h_M h_x2 )
  clear e_q1
  refine ok_let (fun q3 e_q3 => ?_)
  have h_q3 : (fun r => IM r) q3 := by rw [e_q3]; exact (sf_Laws_name  h_M (inr_c rfl) )
  clear e_q3
  refine ok_let (fun q5 e_q5 => ?_)
  have h_q5 : (fun r => InR r) q5 := by rw [e_q5]; exact (sf_WF_look  h_q3 h_x2 )
  clear e_q5
  refine ok_let (fun q7 e_q7 => ?_)
  have h_q7 : (fun r => IM r) q7 := by rw [e_q7]; exact (sf_Laws_name  h_q3 (inr_c rfl) )
  clear e_q7
  refine ok_let (fun q9 e_q9 => ?_)
  have h_q9 : (fun r => InR r) q9 := by rw [e_q9]; exact (sf_WF_look  h_q7 h_x2 )
  clear e_q9
  refine ok_let (fun q11 e_q11 => ?_)
  have h_q11 : (fun r => IM r) q11 := by rw [e_q11]; exact (sf_Laws_name  h_q7 (inr_c rfl) )
  clear e_q11
  refine ok_let (fun q13 e_q13 => ?_)
  have h_q13 : (fun r => InR r) q13 := by rw [e_q13]; exact (sf_WF_look  h_q11 h_x2 )
  clear e_q13
  refine ok_let (fun q15 e_q15 => ?_)
  have h_q15 : (fun r => IM r) q15 := by rw [e_q15]; exact (sf_Laws_name  h_q11 (inr_c rfl) )
  clear e_q15
  refine ok_let (fun q17 e_q17 => ?_)
  have h_q17 : (fun r => InR r) q17 := by rw [e_q17]; exact (sf_WF_look  h_q15 h_x2 )
  clear e_q17
  refine ok_let (fun q19 e_q19 => ?_)
  have h_q19 : (fun r => IM r) q19 := by rw [e_q19]; exact (sf_Laws_name  h_q15 (inr_c rfl) )
  clear e_q19
  refine ok_let (fun q21 e_q21 => ?_)
  have h_q21 : (fun r => IM r) q21 := by rw [e_q21]; exact (sf_Laws_name  h_q19 (inr_c rfl) )
  clear e_q21
  refine ok_let (fun q23 e_q23 => ?_)
  have h_q23 : (fun r => IM r) q23 := by rw [e_q23]; exact (sf_Laws_name  h_q21 (inr_c rfl) )
  clear e_q23
  refine ok_bind (Q := fun r => IM r.1) (sf_Formula_value  h_q23  ) (fun q25 h_q25 => ?_)
  exact ok_some h_q25
theorem sf_Laws_joyOf {k1 : Nat} {x2 : Int} {x3 : Int} {M : Mem}   (h_M : IM M) (h_x2 : InR x2) (h_x3 : InR x3)  : Ok (fun r => IM r.1 ∧ InR r.2) (t_Laws_joyOf M k1 x2 x3) := by
  unfold t_Laws_joyOf
  refine ok_bind (Q := fun r => IM r.1) (sf_Laws_joyTold  h_M h_x2 h_x3 ) (fun q1 h_q1 => ?_)
  refine ok_ite (fun c_1 => ?_) (fun c_1 => ?_)
  · refine ok_let (fun q4 e_q4 => ?_)
    have h_q4 : (fun r => InR r) q4 := by rw [e_q4]; exact (sf_WF_look  h_q1 h_x2 )
    clear e_q4
    exact ok_some ⟨h_q1, h_q4⟩
  · exact ok_some ⟨h_q1, (inrq_l2i)⟩
theorem sf_WF_ward {x1 : Int} {x2 : Int} {M : Mem}   (h_M : IM M) (h_x1 : InR x1) (h_x2 : InR x2)  : Ok (fun r => IM r.1 ∧ InR r.2) (t_WF_ward M x1 x2) := by
  unfold t_WF_ward
  refine ok_let (fun q2 e_q2 => ?_)
  have h_q2 : (fun r => InR r) q2 := by rw [e_q2]; exact (sf_Town_hasWard  h_M h_x1 )
  clear e_q2
  refine ok_ite (fun c_1 => ?_) (fun c_1 => ?_)
  · exact ok_some ⟨h_M, (inr_c rfl)⟩
  · refine ok_ite (fun c_2 => ?_) (fun c_2 => ?_)
    · refine ok_let (fun q6 e_q6 => ?_)
      have h_q6 : (fun r => InR r) q6 := by rw [e_q6]; exact (sf_WF_look  h_M h_x1 )
      clear e_q6
      exact ok_some ⟨h_M, h_q6⟩
    · refine ok_ite (fun c_3 => ?_) (fun c_3 => ?_)
      · refine ok_let (fun q10 e_q10 => ?_)
        have h_q10 : (fun r => InR r) q10 := by rw [e_q10]; exact (sf_WF_look  h_M h_x1 )
        clear e_q10
        exact ok_some ⟨h_M, h_q10⟩
      · refine ok_ite (fun c_4 => ?_) (fun c_4 => ?_)
        · refine ok_let (fun q14 e_q14 => ?_)
          have h_q14 : (fun r => InR r) q14 := by rw [e_q14]; exact (sf_WF_look  h_M h_x1 )
          clear e_q14
          exact ok_some ⟨h_M, h_q14⟩
        · refine ok_ite (fun c_5 => ?_) (fun c_5 => ?_)
          · refine ok_bind (Q := fun r => IM r) (sf_Laws_measure  h_M  ) (fun q18 h_q18 => ?_)
            refine ok_bind (Q := fun r => IM r.1 ∧ InR r.2) (sf_Laws_joyOf  h_q18 h_x1 (h_q18 _ _) ) (fun q22 h_q22 => ?_)
            exact ok_some ⟨h_q22.1, h_q22.2⟩
          · exact ok_some ⟨h_M, (inr_c rfl)⟩
theorem sf_Town_hasThing {k0 : Nat} {x1 : Int} {M : Mem} (h_M : IM M) (h_x1 : InR x1) : (fun r => InR r) (t_Town_hasThing M k0 x1) := by
  show Pl (fun r => InR r) (t_Town_hasThing M k0 x1)
  unfold t_Town_hasThing
  refine pl_ite (fun c_1 => ?_) (fun c_1 => ?_)
  · exact (inr_c rfl)
  · refine pl_ite (fun c_2 => ?_) (fun c_2 => ?_)
    · exact (inr_c rfl)
    · exact (inr_c rfl)
theorem sf_WF_thing {x1 : Int} {x2 : Int} {M : Mem} (h_M : IM M) (h_x1 : InR x1) (h_x2 : InR x2) : (fun r => InR r) (t_WF_thing M x1 x2) := by
  show Pl (fun r => InR r) (t_WF_thing M x1 x2)
  unfold t_WF_thing
  refine pl_let (fun q2 e_q2 => ?_)
  have h_q2 : (fun r => InR r) q2 := by rw [e_q2]; exact (sf_Town_hasThing  h_M h_x1 )
  clear e_q2
  refine pl_ite (fun c_1 => ?_) (fun c_1 => ?_)
  · exact (inr_c rfl)
  · refine pl_ite (fun c_2 => ?_) (fun c_2 => ?_)
    · refine pl_let (fun q6 e_q6 => ?_)
      have h_q6 : (fun r => InR r) q6 := by rw [e_q6]; exact (sf_WF_look  h_M h_x1 )
      clear e_q6
      exact h_q6
    · refine pl_ite (fun c_3 => ?_) (fun c_3 => ?_)
      · refine pl_let (fun q10 e_q10 => ?_)
        have h_q10 : (fun r => InR r) q10 := by rw [e_q10]; exact (sf_WF_look  h_M h_x1 )
        clear e_q10
        exact h_q10
      · refine pl_ite (fun c_4 => ?_) (fun c_4 => ?_)
        · refine pl_let (fun q13 e_q13 => ?_)
          have h_q13 : (fun r => InR r) q13 := by rw [e_q13]; exact (sf_WF_look  h_M h_x1 )
          clear e_q13
          exact h_q13
        · refine pl_ite (fun c_5 => ?_) (fun c_5 => ?_)
          · refine pl_let (fun q16 e_q16 => ?_)
            have h_q16 : (fun r => InR r) q16 := by rw [e_q16]; exact (sf_WF_look  h_M h_x1 )
            clear e_q16
            exact h_q16
          · exact (inr_c rfl)
theorem sf_Laws_pushFrom_L205 {k1 : Nat} {k2 : Nat} {x3 : Int} {x4 : Int} {x5 : Int} {v4_ : Int} {v5_ : Int64} {M : Mem}   (h_M : IM M) (h_x3 : InR x3) (h_x4 : InR x4) (h_x5 : InR x5) (h_v4_ : InR v4_)  : Ok (fun r => IM r.1) (t_Laws_pushFrom_L205 k1 k2 x3 x4 x5 M v4_ v5_) := by
  unfold t_Laws_pushFrom_L205
  refine ok_let (fun q41 e_q41 => ?_)
  have h_q41 : (fun r => IM r) q41 := by rw [e_q41]; exact (sf_Laws_name  h_M h_v4_ )
  clear e_q41
  refine ok_let (fun q43 e_q43 => ?_)
  have h_q43 : (fun r => IM r) q43 := by rw [e_q43]; exact (sf_Laws_name  h_q41 (inr_c rfl) )
  clear e_q43
  refine ok_bind (Q := fun r => IM r.1) (sf_Formula_value  h_q43  ) (fun q45 h_q45 => ?_)
  exact ok_some h_q45
theorem sf_Laws_pushFrom_L204 {k1 : Nat} {k2 : Nat} {x3 : Int} {x4 : Int} {x5 : Int} {v4_ : Int} {M : Mem}   (h_M : IM M) (h_x3 : InR x3) (h_x4 : InR x4) (h_x5 : InR x5) (h_v4_ : InR v4_)  : Ok (fun r => IM r.1) (t_Laws_pushFrom_L204 k1 k2 x3 x4 x5 M v4_) := by
  unfold t_Laws_pushFrom_L204
  exact (sf_Laws_pushFrom_L205  h_M h_x3 h_x4 h_x5 h_v4_ )
theorem sf_Laws_pushFrom_L177 {k1 : Nat} {k2 : Nat} {x3 : Int} {x4 : Int} {x5 : Int} {v4_ : Int} {v6_ : Int} {v7_ : Int64} {M : Mem}   (h_M : IM M) (h_x3 : InR x3) (h_x4 : InR x4) (h_x5 : InR x5) (h_v4_ : InR v4_) (h_v6_ : InR v6_)  : Ok (fun r => IM r.1) (t_Laws_pushFrom_L177 k1 k2 x3 x4 x5 M v4_ v6_ v7_) := by
  unfold t_Laws_pushFrom_L177
  refine ok_let (fun q37 e_q37 => ?_)
  have h_q37 : (fun r => IM r) q37 := by rw [e_q37]; exact (sf_Laws_name  h_M h_v6_ )
  clear e_q37
  refine ok_ite (fun c_1 => ?_) (fun c_1 => ?_)
  · exact (sf_Laws_pushFrom_L204  h_q37 h_x3 h_x4 h_x5 (inr_c rfl) )
  · refine ok_ite (fun c_2 => ?_) (fun c_2 => ?_)
    · exact (sf_Laws_pushFrom_L205  h_q37 h_x3 h_x4 h_x5 (inr_c rfl) )
    · exact (sf_Laws_pushFrom_L204  h_q37 h_x3 h_x4 h_x5 (inr_c rfl) )
theorem sf_Laws_pushFrom_L156 {k1 : Nat} {k2 : Nat} {x3 : Int} {x4 : Int} {x5 : Int} {v5_ : Int} {v6_ : Int} {v8_ : Int} {v9_ : Int64} {M : Mem}   (h_M : IM M) (h_x3 : InR x3) (h_x4 : InR x4) (h_x5 : InR x5) (h_v5_ : InR v5_) (h_v6_ : InR v6_) (h_v8_ : InR v8_)  : Ok (fun r => IM r.1) (t_Laws_pushFrom_L156 k1 k2 x3 x4 x5 M v5_ v6_ v8_ v9_) := by
  unfold t_Laws_pushFrom_L156
  refine ok_let (fun q32 e_q32 => ?_)
  have h_q32 : (fun r => IM r) q32 := by rw [e_q32]; exact (sf_Laws_name  h_M h_v8_ )
  clear e_q32
  refine ok_let (fun q34 e_q34 => ?_)
  have h_q34 : (fun r => InR r) q34 := by rw [e_q34]; exact (sf_Town_isLine  h_q32 h_x3 h_v5_ )
  clear e_q34
  refine ok_ite (fun c_1 => ?_) (fun c_1 => ?_)
  · exact (sf_Laws_pushFrom_L177  h_q32 h_x3 h_x4 h_x5 h_v6_ (inr_c rfl) )
  · exact (sf_Laws_pushFrom_L177  h_q32 h_x3 h_x4 h_x5 h_v6_ (inr_c rfl) )
theorem sf_Laws_pushFrom_L131 {k1 : Nat} {k2 : Nat} {x3 : Int} {x4 : Int} {x5 : Int} {v5_ : Int} {v6_ : Int} {v7_ : Int} {v9_ : Int} {v10_ : Int64} {M : Mem}   (h_M : IM M) (h_x3 : InR x3) (h_x4 : InR x4) (h_x5 : InR x5) (h_v5_ : InR v5_) (h_v6_ : InR v6_) (h_v7_ : InR v7_) (h_v9_ : InR v9_)  : Ok (fun r => IM r.1) (t_Laws_pushFrom_L131 k1 k2 x3 x4 x5 M v5_ v6_ v7_ v9_ v10_) := by
  unfold t_Laws_pushFrom_L131
  refine ok_let (fun q27 e_q27 => ?_)
  have h_q27 : (fun r => IM r) q27 := by rw [e_q27]; exact (sf_Laws_name  h_M h_v9_ )
  clear e_q27
  refine ok_ite (fun c_1 => ?_) (fun c_1 => ?_)
  · refine ok_let (fun q30 e_q30 => ?_)
    have h_q30 : (fun r => InR r) q30 := by rw [e_q30]; exact (sf_WF_look  h_q27 h_v6_ )
    clear e_q30
    exact (sf_Laws_pushFrom_L156  h_q27 h_x3 h_x4 h_x5 h_v5_ h_v7_ (inr_c rfl) )
  · exact (sf_Laws_pushFrom_L156  h_q27 h_x3 h_x4 h_x5 h_v5_ h_v7_ (inr_c rfl) )
theorem sf_Laws_pushFrom_L115 {k1 : Nat} {k2 : Nat} {x3 : Int} {x4 : Int} {x5 : Int} {v5_ : Int} {v6_ : Int} {v7_ : Int} {v9_ : Int} {v10_ : Int64} {M : Mem}   (h_M : IM M) (h_x3 : InR x3) (h_x4 : InR x4) (h_x5 : InR x5) (h_v5_ : InR v5_) (h_v6_ : InR v6_) (h_v7_ : InR v7_) (h_v9_ : InR v9_)  : Ok (fun r => IM r.1) (t_Laws_pushFrom_L115 k1 k2 x3 x4 x5 M v5_ v6_ v7_ v9_ v10_) := by
  unfold t_Laws_pushFrom_L115
  refine ok_let (fun q24 e_q24 => ?_)
  have h_q24 : (fun r => IM r) q24 := by rw [e_q24]; exact (sf_Laws_name  h_M h_v9_ )
  clear e_q24
  refine ok_ite (fun c_1 => ?_) (fun c_1 => ?_)
  · exact (sf_Laws_pushFrom_L131  h_q24 h_x3 h_x4 h_x5 h_v5_ h_v6_ h_v7_ (inr_c rfl) )
  · exact (sf_Laws_pushFrom_L131  h_q24 h_x3 h_x4 h_x5 h_v5_ h_v6_ h_v7_ (inr_c rfl) )
theorem sf_Laws_pushFrom_L90 {k1 : Nat} {k2 : Nat} {x3 : Int} {x4 : Int} {x5 : Int} {v5_ : Int} {v6_ : Int} {v7_ : Int} {v8_ : Int} {v10_ : Int} {v11_ : Int64} {M : Mem}   (h_M : IM M) (h_x3 : InR x3) (h_x4 : InR x4) (h_x5 : InR x5) (h_v5_ : InR v5_) (h_v6_ : InR v6_) (h_v7_ : InR v7_) (h_v8_ : InR v8_) (h_v10_ : InR v10_)  : Ok (fun r => IM r.1) (t_Laws_pushFrom_L90 k1 k2 x3 x4 x5 M v5_ v6_ v7_ v8_ v10_ v11_) := by
  unfold t_Laws_pushFrom_L90
  refine ok_let (fun q19 e_q19 => ?_)
  have h_q19 : (fun r => IM r) q19 := by rw [e_q19]; exact (sf_Laws_name  h_M h_v10_ )
  clear e_q19
  refine ok_ite (fun c_1 => ?_) (fun c_1 => ?_)
  · refine ok_let (fun q22 e_q22 => ?_)
    have h_q22 : (fun r => InR r) q22 := by rw [e_q22]; exact (sf_WF_look  h_q19 h_v6_ )
    clear e_q22
    exact (sf_Laws_pushFrom_L115  h_q19 h_x3 h_x4 h_x5 h_v5_ h_v7_ h_v8_ (inr_c rfl) )
  · exact (sf_Laws_pushFrom_L115  h_q19 h_x3 h_x4 h_x5 h_v5_ h_v7_ h_v8_ (inr_c rfl) )
theorem sf_Laws_pushFrom {k1 : Nat} {k2 : Nat} {x3 : Int} {x4 : Int} {x5 : Int} {M : Mem}   (h_M : IM M) (h_x3 : InR x3) (h_x4 : InR x4) (h_x5 : InR x5)  : Ok (fun r => IM r.1) (t_Laws_pushFrom M k1 k2 x3 x4 x5) := by
  unfold t_Laws_pushFrom
  refine ok_let (fun q1 e_q1 => ?_)
  have h_q1 : (fun r => InR r) q1 := by rw [e_q1]; exact (sf_Town_beside  h_M h_x3 h_x4 )
  clear e_q1
  refine ok_ite (fun c_1 => ?_) (fun c_1 => ?_)
  · exact ok_some h_M
  · refine ok_let (fun q4 e_q4 => ?_)
    have h_q4 : (fun r => InR r) q4 := by rw [e_q4]; exact (sf_WF_bitOf  h_M h_x3 )
    clear e_q4
    refine ok_ite (fun c_2 => ?_) (fun c_2 => ?_)
    · exact ok_some h_M
    · refine ok_let (fun q7 e_q7 => ?_)
      have h_q7 : (fun r => InR r) q7 := by rw [e_q7]; exact (sf_WF_bitOf  h_M h_q1 )
      clear e_q7
      refine ok_ite (fun c_3 => ?_) (fun c_3 => ?_)
      · exact ok_some h_M
      · refine ok_let (fun q10 e_q10 => ?_)
        have h_q10 : (fun r => InR r) q10 := by rw [e_q10]; exact (sf_Town_ownerOf  h_M h_q1 )
        clear e_q10
        refine ok_bind (Q := fun r => InR r) (sf_Scene_thingIn  h_M h_q1 ) (fun q12 h_q12 => ?_)
        refine ok_let (fun q14 e_q14 => ?_)
        have h_q14 : (fun r => InR r) q14 := by rw [e_q14]; exact (sf_Scene_downOf  h_M h_x3 )
        clear e_q14
        refine ok_ite (fun c_4 => ?_) (fun c_4 => ?_)
        · refine ok_let (fun q17 e_q17 => ?_)
          have h_q17 : (fun r => InR r) q17 := by rw [e_q17]; exact (sf_WF_look  h_M h_q10 )
          clear e_q17
          exact (sf_Laws_pushFrom_L90  h_M h_x3 h_x4 h_x5 h_q1 h_q10 h_q12 h_q14 (inr_c rfl) )
        · exact (sf_Laws_pushFrom_L90  h_M h_x3 h_x4 h_x5 h_q1 h_q10 h_q12 h_q14 (inr_c rfl) )
theorem sf_WF_law {x1 : Int} {x2 : Int} {x3 : Int} {M : Mem}   (h_M : IM M) (h_x1 : InR x1) (h_x2 : InR x2) (h_x3 : InR x3)  : Ok (fun r => IM r.1) (t_WF_law M x1 x2 x3) := by
  unfold t_WF_law
  refine ok_ite (fun c_1 => ?_) (fun c_1 => ?_)
  · refine ok_bind (Q := fun r => IM r.1) (sf_Laws_pushFrom  h_M h_x2 h_x3 (h_M _ _) ) (fun q16 h_q16 => ?_)
    exact ok_some h_q16
  · refine ok_ite (fun c_2 => ?_) (fun c_2 => ?_)
    · refine ok_let (fun q4 e_q4 => ?_)
      have h_q4 : (fun r => InR r) q4 := by rw [e_q4]; exact (sf_Town_hasWard  h_M h_x2 )
      clear e_q4
      refine ok_ite (fun c_3 => ?_) (fun c_3 => ?_)
      · exact ok_some h_M
      · refine ok_bind (Q := fun r => IM r) (sf_Laws_measure  h_M  ) (fun q8 h_q8 => ?_)
        refine ok_bind (Q := fun r => IM r.1) (sf_Laws_joyTold  h_q8 h_x2 (h_q8 _ _) ) (fun q12 h_q12 => ?_)
        exact ok_some h_q12
    · exact ok_some h_M
theorem sf_WF_isFree {x1 : Int} {M : Mem} (h_M : IM M) (h_x1 : InR x1) : (fun r => InR r) (t_WF_isFree M x1) := by
  show Pl (fun r => InR r) (t_WF_isFree M x1)
  unfold t_WF_isFree
  refine pl_let (fun q2 e_q2 => ?_)
  have h_q2 : (fun r => InR r) q2 := by rw [e_q2]; exact (sf_Town_hasCell  h_M h_x1 )
  clear e_q2
  refine pl_ite (fun c_1 => ?_) (fun c_1 => ?_)
  · exact (inr_c rfl)
  · refine pl_let (fun q5 e_q5 => ?_)
    have h_q5 : (fun r => InR r) q5 := by rw [e_q5]; exact (sf_WF_bitOf  h_M h_x1 )
    clear e_q5
    refine pl_ite (fun c_2 => ?_) (fun c_2 => ?_)
    · exact (inr_c rfl)
    · exact (inr_c rfl)
theorem sf_WF_rest {x1 : Int} {M : Mem}   (h_M : IM M) (h_x1 : InR x1)  : Ok (fun r => IM r.1 ∧ InR r.2) (t_WF_rest M x1) := by
  unfold t_WF_rest
  refine ok_let (fun q1 e_q1 => ?_)
  have h_q1 : (fun r => InR r) q1 := by rw [e_q1]; exact (sf_WF_isFree  h_M h_x1 )
  clear e_q1
  refine ok_ite (fun c_1 => ?_) (fun c_1 => ?_)
  · exact ok_some ⟨h_M, (inr_c rfl)⟩
  · refine ok_bind (Q := fun r => IM r) (sf_Trail_follow  h_M h_x1 ) (fun q5 h_q5 => ?_)
    refine ok_let (fun q7 e_q7 => ?_)
    have h_q7 : (fun r => InR r) q7 := by rw [e_q7]; exact (sf_Trail_end  h_q5  )
    clear e_q7
    exact ok_some ⟨h_q5, h_q7⟩
theorem sf_Trail_cellAt {k0 : Nat} {x1 : Int} {M : Mem}   (h_M : IM M) (h_x1 : InR x1)  : Ok (fun r => InR r) (t_Trail_cellAt M k0 x1) := by
  unfold t_Trail_cellAt
  refine ok_ite (fun c_1 => ?_) (fun c_1 => ?_)
  · refine ok_ite (fun c_2 => ?_) (fun c_2 => ?_)
    · exact ok_some (inr_c rfl)
    · refine ok_ite (fun c_3 => ?_) (fun c_3 => ?_)
      · exact False.elim (by first | omega | contradiction | exact absurd (absl_zero (by assumption)) (by assumption))
      · refine ok_let (fun q9 e_q9 => ?_)
        have h_q9 : (fun r => InR r) q9 := by rw [e_q9]; exact (sf_WF_look  h_M (inr_w32 _) )
        clear e_q9
        exact ok_some h_q9
  · refine ok_let (fun q11 e_q11 => ?_)
    have h_q11 : (fun r => InR r) q11 := by rw [e_q11]; exact (sf_WF_look  h_M h_x1 )
    clear e_q11
    exact ok_some h_q11
theorem sf_WF_way {x1 : Int} {x2 : Int} {M : Mem}   (h_M : IM M) (h_x1 : InR x1) (h_x2 : InR x2)  : Ok (fun r => IM r.1 ∧ InR r.2) (t_WF_way M x1 x2) := by
  unfold t_WF_way
  refine ok_let (fun q1 e_q1 => ?_)
  have h_q1 : (fun r => InR r) q1 := by rw [e_q1]; exact (sf_WF_isFree  h_M h_x1 )
  clear e_q1
  refine ok_ite (fun c_1 => ?_) (fun c_1 => ?_)
  · exact ok_some ⟨h_M, (inr_c rfl)⟩
  · refine ok_ite (fun c_2 => ?_) (fun c_2 => ?_)
    · refine ok_bind (Q := fun r => IM r) (sf_Trail_follow  h_M h_x1 ) (fun q6 h_q6 => ?_)
      refine ok_bind (Q := fun r => InR r) (sf_Trail_cellAt  h_q6 h_x2 ) (fun q8 h_q8 => ?_)
      exact ok_some ⟨h_q6, h_q8⟩
    · exact ok_some ⟨h_M, (inr_c rfl)⟩
theorem sf_WF_falls {x1 : Int} {x2 : Int} {M : Mem}   (h_M : IM M) (h_x1 : InR x1) (h_x2 : InR x2)  : Ok (fun r => IM r.1 ∧ InR r.2) (t_WF_falls M x1 x2) := by
  unfold t_WF_falls
  refine ok_let (fun q1 e_q1 => ?_)
  have h_q1 : (fun r => InR r) q1 := by rw [e_q1]; exact (sf_WF_isFree  h_M h_x1 )
  clear e_q1
  refine ok_ite (fun c_1 => ?_) (fun c_1 => ?_)
  · exact ok_some ⟨h_M, (inr_c rfl)⟩
  · refine ok_bind (Q := fun r => IM r) (sf_Trail_follow  h_M h_x1 ) (fun q5 h_q5 => ?_)
    refine ok_ite (fun c_2 => ?_) (fun c_2 => ?_)
    · exact ok_some ⟨h_q5, (h_q5 _ _)⟩
    · refine ok_ite (fun c_3 => ?_) (fun c_3 => ?_)
      · exact ok_some ⟨h_q5, (h_q5 _ _)⟩
      · refine ok_ite (fun c_4 => ?_) (fun c_4 => ?_)
        · refine ok_ite (fun c_5 => ?_) (fun c_5 => ?_)
          · exact ok_some ⟨h_q5, (h_q5 _ _)⟩
          · exact ok_some ⟨h_q5, (inr_c rfl)⟩
        · exact ok_some ⟨h_q5, (inr_c rfl)⟩
theorem sf_Scene_beat_L131 {k0 : Nat} {k1 : Nat} {x2 : Int} {bk5 : Mem → Int → Int → Option (Mem × Int)} {v3_ : Int} {v4_ : Int} {M : Mem} {c_bk5 : Int} (hbk5 : ∀ (a0_ : Mem) (a1_ : Int) (a2_ : Int), IM a0_ → InR a1_ → InR a2_ → c_bk5 < a2_ → Ok (fun r => IM r.1 ∧ InR r.2) (bk5 a0_ a1_ a2_)) (h_M : IM M) (h_x2 : InR x2) (h_v3_ : InR v3_) (h_v4_ : InR v4_) (g_0 : c_bk5 ≤ v4_ ∧ v4_ ≤ 2147483646) : Ok (fun r => IM r.1 ∧ InR r.2) (t_Scene_beat_L131 k0 k1 x2 bk5 M v3_ v4_) := by
  unfold t_Scene_beat_L131
  have r_v4_ : -2147483648 ≤ v4_ ∧ v4_ ≤ 2147483647 := h_v4_
  have w_1 : (w32 (v4_ + 1)) = v4_ + (1) := w32_id (by unfold InR; omega)
  exact hbk5 _ _ _  h_M h_v3_ (inr_w32 _) (by omega)
theorem sf_Scene_beat_L124 {k0 : Nat} {k1 : Nat} {x2 : Int} {bk5 : Mem → Int → Int → Option (Mem × Int)} {v3_ : Int} {v4_ : Int} {v6_ : Int} {v7_ : Int} {v8_ : Int} {M : Mem} {c_bk5 : Int} (hbk5 : ∀ (a0_ : Mem) (a1_ : Int) (a2_ : Int), IM a0_ → InR a1_ → InR a2_ → c_bk5 < a2_ → Ok (fun r => IM r.1 ∧ InR r.2) (bk5 a0_ a1_ a2_)) (h_M : IM M) (h_x2 : InR x2) (h_v3_ : InR v3_) (h_v4_ : InR v4_) (h_v6_ : InR v6_) (h_v7_ : InR v7_) (h_v8_ : InR v8_) (g_0 : c_bk5 ≤ v4_ ∧ v4_ ≤ 2147483646) : Ok (fun r => IM r.1 ∧ InR r.2) (t_Scene_beat_L124 k0 k1 x2 bk5 M v3_ v4_ v6_ v7_ v8_) := by
  unfold t_Scene_beat_L124
  have r_v4_ : -2147483648 ≤ v4_ ∧ v4_ ≤ 2147483647 := h_v4_
  refine ok_let (fun q24 e_q24 => ?_)
  have h_q24 : (fun r => IM r) q24 := by rw [e_q24]; exact (sf_WF_put  h_M h_v6_ (inr_w32 _) )
  clear e_q24
  exact (sf_Scene_beat_L131 (c_bk5 := c_bk5) (fun a0_ a1_ a2_ h0_ h1_ h2_ z_ => hbk5 a0_ a1_ a2_ h0_ h1_ h2_ (by omega)) h_q24 h_x2 (inr_w32 _) h_v4_ (by omega))
theorem sf_Scene_beat_L62 {k0 : Nat} {k1 : Nat} {x2 : Int} {bk5 : Mem → Int → Int → Option (Mem × Int)} {v3_ : Int} {v4_ : Int} {v5_ : Int} {v6_ : Int} {M : Mem} {c_bk5 : Int} (hbk5 : ∀ (a0_ : Mem) (a1_ : Int) (a2_ : Int), IM a0_ → InR a1_ → InR a2_ → c_bk5 < a2_ → Ok (fun r => IM r.1 ∧ InR r.2) (bk5 a0_ a1_ a2_)) (h_M : IM M) (h_x2 : InR x2) (h_v3_ : InR v3_) (h_v4_ : InR v4_) (h_v5_ : InR v5_) (h_v6_ : InR v6_) (g_0 : c_bk5 ≤ v4_ ∧ v4_ ≤ 2147483646) : Ok (fun r => IM r.1 ∧ InR r.2) (t_Scene_beat_L62 k0 k1 x2 bk5 M v3_ v4_ v5_ v6_) := by
  unfold t_Scene_beat_L62
  have r_v4_ : -2147483648 ≤ v4_ ∧ v4_ ≤ 2147483647 := h_v4_
  refine ok_let (fun q13 e_q13 => ?_)
  have h_q13 : (fun r => IM r) q13 := by rw [e_q13]; exact (sf_WF_put  h_M h_v4_ h_v6_ )
  clear e_q13
  refine ok_let (fun q15 e_q15 => ?_)
  have h_q15 : (fun r => InR r) q15 := by rw [e_q15]; exact (sf_WF_look  h_q13 h_v4_ )
  clear e_q15
  refine ok_let (fun q17 e_q17 => ?_)
  have h_q17 : (fun r => IM r) q17 := by rw [e_q17]; exact (sf_WF_put  h_q13 h_v4_ (inr_w32 _) )
  clear e_q17
  refine ok_let (fun q19 e_q19 => ?_)
  have h_q19 : (fun r => InR r) q19 := by rw [e_q19]; exact (sf_WF_look  h_q17 h_v4_ )
  clear e_q19
  refine ok_let (fun q21 e_q21 => ?_)
  have h_q21 : (fun r => InR r) q21 := by rw [e_q21]; exact (sf_Town_isLine  h_q17 h_v5_ h_v6_ )
  clear e_q21
  refine ok_ite (fun c_1 => ?_) (fun c_1 => ?_)
  · exact (sf_Scene_beat_L124 (c_bk5 := c_bk5) (fun a0_ a1_ a2_ h0_ h1_ h2_ z_ => hbk5 a0_ a1_ a2_ h0_ h1_ h2_ (by omega)) h_q17 h_x2 h_v3_ h_v4_ h_v4_ h_q19 (inr_c rfl) (by omega))
  · exact (sf_Scene_beat_L124 (c_bk5 := c_bk5) (fun a0_ a1_ a2_ h0_ h1_ h2_ z_ => hbk5 a0_ a1_ a2_ h0_ h1_ h2_ (by omega)) h_q17 h_x2 h_v3_ h_v4_ h_v4_ h_q19 (inr_c rfl) (by omega))
theorem sf_Scene_beat_L41 {k0 : Nat} {k1 : Nat} {x2 : Int} {bk5 : Mem → Int → Int → Option (Mem × Int)} {v3_ : Int} {v4_ : Int} {v5_ : Int} {v6_ : Int} {M : Mem} {c_bk5 : Int} (hbk5 : ∀ (a0_ : Mem) (a1_ : Int) (a2_ : Int), IM a0_ → InR a1_ → InR a2_ → c_bk5 < a2_ → Ok (fun r => IM r.1 ∧ InR r.2) (bk5 a0_ a1_ a2_)) (h_M : IM M) (h_x2 : InR x2) (h_v3_ : InR v3_) (h_v4_ : InR v4_) (h_v5_ : InR v5_) (h_v6_ : InR v6_) (g_0 : c_bk5 ≤ v4_ ∧ v4_ ≤ 2147483646) : Ok (fun r => IM r.1 ∧ InR r.2) (t_Scene_beat_L41 k0 k1 x2 bk5 M v3_ v4_ v5_ v6_) := by
  unfold t_Scene_beat_L41
  have r_v4_ : -2147483648 ≤ v4_ ∧ v4_ ≤ 2147483647 := h_v4_
  refine ok_ite (fun c_1 => ?_) (fun c_1 => ?_)
  · exact (sf_Scene_beat_L131 (c_bk5 := c_bk5) (fun a0_ a1_ a2_ h0_ h1_ h2_ z_ => hbk5 a0_ a1_ a2_ h0_ h1_ h2_ (by omega)) h_M h_x2 h_v3_ h_v4_ (by omega))
  · refine ok_ite (fun c_2 => ?_) (fun c_2 => ?_)
    · exact (sf_Scene_beat_L62 (c_bk5 := c_bk5) (fun a0_ a1_ a2_ h0_ h1_ h2_ z_ => hbk5 a0_ a1_ a2_ h0_ h1_ h2_ (by omega)) h_M h_x2 h_v3_ h_v4_ h_v5_ h_v6_ (by omega))
    · refine ok_bind (Q := fun r => InR r) (sf_Scene_thingIn  h_M h_v6_ ) (fun q10 h_q10 => ?_)
      refine ok_ite (fun c_3 => ?_) (fun c_3 => ?_)
      · exact (sf_Scene_beat_L131 (c_bk5 := c_bk5) (fun a0_ a1_ a2_ h0_ h1_ h2_ z_ => hbk5 a0_ a1_ a2_ h0_ h1_ h2_ (by omega)) h_M h_x2 h_v3_ h_v4_ (by omega))
      · exact (sf_Scene_beat_L62 (c_bk5 := c_bk5) (fun a0_ a1_ a2_ h0_ h1_ h2_ z_ => hbk5 a0_ a1_ a2_ h0_ h1_ h2_ (by omega)) h_M h_x2 h_v3_ h_v4_ h_v5_ h_v6_ (by omega))
theorem sf_Scene_beat_L5 {k0 : Nat} {k1 : Nat} {x2 : Int}   (h_x2 : InR x2) : ∀ (fu : Nat) (M : Mem) (v3_ : Int) (v4_ : Int), IM M → InR v3_ → InR v4_ → 2147483648 - v4_ < (fu : Int) → Ok (fun r => IM r.1 ∧ InR r.2) (t_Scene_beat_L5 k0 k1 x2 fu M v3_ v4_) := by
  intro fu
  induction fu with
  | zero => intro M v3_ v4_ h_M h_v3_ h_v4_ hf; have r_ := (h_v4_ : InR v4_); unfold InR at r_; exact absurd hf (by omega)
  | succ fu ih =>
    intro M v3_ v4_ h_M h_v3_ h_v4_ hf
    rw [t_Scene_beat_L5]
    have r_v4_ : -2147483648 ≤ v4_ ∧ v4_ ≤ 2147483647 := h_v4_
    refine ok_ite (fun c_1 => ?_) (fun c_1 => ?_)
    · exact ok_some ⟨h_M, h_v3_⟩
    · have f_2 : v4_ ≤ 2147483646 := by have b_ : (M.1 k1 15) ≤ 2147483647 := ((h_M _ _)).2; omega
      refine ok_let (fun q3 e_q3 => ?_)
      have h_q3 : (fun r => InR r) q3 := by rw [e_q3]; exact (sf_WF_look  h_M h_v4_ )
      clear e_q3
      refine ok_ite (fun c_3 => ?_) (fun c_3 => ?_)
      · refine ok_let (fun q6 e_q6 => ?_)
        have h_q6 : (fun r => InR r) q6 := by rw [e_q6]; exact (sf_Scene_nextOf  h_M h_q3 )
        clear e_q6
        exact (sf_Scene_beat_L41 (c_bk5 := v4_) (fun a0_ a1_ a2_ h0_ h1_ h2_ z_ => ih a0_ a1_ a2_ h0_ h1_ h2_ (by omega)) h_M h_x2 h_v3_ h_v4_ h_q3 h_q6 (by omega))
      · exact (sf_Scene_beat_L41 (c_bk5 := v4_) (fun a0_ a1_ a2_ h0_ h1_ h2_ z_ => ih a0_ a1_ a2_ h0_ h1_ h2_ (by omega)) h_M h_x2 h_v3_ h_v4_ h_q3 (inr_c rfl) (by omega))
theorem sf_Scene_beat {k0 : Nat} {k1 : Nat} {x2 : Int} {M : Mem}   (h_M : IM M) (h_x2 : InR x2)  : Ok (fun r => IM r.1 ∧ InR r.2) (t_Scene_beat M k0 k1 x2) := by
  unfold t_Scene_beat
  exact (sf_Scene_beat_L5  h_x2 _ _ _ _ h_M (inr_c rfl) (inr_c rfl) (fu_up (inr_c rfl)))
theorem sf_WF_beats_L17 {x1 : Int}   (h_x1 : InR x1) : ∀ (fu : Nat) (M : Mem) (v2_ : Int) (v3_ : Int), IM M → InR v2_ → InR v3_ → 2147483648 - v3_ < (fu : Int) → Ok (fun r => IM r.1 ∧ InR r.2) (t_WF_beats_L17 x1 fu M v2_ v3_) := by
  intro fu
  induction fu with
  | zero => intro M v2_ v3_ h_M h_v2_ h_v3_ hf; have r_ := (h_v3_ : InR v3_); unfold InR at r_; exact absurd hf (by omega)
  | succ fu ih =>
    intro M v2_ v3_ h_M h_v2_ h_v3_ hf
    rw [t_WF_beats_L17]
    have r_v3_ : -2147483648 ≤ v3_ ∧ v3_ ≤ 2147483647 := h_v3_
    refine ok_ite (fun c_1 => ?_) (fun c_1 => ?_)
    · refine ok_ite (fun c_2 => ?_) (fun c_2 => ?_)
      · exact ok_some ⟨h_M, h_v2_⟩
      · refine ok_let (fun M6 e_M6 => ?_)
        have h_M6 : IM M6 := by rw [e_M6]; exact IM.setI h_M (inr_w32 _)
        clear e_M6
        refine ok_let (fun q7 e_q7 => ?_)
        have h_q7 : (fun r => IM r) q7 := by rw [e_q7]; exact (sf_Past_clear  h_M6  )
        clear e_q7
        refine ok_let (fun M9 e_M9 => ?_)
        have h_M9 : IM M9 := by rw [e_M9]; exact IM.setI h_q7 (inr_c rfl)
        clear e_M9
        exact ok_some ⟨h_M9, h_v2_⟩
    · have f_3 : v3_ ≤ 2147483646 := by have b_ : x1 ≤ 2147483647 := (h_x1).2; omega
      refine ok_bind (Q := fun r => IM r.1 ∧ InR r.2) (sf_Scene_beat  h_M (inr_c rfl) ) (fun q11 h_q11 => ?_)
      have w_4 : (w32 (v3_ + 1)) = v3_ + (1) := w32_id (by unfold InR; omega)
      exact (ih _ _ _ h_q11.1 (inr_w32 _) (inr_w32 _) (by omega))
theorem sf_WF_beats {x1 : Int} {M : Mem}   (h_M : IM M) (h_x1 : InR x1)  : Ok (fun r => IM r.1 ∧ InR r.2) (t_WF_beats M x1) := by
  unfold t_WF_beats
  refine ok_ite (fun c_1 => ?_) (fun c_1 => ?_)
  · exact ok_some ⟨h_M, (inr_c rfl)⟩
  · refine ok_ite (fun c_2 => ?_) (fun c_2 => ?_)
    · exact (sf_WF_beats_L17  h_x1 _ _ _ _ h_M (inr_c rfl) (inr_c rfl) (fu_up (inr_c rfl)))
    · exact ok_some ⟨h_M, (inr_c rfl)⟩
theorem sf_Scene_copy {k0 : Nat} {k1 : Nat} {M : Mem} (h_M : IM M)  : (fun r => IM r) (t_Scene_copy M k0 k1) := by
  show Pl (fun r => IM r) (t_Scene_copy M k0 k1)
  unfold t_Scene_copy
  refine pl_let (fun q1 e_q1 => ?_)
  have h_q1 : (fun r => IM r) q1 := by rw [e_q1]; exact (sf_WF_copyRow  h_M  )
  clear e_q1
  refine pl_let (fun q3 e_q3 => ?_)
  have h_q3 : (fun r => IM r) q3 := by rw [e_q3]; exact (sf_WF_copyRow  h_q1  )
  clear e_q3
  refine pl_let (fun q5 e_q5 => ?_)
  have h_q5 : (fun r => IM r) q5 := by rw [e_q5]; exact (sf_WF_copyRow  h_q3  )
  clear e_q5
  refine pl_let (fun q7 e_q7 => ?_)
  have h_q7 : (fun r => IM r) q7 := by rw [e_q7]; exact (sf_WF_copyRow  h_q5  )
  clear e_q7
  refine pl_let (fun M9 e_M9 => ?_)
  have h_M9 : IM M9 := by rw [e_M9]; exact IM.setL h_q7
  clear e_M9
  refine pl_let (fun M10 e_M10 => ?_)
  have h_M10 : IM M10 := by rw [e_M10]; exact IM.setL h_M9
  clear e_M10
  refine pl_let (fun M11 e_M11 => ?_)
  have h_M11 : IM M11 := by rw [e_M11]; exact IM.setL h_M10
  clear e_M11
  exact h_M11
theorem sf_Past_remember_L72 {k1 : Nat} {M : Mem} (h_M : IM M)  : (fun r => IM r) (t_Past_remember_L72 k1 M) := by
  show Pl (fun r => IM r) (t_Past_remember_L72 k1 M)
  unfold t_Past_remember_L72
  refine pl_let (fun M16 e_M16 => ?_)
  have h_M16 : IM M16 := by rw [e_M16]; exact IM.setI h_M (inr_min (inr_w32 _) (inr_c rfl))
  clear e_M16
  exact h_M16
theorem sf_Past_remember_L25 {k1 : Nat} {v3_ : Int} {M : Mem} (h_M : IM M) (h_v3_ : InR v3_) : (fun r => IM r) (t_Past_remember_L25 k1 M v3_) := by
  show Pl (fun r => IM r) (t_Past_remember_L25 k1 M v3_)
  unfold t_Past_remember_L25
  refine pl_let (fun M4 e_M4 => ?_)
  have h_M4 : IM M4 := by rw [e_M4]; exact IM.setI h_M h_v3_
  clear e_M4
  refine pl_ite (fun c_1 => ?_) (fun c_1 => ?_)
  · exact (sf_Past_remember_L72  h_M4  )
  · refine pl_ite (fun c_2 => ?_) (fun c_2 => ?_)
    · exact (sf_Past_remember_L72  h_M4  )
    · refine pl_let (fun q13 e_q13 => ?_)
      have h_q13 : (fun r => IM r) q13 := by rw [e_q13]; exact (sf_Scene_copy  h_M4  )
      clear e_q13
      exact (sf_Past_remember_L72  h_q13  )
theorem sf_Past_remember {k1 : Nat} {M : Mem} (h_M : IM M)  : (fun r => IM r) (t_Past_remember M k1) := by
  show Pl (fun r => IM r) (t_Past_remember M k1)
  unfold t_Past_remember
  refine pl_ite (fun c_1 => ?_) (fun c_1 => ?_)
  · exact (sf_Past_remember_L25  h_M (inr_c rfl) )
  · exact (sf_Past_remember_L25  h_M (inr_w32 _) )
theorem sf_Scene_pourOne_L54 {k0 : Nat} {k1 : Nat} {x2 : Int} {v1_ : Int} {v2_ : Int} {M : Mem}   (h_M : IM M) (h_x2 : InR x2) (h_v1_ : InR v1_) (h_v2_ : InR v2_)  : Ok (fun r => IM r.1 ∧ InR r.2) (t_Scene_pourOne_L54 k0 k1 x2 M v1_ v2_) := by
  unfold t_Scene_pourOne_L54
  refine ok_let (fun M11 e_M11 => ?_)
  have h_M11 : IM M11 := by rw [e_M11]; exact IM.setL h_M
  clear e_M11
  exact ok_some ⟨h_M11, h_v2_⟩
theorem sf_Scene_pourOne_L38 {k0 : Nat} {k1 : Nat} {x2 : Int} {v1_ : Int} {M : Mem}   (h_M : IM M) (h_x2 : InR x2) (h_v1_ : InR v1_)  : Ok (fun r => IM r.1 ∧ InR r.2) (t_Scene_pourOne_L38 k0 k1 x2 M v1_) := by
  unfold t_Scene_pourOne_L38
  refine ok_let (fun q8 e_q8 => ?_)
  have h_q8 : (fun r => InR r) q8 := by rw [e_q8]; exact (sf_WF_bitOf  h_M h_v1_ )
  clear e_q8
  refine ok_ite (fun c_1 => ?_) (fun c_1 => ?_)
  · exact (sf_Scene_pourOne_L54  h_M h_x2 h_v1_ (inr_c rfl) )
  · exact (sf_Scene_pourOne_L54  h_M h_x2 h_v1_ (inr_c rfl) )
theorem sf_Scene_pourOne_L5 {k0 : Nat} {k1 : Nat} {x2 : Int}   (h_x2 : InR x2) : ∀ (fu : Nat) (M : Mem) (v2_ : Int) (v3_ : Int), IM M → InR v2_ → InR v3_ → 2147483648 - v3_ < (fu : Int) → Ok (fun r => IM r.1 ∧ InR r.2) (t_Scene_pourOne_L5 k0 k1 x2 fu M v2_ v3_) := by
  intro fu
  induction fu with
  | zero => intro M v2_ v3_ h_M h_v2_ h_v3_ hf; have r_ := (h_v3_ : InR v3_); unfold InR at r_; exact absurd hf (by omega)
  | succ fu ih =>
    intro M v2_ v3_ h_M h_v2_ h_v3_ hf
    rw [t_Scene_pourOne_L5]
    have r_v3_ : -2147483648 ≤ v3_ ∧ v3_ ≤ 2147483647 := h_v3_
    refine ok_ite (fun c_1 => ?_) (fun c_1 => ?_)
    · exact ok_some ⟨h_M, (inr_c rfl)⟩
    · have f_2 : v3_ ≤ 2147483646 := by omega
      refine ok_let (fun q2 e_q2 => ?_)
      have h_q2 : (fun r => InR r) q2 := by rw [e_q2]; exact (sf_Scene_nextOf  h_M h_v2_ )
      clear e_q2
      refine ok_ite (fun c_3 => ?_) (fun c_3 => ?_)
      · exact (sf_Scene_pourOne_L38  h_M h_x2 h_v2_ )
      · refine ok_let (fun q5 e_q5 => ?_)
        have h_q5 : (fun r => InR r) q5 := by rw [e_q5]; exact (sf_WF_bitOf  h_M h_q2 )
        clear e_q5
        refine ok_ite (fun c_4 => ?_) (fun c_4 => ?_)
        · exact (sf_Scene_pourOne_L38  h_M h_x2 h_v2_ )
        · have w_5 : (w32 (v3_ + 1)) = v3_ + (1) := w32_id (by unfold InR; omega)
          exact (ih _ _ _ h_M h_q2 (inr_w32 _) (by omega))
theorem sf_Scene_pourOne {k0 : Nat} {k1 : Nat} {x2 : Int} {M : Mem}   (h_M : IM M) (h_x2 : InR x2)  : Ok (fun r => IM r.1 ∧ InR r.2) (t_Scene_pourOne M k0 k1 x2) := by
  unfold t_Scene_pourOne
  exact (sf_Scene_pourOne_L5  h_x2 _ _ _ _ h_M h_x2 (inr_c rfl) (fu_up (inr_c rfl)))
theorem sf_Scene_pourAnew_L40 {k0 : Nat} {k1 : Nat} {bk13 : Mem → Int64 → Int → Option (Mem)} {v2_ : Int64} {v3_ : Int} {M : Mem} {c_bk13 : Int} (hbk13 : ∀ (a0_ : Mem) (a1_ : Int64) (a2_ : Int), IM a0_ → True → InR a2_ → c_bk13 < a2_ → Ok (fun r => IM r) (bk13 a0_ a1_ a2_)) (h_M : IM M) (h_v3_ : InR v3_) (g_0 : c_bk13 ≤ v3_ ∧ v3_ ≤ 2147483646) : Ok (fun r => IM r) (t_Scene_pourAnew_L40 k0 k1 bk13 M v2_ v3_) := by
  unfold t_Scene_pourAnew_L40
  have r_v3_ : -2147483648 ≤ v3_ ∧ v3_ ≤ 2147483647 := h_v3_
  have w_1 : (w32 (v3_ + 1)) = v3_ + (1) := w32_id (by unfold InR; omega)
  exact hbk13 _ _ _  h_M trivial (inr_w32 _) (by omega)
theorem sf_Scene_pourAnew_L13 {k0 : Nat} {k1 : Nat}    : ∀ (fu : Nat) (M : Mem) (v2_ : Int64) (v3_ : Int), IM M → InR v3_ → 2147483648 - v3_ < (fu : Int) → Ok (fun r => IM r) (t_Scene_pourAnew_L13 k0 k1 fu M v2_ v3_) := by
  intro fu
  induction fu with
  | zero => intro M v2_ v3_ h_M h_v3_ hf; have r_ := (h_v3_ : InR v3_); unfold InR at r_; exact absurd hf (by omega)
  | succ fu ih =>
    intro M v2_ v3_ h_M h_v3_ hf
    rw [t_Scene_pourAnew_L13]
    have r_v3_ : -2147483648 ≤ v3_ ∧ v3_ ≤ 2147483647 := h_v3_
    refine ok_ite (fun c_1 => ?_) (fun c_1 => ?_)
    · exact ok_some h_M
    · have f_2 : v3_ ≤ 2147483646 := by have b_ : (M.1 k1 13) ≤ 2147483647 := ((h_M _ _)).2; omega
      refine ok_let (fun q4 e_q4 => ?_)
      have h_q4 : (fun r => InR r) q4 := by rw [e_q4]; exact (sf_WF_bitOf  h_M h_v3_ )
      clear e_q4
      refine ok_ite (fun c_3 => ?_) (fun c_3 => ?_)
      · refine ok_bind (Q := fun r => IM r.1 ∧ InR r.2) (sf_Scene_pourOne  h_M h_v3_ ) (fun q7 h_q7 => ?_)
        exact (sf_Scene_pourAnew_L40 (c_bk13 := v3_) (fun a0_ a1_ a2_ h0_ h1_ h2_ z_ => ih a0_ a1_ a2_ h0_ h2_ (by omega)) h_q7.1 h_v3_ (by omega))
      · exact (sf_Scene_pourAnew_L40 (c_bk13 := v3_) (fun a0_ a1_ a2_ h0_ h1_ h2_ z_ => ih a0_ a1_ a2_ h0_ h2_ (by omega)) h_M h_v3_ (by omega))
theorem sf_Scene_pourAnew {k0 : Nat} {k1 : Nat} {M : Mem}   (h_M : IM M)   : Ok (fun r => IM r) (t_Scene_pourAnew M k0 k1) := by
  unfold t_Scene_pourAnew
  refine ok_let (fun M1 e_M1 => ?_)
  have h_M1 : IM M1 := by rw [e_M1]; exact IM.setL h_M
  clear e_M1
  exact (sf_Scene_pourAnew_L13   _ _ _ _ h_M1 (inr_c rfl) (fu_up (inr_c rfl)))
theorem sf_WF_vote {x1 : Int} {x2 : Int} {M : Mem}   (h_M : IM M) (h_x1 : InR x1) (h_x2 : InR x2)  : Ok (fun r => IM r.1 ∧ InR r.2) (t_WF_vote M x1 x2) := by
  unfold t_WF_vote
  refine ok_let (fun q2 e_q2 => ?_)
  have h_q2 : (fun r => InR r) q2 := by rw [e_q2]; exact (sf_Town_hasWard  h_M h_x1 )
  clear e_q2
  refine ok_ite (fun c_1 => ?_) (fun c_1 => ?_)
  · exact ok_some ⟨h_M, (inr_c rfl)⟩
  · refine ok_let (fun q5 e_q5 => ?_)
    have h_q5 : (fun r => InR r) q5 := by rw [e_q5]; exact (sf_WF_isDown  h_M h_x2 )
    clear e_q5
    refine ok_ite (fun c_2 => ?_) (fun c_2 => ?_)
    · exact ok_some ⟨h_M, (inr_c rfl)⟩
    · refine ok_let (fun q8 e_q8 => ?_)
      have h_q8 : (fun r => InR r) q8 := by rw [e_q8]; exact (sf_WF_look  h_M h_x1 )
      clear e_q8
      refine ok_ite (fun c_3 => ?_) (fun c_3 => ?_)
      · exact ok_some ⟨h_M, (inr_c rfl)⟩
      · refine ok_let (fun q11 e_q11 => ?_)
        have h_q11 : (fun r => IM r) q11 := by rw [e_q11]; exact (sf_Past_remember  h_M  )
        clear e_q11
        refine ok_let (fun q13 e_q13 => ?_)
        have h_q13 : (fun r => IM r) q13 := by rw [e_q13]; exact (sf_WF_put  h_q11 h_x1 h_x2 )
        clear e_q13
        refine ok_bind (Q := fun r => IM r) (sf_Scene_pourAnew  h_q13  ) (fun q16 h_q16 => ?_)
        exact ok_some ⟨h_q16, (inr_c rfl)⟩
theorem sf_WF_net_L28 {x1 : Int} {x2 : Int} {v3_ : Int} {M : Mem} (h_M : IM M) (h_x1 : InR x1) (h_x2 : InR x2) (h_v3_ : InR v3_) : (fun r => IM r.1 ∧ InR r.2) (t_WF_net_L28 x1 x2 M v3_) := by
  show Pl (fun r => IM r.1 ∧ InR r.2) (t_WF_net_L28 x1 x2 M v3_)
  unfold t_WF_net_L28
  refine pl_ite (fun c_1 => ?_) (fun c_1 => ?_)
  · exact ⟨h_M, (inr_c rfl)⟩
  · refine pl_let (fun q8 e_q8 => ?_)
    have h_q8 : (fun r => IM r) q8 := by rw [e_q8]; exact (sf_Past_remember  h_M  )
    clear e_q8
    refine pl_let (fun M10 e_M10 => ?_)
    have h_M10 : IM M10 := by rw [e_M10]; exact IM.setL h_q8
    clear e_M10
    refine pl_let (fun M11 e_M11 => ?_)
    have h_M11 : IM M11 := by rw [e_M11]; exact IM.setI h_M10 (inr_c rfl)
    clear e_M11
    exact ⟨h_M11, (inr_c rfl)⟩
theorem sf_WF_net {x1 : Int} {x2 : Int} {M : Mem} (h_M : IM M) (h_x1 : InR x1) (h_x2 : InR x2) : (fun r => IM r.1 ∧ InR r.2) (t_WF_net M x1 x2) := by
  show Pl (fun r => IM r.1 ∧ InR r.2) (t_WF_net M x1 x2)
  unfold t_WF_net
  refine pl_let (fun q1 e_q1 => ?_)
  have h_q1 : (fun r => InR r) q1 := by rw [e_q1]; exact (sf_WF_isFree  h_M h_x1 )
  clear e_q1
  refine pl_ite (fun c_1 => ?_) (fun c_1 => ?_)
  · exact ⟨h_M, (inr_c rfl)⟩
  · refine pl_let (fun q4 e_q4 => ?_)
    have h_q4 : (fun r => InR r) q4 := by rw [e_q4]; exact (sf_WF_bitOf  h_M h_x1 )
    clear e_q4
    refine pl_ite (fun c_2 => ?_) (fun c_2 => ?_)
    · exact (sf_WF_net_L28  h_M h_x1 h_x2 (inr_c rfl) )
    · exact (sf_WF_net_L28  h_M h_x1 h_x2 (inr_c rfl) )
theorem sf_WF_lay {x1 : Int} {x2 : Int} {M : Mem}   (h_M : IM M) (h_x1 : InR x1) (h_x2 : InR x2)  : Ok (fun r => IM r.1 ∧ InR r.2) (t_WF_lay M x1 x2) := by
  unfold t_WF_lay
  refine ok_let (fun q2 e_q2 => ?_)
  have h_q2 : (fun r => InR r) q2 := by rw [e_q2]; exact (sf_Town_hasThing  h_M h_x1 )
  clear e_q2
  refine ok_ite (fun c_1 => ?_) (fun c_1 => ?_)
  · exact ok_some ⟨h_M, (inr_c rfl)⟩
  · refine ok_let (fun q5 e_q5 => ?_)
    have h_q5 : (fun r => InR r) q5 := by rw [e_q5]; exact (sf_WF_isFree  h_M h_x2 )
    clear e_q5
    refine ok_ite (fun c_2 => ?_) (fun c_2 => ?_)
    · exact ok_some ⟨h_M, (inr_c rfl)⟩
    · refine ok_bind (Q := fun r => InR r) (sf_Scene_thingIn  h_M h_x2 ) (fun q9 h_q9 => ?_)
      refine ok_ite (fun c_3 => ?_) (fun c_3 => ?_)
      · refine ok_let (fun q12 e_q12 => ?_)
        have h_q12 : (fun r => IM r) q12 := by rw [e_q12]; exact (sf_Past_remember  h_M  )
        clear e_q12
        refine ok_let (fun q14 e_q14 => ?_)
        have h_q14 : (fun r => IM r) q14 := by rw [e_q14]; exact (sf_WF_put  h_q12 h_x1 h_x2 )
        clear e_q14
        refine ok_let (fun M16 e_M16 => ?_)
        have h_M16 : IM M16 := by rw [e_M16]; exact IM.setI h_q14 (inr_c rfl)
        clear e_M16
        exact ok_some ⟨h_M16, (inr_c rfl)⟩
      · exact ok_some ⟨h_M, (inr_c rfl)⟩
theorem sf_WF_pour_L61 {x1 : Int} {x2 : Int} {bk37 : Mem → Int → Int → Option (Mem × Int)} {v3_ : Int} {v4_ : Int} {M : Mem} {c_bk37 : Int} (hbk37 : ∀ (a0_ : Mem) (a1_ : Int) (a2_ : Int), IM a0_ → InR a1_ → InR a2_ → c_bk37 < a2_ → Ok (fun r => IM r.1 ∧ InR r.2) (bk37 a0_ a1_ a2_)) (h_M : IM M) (h_x1 : InR x1) (h_x2 : InR x2) (h_v3_ : InR v3_) (h_v4_ : InR v4_) (g_0 : c_bk37 ≤ v4_ ∧ v4_ ≤ 2147483646) : Ok (fun r => IM r.1 ∧ InR r.2) (t_WF_pour_L61 x1 x2 bk37 M v3_ v4_) := by
  unfold t_WF_pour_L61
  have r_v4_ : -2147483648 ≤ v4_ ∧ v4_ ≤ 2147483647 := h_v4_
  have w_1 : (w32 (v4_ + 1)) = v4_ + (1) := w32_id (by unfold InR; omega)
  exact hbk37 _ _ _  h_M h_v3_ (inr_w32 _) (by omega)
theorem sf_WF_pour_L37 {x1 : Int} {x2 : Int}   (h_x1 : InR x1) (h_x2 : InR x2) : ∀ (fu : Nat) (M : Mem) (v3_ : Int) (v4_ : Int), IM M → InR v3_ → InR v4_ → 2147483648 - v4_ < (fu : Int) → Ok (fun r => IM r.1 ∧ InR r.2) (t_WF_pour_L37 x1 x2 fu M v3_ v4_) := by
  intro fu
  induction fu with
  | zero => intro M v3_ v4_ h_M h_v3_ h_v4_ hf; have r_ := (h_v4_ : InR v4_); unfold InR at r_; exact absurd hf (by omega)
  | succ fu ih =>
    intro M v3_ v4_ h_M h_v3_ h_v4_ hf
    rw [t_WF_pour_L37]
    have r_v4_ : -2147483648 ≤ v4_ ∧ v4_ ≤ 2147483647 := h_v4_
    refine ok_ite (fun c_1 => ?_) (fun c_1 => ?_)
    · refine ok_ite (fun c_2 => ?_) (fun c_2 => ?_)
      · exact ok_some ⟨h_M, h_v3_⟩
      · refine ok_let (fun q10 e_q10 => ?_)
        have h_q10 : (fun r => IM r) q10 := by rw [e_q10]; exact (sf_Past_remember  h_M  )
        clear e_q10
        refine ok_let (fun M12 e_M12 => ?_)
        have h_M12 : IM M12 := by rw [e_M12]; exact IM.setL h_q10
        clear e_M12
        exact ok_some ⟨h_M12, h_v3_⟩
    · have f_3 : v4_ ≤ 2147483646 := by have b_ : x2 ≤ 2147483647 := (h_x2).2; omega
      refine ok_bind (Q := fun r => IM r.1 ∧ InR r.2) (sf_Scene_pourOne  h_M h_x1 ) (fun q14 h_q14 => ?_)
      refine ok_ite (fun c_4 => ?_) (fun c_4 => ?_)
      · exact (sf_WF_pour_L61 (c_bk37 := v4_) (fun a0_ a1_ a2_ h0_ h1_ h2_ z_ => ih a0_ a1_ a2_ h0_ h1_ h2_ (by omega)) h_q14.1 h_x1 h_x2 h_v3_ h_v4_ (by omega))
      · exact (sf_WF_pour_L61 (c_bk37 := v4_) (fun a0_ a1_ a2_ h0_ h1_ h2_ z_ => ih a0_ a1_ a2_ h0_ h1_ h2_ (by omega)) h_q14.1 h_x1 h_x2 (inr_w32 _) h_v4_ (by omega))
theorem sf_WF_pour {x1 : Int} {x2 : Int} {M : Mem}   (h_M : IM M) (h_x1 : InR x1) (h_x2 : InR x2)  : Ok (fun r => IM r.1 ∧ InR r.2) (t_WF_pour M x1 x2) := by
  unfold t_WF_pour
  refine ok_let (fun q1 e_q1 => ?_)
  have h_q1 : (fun r => InR r) q1 := by rw [e_q1]; exact (sf_WF_isFree  h_M h_x1 )
  clear e_q1
  refine ok_ite (fun c_1 => ?_) (fun c_1 => ?_)
  · exact ok_some ⟨h_M, (inr_c rfl)⟩
  · refine ok_ite (fun c_2 => ?_) (fun c_2 => ?_)
    · exact ok_some ⟨h_M, (inr_c rfl)⟩
    · refine ok_ite (fun c_3 => ?_) (fun c_3 => ?_)
      · refine ok_let (fun q6 e_q6 => ?_)
        have h_q6 : (fun r => IM r) q6 := by rw [e_q6]; exact (sf_Scene_copy  h_M  )
        clear e_q6
        exact (sf_WF_pour_L37  h_x1 h_x2 _ _ _ _ h_q6 (inr_c rfl) (inr_c rfl) (fu_up (inr_c rfl)))
      · exact ok_some ⟨h_M, (inr_c rfl)⟩
theorem sf_WF_drain  {M : Mem} (h_M : IM M)  : (fun r => IM r.1 ∧ InR r.2) (t_WF_drain M) := by
  show Pl (fun r => IM r.1 ∧ InR r.2) (t_WF_drain M)
  unfold t_WF_drain
  refine pl_let (fun q1 e_q1 => ?_)
  have h_q1 : (fun r => InR r) q1 := by rw [e_q1]; exact (sf_Long_bitCount  h_M  )
  clear e_q1
  refine pl_ite (fun c_1 => ?_) (fun c_1 => ?_)
  · exact ⟨h_M, h_q1⟩
  · refine pl_let (fun q4 e_q4 => ?_)
    have h_q4 : (fun r => IM r) q4 := by rw [e_q4]; exact (sf_Past_remember  h_M  )
    clear e_q4
    refine pl_let (fun M6 e_M6 => ?_)
    have h_M6 : IM M6 := by rw [e_M6]; exact IM.setL h_q4
    clear e_M6
    exact ⟨h_M6, h_q1⟩
theorem sf_WF_flood {x1 : Int} {x2 : Int} {M : Mem}   (h_M : IM M) (h_x1 : InR x1) (h_x2 : InR x2)  : Ok (fun r => IM r.1) (t_WF_flood M x1 x2) := by
  unfold t_WF_flood
  refine ok_let (fun q2 e_q2 => ?_)
  have h_q2 : (fun r => InR r) q2 := by rw [e_q2]; exact (sf_Town_hasWard  h_M h_x1 )
  clear e_q2
  refine ok_ite (fun c_1 => ?_) (fun c_1 => ?_)
  · exact ok_some h_M
  · refine ok_let (fun q5 e_q5 => ?_)
    have h_q5 : (fun r => InR r) q5 := by rw [e_q5]; exact (sf_WF_isDown  h_M h_x2 )
    clear e_q5
    refine ok_ite (fun c_2 => ?_) (fun c_2 => ?_)
    · exact ok_some h_M
    · refine ok_let (fun q8 e_q8 => ?_)
      have h_q8 : (fun r => IM r) q8 := by rw [e_q8]; exact (sf_Scene_copy  h_M  )
      clear e_q8
      refine ok_let (fun q10 e_q10 => ?_)
      have h_q10 : (fun r => IM r) q10 := by rw [e_q10]; exact (sf_WF_put  h_q8 h_x1 h_x2 )
      clear e_q10
      refine ok_bind (Q := fun r => IM r) (sf_Scene_pourAnew  h_q10  ) (fun q13 h_q13 => ?_)
      exact ok_some h_q13
theorem sf_WF_canWalk {x1 : Int} {x2 : Int} {M : Mem} (h_M : IM M) (h_x1 : InR x1) (h_x2 : InR x2) : (fun r => InR r) (t_WF_canWalk M x1 x2) := by
  show Pl (fun r => InR r) (t_WF_canWalk M x1 x2)
  unfold t_WF_canWalk
  refine pl_let (fun q2 e_q2 => ?_)
  have h_q2 : (fun r => InR r) q2 := by rw [e_q2]; exact (sf_Town_hasCell  h_M h_x1 )
  clear e_q2
  refine pl_ite (fun c_1 => ?_) (fun c_1 => ?_)
  · exact (inr_c rfl)
  · refine pl_let (fun q6 e_q6 => ?_)
    have h_q6 : (fun r => InR r) q6 := by rw [e_q6]; exact (sf_Town_hasCell  h_M h_x2 )
    clear e_q6
    refine pl_ite (fun c_2 => ?_) (fun c_2 => ?_)
    · exact (inr_c rfl)
    · refine pl_let (fun q10 e_q10 => ?_)
      have h_q10 : (fun r => InR r) q10 := by rw [e_q10]; exact (sf_Scene_standsIn  h_M h_x1 )
      clear e_q10
      refine pl_ite (fun c_3 => ?_) (fun c_3 => ?_)
      · exact (inr_c rfl)
      · refine pl_let (fun q14 e_q14 => ?_)
        have h_q14 : (fun r => InR r) q14 := by rw [e_q14]; exact (sf_Scene_standsIn  h_M h_x2 )
        clear e_q14
        refine pl_ite (fun c_4 => ?_) (fun c_4 => ?_)
        · exact (inr_c rfl)
        · exact (inr_c rfl)
theorem sf_Paths_canStep {k1 : Nat} {k2 : Nat} {x3 : Int} {x4 : Int} {M : Mem} (h_M : IM M) (h_x3 : InR x3) (h_x4 : InR x4) : (fun r => InR r) (t_Paths_canStep M k1 k2 x3 x4) := by
  show Pl (fun r => InR r) (t_Paths_canStep M k1 k2 x3 x4)
  unfold t_Paths_canStep
  refine pl_ite (fun c_1 => ?_) (fun c_1 => ?_)
  · exact (inr_c rfl)
  · refine pl_let (fun q2 e_q2 => ?_)
    have h_q2 : (fun r => InR r) q2 := by rw [e_q2]; exact (sf_Scene_standsIn  h_M h_x3 )
    clear e_q2
    refine pl_ite (fun c_2 => ?_) (fun c_2 => ?_)
    · exact (inr_c rfl)
    · refine pl_let (fun q5 e_q5 => ?_)
      have h_q5 : (fun r => InR r) q5 := by rw [e_q5]; exact (sf_Scene_standsIn  h_M h_x4 )
      clear e_q5
      refine pl_ite (fun c_3 => ?_) (fun c_3 => ?_)
      · exact (inr_c rfl)
      · refine pl_let (fun q8 e_q8 => ?_)
        have h_q8 : (fun r => InR r) q8 := by rw [e_q8]; exact (sf_Town_isLine  h_M h_x3 h_x4 )
        clear e_q8
        refine pl_ite (fun c_4 => ?_) (fun c_4 => ?_)
        · exact (inr_c rfl)
        · refine pl_let (fun q11 e_q11 => ?_)
          have h_q11 : (fun r => InR r) q11 := by rw [e_q11]; exact (sf_WF_bitOf  h_M h_x3 )
          clear e_q11
          refine pl_ite (fun c_5 => ?_) (fun c_5 => ?_)
          · exact (inr_c rfl)
          · refine pl_let (fun q14 e_q14 => ?_)
            have h_q14 : (fun r => InR r) q14 := by rw [e_q14]; exact (sf_WF_bitOf  h_M h_x4 )
            clear e_q14
            refine pl_ite (fun c_6 => ?_) (fun c_6 => ?_)
            · exact (inr_c rfl)
            · exact (inr_c rfl)
theorem sf_Paths_leftBy {k1 : Nat} {x2 : Int} {x3 : Int} {M : Mem} (h_M : IM M) (h_x2 : InR x2) (h_x3 : InR x3) : (fun r => InR r) (t_Paths_leftBy M k1 x2 x3) := by
  show Pl (fun r => InR r) (t_Paths_leftBy M k1 x2 x3)
  unfold t_Paths_leftBy
  refine pl_let (fun q1 e_q1 => ?_)
  have h_q1 : (fun r => InR r) q1 := by rw [e_q1]; exact (sf_WF_look  h_M (inr_w32 _) )
  clear e_q1
  refine pl_let (fun q3 e_q3 => ?_)
  have h_q3 : (fun r => InR r) q3 := by rw [e_q3]; exact (sf_Town_beside  h_M h_x2 h_x3 )
  clear e_q3
  refine pl_let (fun q5 e_q5 => ?_)
  have h_q5 : (fun r => InR r) q5 := by rw [e_q5]; exact (sf_WF_look  h_M h_q3 )
  clear e_q5
  refine pl_ite (fun c_1 => ?_) (fun c_1 => ?_)
  · exact (inr_c rfl)
  · refine pl_ite (fun c_2 => ?_) (fun c_2 => ?_)
    · exact (inr_w32 _)
    · exact (inr_c rfl)
theorem sf_Paths_spread_L70 {k1 : Nat} {bk4 : Mem → Int → Int → Option (Mem × Int)} {bk15 : Mem → Int → Int → Int → Option (Mem × Int)} {v2_ : Int} {v3_ : Int} {v4_ : Int} {M : Mem} {d_bk15_1 : Int} {c_bk15 : Int} (hbk15 : ∀ (a0_ : Mem) (a1_ : Int) (a2_ : Int) (a3_ : Int), IM a0_ → InR a1_ → InR a2_ → InR a3_ → c_bk15 < a3_ ∧ a2_ = d_bk15_1 → Ok (fun r => IM r.1 ∧ InR r.2) (bk15 a0_ a1_ a2_ a3_)) (h_M : IM M) (h_v2_ : InR v2_) (h_v3_ : InR v3_) (h_v4_ : InR v4_) (g_0 : c_bk15 ≤ v4_ ∧ v4_ ≤ 2147483646) (g_1 : v3_ = d_bk15_1) : Ok (fun r => IM r.1 ∧ InR r.2) (t_Paths_spread_L70 k1 bk4 bk15 M v2_ v3_ v4_) := by
  unfold t_Paths_spread_L70
  have r_v4_ : -2147483648 ≤ v4_ ∧ v4_ ≤ 2147483647 := h_v4_
  have w_1 : (w32 (v4_ + 1)) = v4_ + (1) := w32_id (by unfold InR; omega)
  exact hbk15 _ _ _ _  h_M h_v2_ h_v3_ (inr_w32 _) (by omega)
theorem sf_Paths_spread_L58 {k1 : Nat} {bk4 : Mem → Int → Int → Option (Mem × Int)} {bk15 : Mem → Int → Int → Int → Option (Mem × Int)} {v2_ : Int} {v3_ : Int} {v4_ : Int} {M : Mem} {d_bk15_1 : Int} {c_bk15 : Int} (hbk15 : ∀ (a0_ : Mem) (a1_ : Int) (a2_ : Int) (a3_ : Int), IM a0_ → InR a1_ → InR a2_ → InR a3_ → c_bk15 < a3_ ∧ a2_ = d_bk15_1 → Ok (fun r => IM r.1 ∧ InR r.2) (bk15 a0_ a1_ a2_ a3_)) (h_M : IM M) (h_v2_ : InR v2_) (h_v3_ : InR v3_) (h_v4_ : InR v4_) (g_0 : c_bk15 ≤ v3_ ∧ v3_ ≤ 2147483646) (g_1 : v2_ = d_bk15_1) : Ok (fun r => IM r.1 ∧ InR r.2) (t_Paths_spread_L58 k1 bk4 bk15 M v2_ v3_ v4_) := by
  unfold t_Paths_spread_L58
  have r_v3_ : -2147483648 ≤ v3_ ∧ v3_ ≤ 2147483647 := h_v3_
  refine ok_let (fun q11 e_q11 => ?_)
  have h_q11 : (fun r => IM r) q11 := by rw [e_q11]; exact (sf_WF_put  h_M h_v2_ h_v4_ )
  clear e_q11
  exact (sf_Paths_spread_L70 (c_bk15 := c_bk15) (d_bk15_1 := d_bk15_1) (fun a0_ a1_ a2_ a3_ h0_ h1_ h2_ h3_ z_ => hbk15 a0_ a1_ a2_ a3_ h0_ h1_ h2_ h3_ (by omega)) h_q11 (inr_c rfl) h_v2_ h_v3_ (by omega) (by omega))
theorem sf_Paths_spread_L15 {k1 : Nat} {bk4 : Mem → Int → Int → Option (Mem × Int)} {c_bk4 : Int} (hbk4 : ∀ (a0_ : Mem) (a1_ : Int) (a2_ : Int), IM a0_ → InR a1_ → InR a2_ → c_bk4 < a2_ → Ok (fun r => IM r.1 ∧ InR r.2) (bk4 a0_ a1_ a2_))  : ∀ (fu : Nat) (M : Mem) (v2_ : Int) (v3_ : Int) (v4_ : Int), IM M → InR v2_ → InR v3_ → InR v4_ → c_bk4 ≤ v3_ ∧ v3_ ≤ 2147483646 → 2147483648 - v4_ < (fu : Int) → Ok (fun r => IM r.1 ∧ InR r.2) (t_Paths_spread_L15 k1 bk4 fu M v2_ v3_ v4_) := by
  intro fu
  induction fu with
  | zero => intro M v2_ v3_ v4_ h_M h_v2_ h_v3_ h_v4_ g_0 hf; have r_ := (h_v4_ : InR v4_); unfold InR at r_; exact absurd hf (by omega)
  | succ fu ih =>
    intro M v2_ v3_ v4_ h_M h_v2_ h_v3_ h_v4_ g_0 hf
    rw [t_Paths_spread_L15]
    have r_v3_ : -2147483648 ≤ v3_ ∧ v3_ ≤ 2147483647 := h_v3_
    have r_v4_ : -2147483648 ≤ v4_ ∧ v4_ ≤ 2147483647 := h_v4_
    refine ok_ite (fun c_1 => ?_) (fun c_1 => ?_)
    · have w_2 : (w32 (v3_ + 1)) = v3_ + (1) := w32_id (by unfold InR; omega)
      exact hbk4 _ _ _  h_M h_v2_ (inr_w32 _) (by omega)
    · have f_3 : v4_ ≤ 2147483646 := by omega
      refine ok_let (fun q4 e_q4 => ?_)
      have h_q4 : (fun r => InR r) q4 := by rw [e_q4]; exact (sf_Paths_leftBy  h_M h_v3_ h_v4_ )
      clear e_q4
      refine ok_let (fun q6 e_q6 => ?_)
      have h_q6 : (fun r => InR r) q6 := by rw [e_q6]; exact (sf_WF_look  h_M h_v3_ )
      clear e_q6
      refine ok_ite (fun c_4 => ?_) (fun c_4 => ?_)
      · exact (sf_Paths_spread_L70 (c_bk15 := v4_) (d_bk15_1 := v3_) (fun a0_ a1_ a2_ a3_ h0_ h1_ h2_ h3_ z_ => ih a0_ a1_ a2_ a3_ h0_ h1_ h2_ h3_ (by omega) (by omega)) h_M h_v2_ h_v3_ h_v4_ (by omega) (by omega))
      · refine ok_ite (fun c_5 => ?_) (fun c_5 => ?_)
        · exact (sf_Paths_spread_L58 (c_bk15 := v4_) (d_bk15_1 := v3_) (fun a0_ a1_ a2_ a3_ h0_ h1_ h2_ h3_ z_ => ih a0_ a1_ a2_ a3_ h0_ h1_ h2_ h3_ (by omega) (by omega)) h_M h_v3_ h_v4_ h_q4 (by omega) (by omega))
        · refine ok_ite (fun c_6 => ?_) (fun c_6 => ?_)
          · exact (sf_Paths_spread_L70 (c_bk15 := v4_) (d_bk15_1 := v3_) (fun a0_ a1_ a2_ a3_ h0_ h1_ h2_ h3_ z_ => ih a0_ a1_ a2_ a3_ h0_ h1_ h2_ h3_ (by omega) (by omega)) h_M h_v2_ h_v3_ h_v4_ (by omega) (by omega))
          · exact (sf_Paths_spread_L58 (c_bk15 := v4_) (d_bk15_1 := v3_) (fun a0_ a1_ a2_ a3_ h0_ h1_ h2_ h3_ z_ => ih a0_ a1_ a2_ a3_ h0_ h1_ h2_ h3_ (by omega) (by omega)) h_M h_v3_ h_v4_ h_q4 (by omega) (by omega))
theorem sf_Paths_spread_L4 {k1 : Nat}    : ∀ (fu : Nat) (M : Mem) (v2_ : Int) (v3_ : Int), IM M → InR v2_ → InR v3_ → 2147483648 - v3_ < (fu : Int) → Ok (fun r => IM r.1 ∧ InR r.2) (t_Paths_spread_L4 k1 fu M v2_ v3_) := by
  intro fu
  induction fu with
  | zero => intro M v2_ v3_ h_M h_v2_ h_v3_ hf; have r_ := (h_v3_ : InR v3_); unfold InR at r_; exact absurd hf (by omega)
  | succ fu ih =>
    intro M v2_ v3_ h_M h_v2_ h_v3_ hf
    rw [t_Paths_spread_L4]
    have r_v3_ : -2147483648 ≤ v3_ ∧ v3_ ≤ 2147483647 := h_v3_
    refine ok_ite (fun c_1 => ?_) (fun c_1 => ?_)
    · exact ok_some ⟨h_M, h_v2_⟩
    · have f_2 : v3_ ≤ 2147483646 := by have b_ : (M.1 k1 13) ≤ 2147483647 := ((h_M _ _)).2; omega
      exact (sf_Paths_spread_L15 (c_bk4 := v3_) (fun a0_ a1_ a2_ h0_ h1_ h2_ z_ => ih a0_ a1_ a2_ h0_ h1_ h2_ (by omega))  _ _ _ _ _ h_M h_v2_ h_v3_ (inr_c rfl) (by omega) (fu_up (inr_c rfl)))
theorem sf_Paths_spread {k1 : Nat} {M : Mem}   (h_M : IM M)   : Ok (fun r => IM r.1 ∧ InR r.2) (t_Paths_spread M k1) := by
  unfold t_Paths_spread
  exact (sf_Paths_spread_L4   _ _ _ _ h_M (inr_c rfl) (inr_c rfl) (fu_up (inr_c rfl)))
theorem sf_Paths_trace_L76 {k1 : Nat} {x2 : Int} {bk5 : Mem → Int → Int → Option (Mem)} {v2_ : Int} {v3_ : Int} {v4_ : Int} {M : Mem} {c_bk5 : Int} (hbk5 : ∀ (a0_ : Mem) (a1_ : Int) (a2_ : Int), IM a0_ → InR a1_ → InR a2_ → c_bk5 < a2_ → Ok (fun r => IM r) (bk5 a0_ a1_ a2_)) (h_M : IM M) (h_x2 : InR x2) (h_v2_ : InR v2_) (h_v3_ : InR v3_) (h_v4_ : InR v4_) (g_0 : c_bk5 ≤ v3_ ∧ v3_ ≤ 2147483646) : Ok (fun r => IM r) (t_Paths_trace_L76 k1 x2 bk5 M v2_ v3_ v4_) := by
  unfold t_Paths_trace_L76
  have r_v3_ : -2147483648 ≤ v3_ ∧ v3_ ≤ 2147483647 := h_v3_
  refine ok_let (fun q14 e_q14 => ?_)
  have h_q14 : (fun r => InR r) q14 := by rw [e_q14]; exact (sf_Town_beside  h_M h_v2_ h_v4_ )
  clear e_q14
  have w_1 : (w32 (v3_ + 1)) = v3_ + (1) := w32_id (by unfold InR; omega)
  exact hbk5 _ _ _  h_M h_q14 (inr_w32 _) (by omega)
theorem sf_Paths_trace_L45 {k1 : Nat} {x2 : Int} {bk5 : Mem → Int → Int → Option (Mem)} {c_bk5 : Int} (hbk5 : ∀ (a0_ : Mem) (a1_ : Int) (a2_ : Int), IM a0_ → InR a1_ → InR a2_ → c_bk5 < a2_ → Ok (fun r => IM r) (bk5 a0_ a1_ a2_)) (h_x2 : InR x2) : ∀ (fu : Nat) (M : Mem) (v2_ : Int) (v3_ : Int) (v4_ : Int), IM M → InR v2_ → InR v3_ → InR v4_ → c_bk5 ≤ v3_ ∧ v3_ ≤ 2147483646 → 2147483648 - v4_ < (fu : Int) → Ok (fun r => IM r) (t_Paths_trace_L45 k1 x2 bk5 fu M v2_ v3_ v4_) := by
  intro fu
  induction fu with
  | zero => intro M v2_ v3_ v4_ h_M h_v2_ h_v3_ h_v4_ g_0 hf; have r_ := (h_v4_ : InR v4_); unfold InR at r_; exact absurd hf (by omega)
  | succ fu ih =>
    intro M v2_ v3_ v4_ h_M h_v2_ h_v3_ h_v4_ g_0 hf
    rw [t_Paths_trace_L45]
    have r_v3_ : -2147483648 ≤ v3_ ∧ v3_ ≤ 2147483647 := h_v3_
    have r_v4_ : -2147483648 ≤ v4_ ∧ v4_ ≤ 2147483647 := h_v4_
    refine ok_ite (fun c_1 => ?_) (fun c_1 => ?_)
    · exact (sf_Paths_trace_L76 (c_bk5 := c_bk5) (fun a0_ a1_ a2_ h0_ h1_ h2_ z_ => hbk5 a0_ a1_ a2_ h0_ h1_ h2_ (by omega)) h_M h_x2 h_v2_ h_v3_ h_v4_ (by omega))
    · have f_2 : v4_ ≤ 2147483646 := by omega
      refine ok_let (fun q9 e_q9 => ?_)
      have h_q9 : (fun r => InR r) q9 := by rw [e_q9]; exact (sf_Paths_leftBy  h_M h_v2_ h_v4_ )
      clear e_q9
      refine ok_let (fun q11 e_q11 => ?_)
      have h_q11 : (fun r => InR r) q11 := by rw [e_q11]; exact (sf_WF_look  h_M h_v2_ )
      clear e_q11
      refine ok_ite (fun c_3 => ?_) (fun c_3 => ?_)
      · exact (sf_Paths_trace_L76 (c_bk5 := c_bk5) (fun a0_ a1_ a2_ h0_ h1_ h2_ z_ => hbk5 a0_ a1_ a2_ h0_ h1_ h2_ (by omega)) h_M h_x2 h_v2_ h_v3_ h_v4_ (by omega))
      · have w_4 : (w32 (v4_ + 1)) = v4_ + (1) := w32_id (by unfold InR; omega)
        exact (ih _ _ _ _ h_M h_v2_ h_v3_ (inr_w32 _) (by omega) (by omega))
end
