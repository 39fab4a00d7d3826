section
/-! safe rows -/
theorem sf_Reader_readStair {k1 : Nat} {M : Mem}   (h_M : IM M)   : Ok (fun r => IM r.1 ∧ InR r.2) (t_Reader_readStair M k1) := by
  unfold t_Reader_readStair
  refine ok_let (fun q1 e_q1 => ?_)
  have h_q1 : (fun r => InR r) q1 := by rw [e_q1]; exact (sf_Long_bitCount  h_M  )
  clear e_q1
  refine ok_ite (fun c_1 => ?_) (fun c_1 => ?_)
  · refine ok_bind (Q := fun r => IM r) (sf_Reader_goTo  h_M (inr_w32 _) ) (fun q5 h_q5 => ?_)
    refine ok_bind (Q := fun r => IM r.1 ∧ InR r.2) (sf_Reader_takeCell  h_q5  ) (fun q7 h_q7 => ?_)
    refine ok_ite (fun c_2 => ?_) (fun c_2 => ?_)
    · refine ok_let (fun q10 e_q10 => ?_)
      have h_q10 : (fun r => InR r) q10 := by rw [e_q10]; exact (sf_WF_bitOf  h_q7.1 h_q7.2 )
      clear e_q10
      refine ok_ite (fun c_3 => ?_) (fun c_3 => ?_)
      · refine ok_let (fun q21 e_q21 => ?_)
        have h_q21 : (fun r => IM r.1 ∧ InR r.2) q21 := by rw [e_q21]; exact (sf_Reader_refuse  h_q7.1 (inr_c rfl) (h_q7.1 _ _) )
        clear e_q21
        exact ok_some ⟨h_q21.1, h_q21.2⟩
      · refine ok_let (fun q13 e_q13 => ?_)
        have h_q13 : (fun r => InR r) q13 := by rw [e_q13]; exact (sf_WF_bitOf  h_q7.1 h_q7.2 )
        clear e_q13
        refine ok_ite (fun c_4 => ?_) (fun c_4 => ?_)
        · refine ok_let (fun q18 e_q18 => ?_)
          have h_q18 : (fun r => IM r.1 ∧ InR r.2) q18 := by rw [e_q18]; exact (sf_Reader_refuse  h_q7.1 (inr_c rfl) (h_q7.1 _ _) )
          clear e_q18
          exact ok_some ⟨h_q18.1, h_q18.2⟩
        · refine ok_let (fun M16 e_M16 => ?_)
          have h_M16 : IM M16 := by rw [e_M16]; exact IM.setL h_q7.1
          clear e_M16
          exact ok_some ⟨h_M16, (inr_c rfl)⟩
    · exact ok_some ⟨h_q7.1, (inr_c rfl)⟩
  · refine ok_let (fun q24 e_q24 => ?_)
    have h_q24 : (fun r => IM r.1 ∧ InR r.2) q24 := by rw [e_q24]; exact (sf_Reader_refuse  h_M (inr_c rfl) (h_M _ _) )
    clear e_q24
    exact ok_some ⟨h_q24.1, h_q24.2⟩
theorem sf_Reader_readThing_L109 {k1 : Nat} {M : Mem}   (h_M : IM M)   : Ok (fun r => IM r.1 ∧ InR r.2) (t_Reader_readThing_L109 k1 M) := by
  unfold t_Reader_readThing_L109
  refine ok_let (fun q38 e_q38 => ?_)
  have h_q38 : (fun r => IM r.1 ∧ InR r.2) q38 := by rw [e_q38]; exact (sf_Reader_refuse  h_M (inr_c rfl) (h_M _ _) )
  clear e_q38
  exact ok_some ⟨h_q38.1, h_q38.2⟩
theorem sf_Reader_readThing_L71 {k1 : Nat} {v2_ : Int} {v3_ : Int} {v4_ : Int} {M : Mem}   (h_M : IM M) (h_v2_ : InR v2_) (h_v3_ : InR v3_) (h_v4_ : InR v4_)  : Ok (fun r => IM r.1 ∧ InR r.2) (t_Reader_readThing_L71 k1 M v2_ v3_ v4_) := by
  unfold t_Reader_readThing_L71
  refine ok_ite (fun c_1 => ?_) (fun c_1 => ?_)
  · refine ok_let (fun q19 e_q19 => ?_)
    have h_q19 : (fun r => InR r) q19 := by rw [e_q19]; exact (sf_WF_bitOf  h_M h_v4_ )
    clear e_q19
    refine ok_ite (fun c_2 => ?_) (fun c_2 => ?_)
    · exact (sf_Reader_readThing_L109  h_M  )
    · refine ok_bind (Q := fun r => InR r) (sf_WF_indexOf  h_M (h_M _ _) h_v4_ ) (fun q23 h_q23 => ?_)
      refine ok_ite (fun c_3 => ?_) (fun c_3 => ?_)
      · refine ok_let (fun q27 e_q27 => ?_)
        have h_q27 : (fun r => IM r) q27 := by rw [e_q27]; exact (sf_WF_put  h_M (h_M _ _) h_v2_ )
        clear e_q27
        refine ok_let (fun q30 e_q30 => ?_)
        have h_q30 : (fun r => IM r) q30 := by rw [e_q30]; exact (sf_WF_put  h_q27 (h_q27 _ _) h_v3_ )
        clear e_q30
        refine ok_let (fun q33 e_q33 => ?_)
        have h_q33 : (fun r => IM r) q33 := by rw [e_q33]; exact (sf_WF_put  h_q30 (h_q30 _ _) h_v4_ )
        clear e_q33
        refine ok_let (fun M36 e_M36 => ?_)
        have h_M36 : IM M36 := by rw [e_M36]; exact IM.setI h_q33 (inr_w32 _)
        clear e_M36
        exact ok_some ⟨h_M36, (inr_c rfl)⟩
      · exact (sf_Reader_readThing_L109  h_M  )
  · exact ok_some ⟨h_M, (inr_c rfl)⟩
theorem sf_Reader_readThing_L57 {k1 : Nat} {v2_ : Int} {v3_ : Int} {M : Mem}   (h_M : IM M) (h_v2_ : InR v2_) (h_v3_ : InR v3_)  : Ok (fun r => IM r.1 ∧ InR r.2) (t_Reader_readThing_L57 k1 M v2_ v3_) := by
  unfold t_Reader_readThing_L57
  refine ok_ite (fun c_1 => ?_) (fun c_1 => ?_)
  · refine ok_bind (Q := fun r => IM r.1 ∧ InR r.2) (sf_Reader_takeCell  h_M  ) (fun q16 h_q16 => ?_)
    exact (sf_Reader_readThing_L71  h_q16.1 h_v2_ h_v3_ h_q16.2 )
  · exact (sf_Reader_readThing_L71  h_M h_v2_ h_v3_ (inr_c rfl) )
theorem sf_Reader_readThing {k1 : Nat} {M : Mem}   (h_M : IM M)   : Ok (fun r => IM r.1 ∧ InR r.2) (t_Reader_readThing M k1) := by
  unfold t_Reader_readThing
  refine ok_ite (fun c_1 => ?_) (fun c_1 => ?_)
  · refine ok_bind (Q := fun r => IM r) (sf_Reader_goTo  h_M (inr_w32 _) ) (fun q4 h_q4 => ?_)
    refine ok_bind (Q := fun r => IM r.1 ∧ InR r.2) (sf_Reader_takeNewName  h_q4 (h_q4 _ _) ) (fun q7 h_q7 => ?_)
    refine ok_ite (fun c_2 => ?_) (fun c_2 => ?_)
    · refine ok_bind (Q := fun r => IM r.1 ∧ InR r.2) (sf_Reader_takeNumber  h_q7.1 (inr_c rfl) (inr_c rfl) ) (fun q10 h_q10 => ?_)
      exact (sf_Reader_readThing_L57  h_q10.1 h_q7.2 h_q10.2 )
    · exact (sf_Reader_readThing_L57  h_q7.1 h_q7.2 (inr_c rfl) )
  · refine ok_let (fun q13 e_q13 => ?_)
    have h_q13 : (fun r => IM r.1 ∧ InR r.2) q13 := by rw [e_q13]; exact (sf_Reader_refuse  h_M (inr_c rfl) (h_M _ _) )
    clear e_q13
    exact ok_some ⟨h_q13.1, h_q13.2⟩
theorem sf_Reader_readSeed {k1 : Nat} {M : Mem}   (h_M : IM M)   : Ok (fun r => IM r.1 ∧ InR r.2) (t_Reader_readSeed M k1) := by
  unfold t_Reader_readSeed
  refine ok_ite (fun c_1 => ?_) (fun c_1 => ?_)
  · refine ok_let (fun M3 e_M3 => ?_)
    have h_M3 : IM M3 := by rw [e_M3]; exact IM.setI h_M (inr_c rfl)
    clear e_M3
    refine ok_bind (Q := fun r => IM r) (sf_Reader_goTo  h_M3 (inr_w32 _) ) (fun q5 h_q5 => ?_)
    refine ok_bind (Q := fun r => IM r.1 ∧ InR r.2) (sf_Reader_takeNumber  h_q5 (inr_c rfl) (inr_c rfl) ) (fun q7 h_q7 => ?_)
    refine ok_let (fun M9 e_M9 => ?_)
    have h_M9 : IM M9 := by rw [e_M9]; exact IM.setI h_q7.1 h_q7.2
    clear e_M9
    refine ok_ite (fun c_2 => ?_) (fun c_2 => ?_)
    · exact ok_some ⟨h_M9, (inr_c rfl)⟩
    · exact ok_some ⟨h_M9, (inr_c rfl)⟩
  · refine ok_let (fun q12 e_q12 => ?_)
    have h_q12 : (fun r => IM r.1 ∧ InR r.2) q12 := by rw [e_q12]; exact (sf_Reader_refuse  h_M (inr_c rfl) (h_M _ _) )
    clear e_q12
    exact ok_some ⟨h_q12.1, h_q12.2⟩
theorem sf_Formula_strengthOf {x1 : Int} {M : Mem} (h_M : IM M) (h_x1 : InR x1) : (fun r => InR r) (t_Formula_strengthOf M x1) := by
  show Pl (fun r => InR r) (t_Formula_strengthOf M x1)
  unfold t_Formula_strengthOf
  refine pl_ite (fun c_1 => ?_) (fun c_1 => ?_)
  · exact (inr_c rfl)
  · refine pl_ite (fun c_2 => ?_) (fun c_2 => ?_)
    · exact (inr_c rfl)
    · refine pl_ite (fun c_3 => ?_) (fun c_3 => ?_)
      · exact (inr_c rfl)
      · refine pl_ite (fun c_4 => ?_) (fun c_4 => ?_)
        · exact (inr_c rfl)
        · refine pl_ite (fun c_5 => ?_) (fun c_5 => ?_)
          · exact (inr_c rfl)
          · refine pl_ite (fun c_6 => ?_) (fun c_6 => ?_)
            · exact (inr_c rfl)
            · refine pl_ite (fun c_7 => ?_) (fun c_7 => ?_)
              · exact (inr_c rfl)
              · refine pl_ite (fun c_8 => ?_) (fun c_8 => ?_)
                · exact (inr_c rfl)
                · refine pl_ite (fun c_9 => ?_) (fun c_9 => ?_)
                  · exact (inr_c rfl)
                  · refine pl_ite (fun c_10 => ?_) (fun c_10 => ?_)
                    · exact (inr_c rfl)
                    · refine pl_ite (fun c_11 => ?_) (fun c_11 => ?_)
                      · exact (inr_c rfl)
                      · refine pl_ite (fun c_12 => ?_) (fun c_12 => ?_)
                        · exact (inr_c rfl)
                        · refine pl_ite (fun c_13 => ?_) (fun c_13 => ?_)
                          · exact (inr_c rfl)
                          · refine pl_ite (fun c_14 => ?_) (fun c_14 => ?_)
                            · exact (inr_c rfl)
                            · refine pl_ite (fun c_15 => ?_) (fun c_15 => ?_)
                              · exact (inr_c rfl)
                              · refine pl_ite (fun c_16 => ?_) (fun c_16 => ?_)
                                · exact (inr_c rfl)
                                · refine pl_ite (fun c_17 => ?_) (fun c_17 => ?_)
                                  · exact (inr_c rfl)
                                  · refine pl_ite (fun c_18 => ?_) (fun c_18 => ?_)
                                    · exact (inr_c rfl)
                                    · refine pl_ite (fun c_19 => ?_) (fun c_19 => ?_)
                                      · exact (inr_c rfl)
                                      · refine pl_ite (fun c_20 => ?_) (fun c_20 => ?_)
                                        · exact (inr_c rfl)
                                        · refine pl_ite (fun c_21 => ?_) (fun c_21 => ?_)
                                          · exact (inr_c rfl)
                                          · refine pl_ite (fun c_22 => ?_) (fun c_22 => ?_)
                                            · exact (inr_c rfl)
                                            · refine pl_ite (fun c_23 => ?_) (fun c_23 => ?_)
                                              · exact (inr_c rfl)
                                              · refine pl_ite (fun c_24 => ?_) (fun c_24 => ?_)
                                                · exact (inr_c rfl)
                                                · refine pl_ite (fun c_25 => ?_) (fun c_25 => ?_)
                                                  · exact (inr_c rfl)
                                                  · refine pl_ite (fun c_26 => ?_) (fun c_26 => ?_)
                                                    · exact (inr_c rfl)
                                                    · refine pl_ite (fun c_27 => ?_) (fun c_27 => ?_)
                                                      · exact (inr_c rfl)
                                                      · refine pl_ite (fun c_28 => ?_) (fun c_28 => ?_)
                                                        · exact (inr_c rfl)
                                                        · refine pl_ite (fun c_29 => ?_) (fun c_29 => ?_)
                                                          · exact (inr_c rfl)
                                                          · refine pl_ite (fun c_30 => ?_) (fun c_30 => ?_)
                                                            · exact (inr_c rfl)
                                                            · refine pl_ite (fun c_31 => ?_) (fun c_31 => ?_)
                                                              · exact (inr_c rfl)
                                                              · refine pl_ite (fun c_32 => ?_) (fun c_32 => ?_)
                                                                · exact (inr_c rfl)
                                                                · refine pl_ite (fun c_33 => ?_) (fun c_33 => ?_)
                                                                  · exact (inr_c rfl)
                                                                  · refine pl_ite (fun c_34 => ?_) (fun c_34 => ?_)
                                                                    · exact (inr_c rfl)
                                                                    · refine pl_ite (fun c_35 => ?_) (fun c_35 => ?_)
                                                                      · exact (inr_c rfl)
                                                                      · refine pl_ite (fun c_36 => ?_) (fun c_36 => ?_)
                                                                        · exact (inr_c rfl)
                                                                        · refine pl_ite (fun c_37 => ?_) (fun c_37 => ?_)
                                                                          · exact (inr_c rfl)
                                                                          · refine pl_ite (fun c_38 => ?_) (fun c_38 => ?_)
                                                                            · exact (inr_c rfl)
                                                                            · exact (inr_c rfl)
theorem sf_Formula_add {k0 : Nat} {x1 : Int} {x2 : Int} {M : Mem} (h_M : IM M) (h_x1 : InR x1) (h_x2 : InR x2) : (fun r => IM r) (t_Formula_add M k0 x1 x2) := by
  show Pl (fun r => IM r) (t_Formula_add M k0 x1 x2)
  unfold t_Formula_add
  refine pl_let (fun q2 e_q2 => ?_)
  have h_q2 : (fun r => IM r) q2 := by rw [e_q2]; exact (sf_WF_put  h_M (h_M _ _) h_x1 )
  clear e_q2
  refine pl_let (fun q5 e_q5 => ?_)
  have h_q5 : (fun r => IM r) q5 := by rw [e_q5]; exact (sf_WF_put  h_q2 (h_q2 _ _) h_x2 )
  clear e_q5
  refine pl_let (fun M8 e_M8 => ?_)
  have h_M8 : IM M8 := by rw [e_M8]; exact IM.setI h_q5 (inr_w32 _)
  clear e_M8
  exact h_M8
theorem sf_Formula_release_L0 {k0 : Nat} {x1 : Int} : ∀ (n fu : Nat) (M : Mem), M.1 k0 6 ≤ (n : Int) → n < fu → IM M → Ok (fun r => IM r) (t_Formula_release_L0 k0 x1 fu M) := by
  intro n
  induction n with
  | zero =>
    intro fu M h0 h1 hM
    obtain ⟨g, rfl⟩ : ∃ g, fu = g + 1 := ⟨fu - 1, by omega⟩
    rw [t_Formula_release_L0, if_pos (by omega)]
    exact ok_some hM
  | succ n ih =>
    intro fu M h0 h1 hM
    obtain ⟨g, rfl⟩ : ∃ g, fu = g + 1 := ⟨fu - 1, by omega⟩
    rw [t_Formula_release_L0]
    refine ok_ite (fun c => ok_some hM) (fun c => ?_)
    refine ok_let (fun q4 e4 => ?_)
    have h4 : InR q4 := by rw [e4]; exact sf_WF_look hM (inr_w32 _)
    have main : ∀ v3 : Int, Ok (fun r => IM r) (t_Formula_release_L35 k0 x1 (fun a0_ => t_Formula_release_L0 k0 x1 g a0_) M q4 v3) := by
      intro v3
      unfold t_Formula_release_L35
      refine ok_ite (fun c2 => ?_) (fun c2 => ok_some hM)
      refine ok_let (fun q10 e10 => ?_)
      have h10 : IM q10 := by rw [e10]; exact sf_Formula_add hM h4 (inr_c rfl)
      have f10 : q10.1 k0 6 = M.1 k0 6 := by
        rw [e10]
        exact ((fr_Formula_add (W := W_Formula_add k0) (M0 := M) (fun _ _ h => h) Fr.rf) k0 6 (by unfold W_Formula_add; omega)).1
      refine ok_let (fun M13 e13 => ?_)
      have r0 := hM k0 6
      unfold InR at r0
      refine ih g M13 ?_ (by omega) (by rw [e13]; exact h10.setI (inr_w32 _))
      rw [e13, sI_self, f10, w32_id (by unfold InR; omega)]
      omega
    refine ok_ite (fun c2 => main 3) (fun c2 => ?_)
    exact ok_let (fun q7 _ => main q7)
theorem sf_Formula_release {k0 : Nat} {x1 : Int} {M : Mem} (hM : IM M) (hx : InR x1) : Ok (fun r => IM r) (t_Formula_release M k0 x1) := sf_Formula_release_L0 2147483647 FU M (by have := (hM k0 6).2; omega) (by unfold FU; omega) hM
theorem sf_Formula_await {k0 : Nat} {x1 : Int} {M : Mem} (h_M : IM M) (h_x1 : InR x1) : (fun r => IM r) (t_Formula_await M k0 x1) := by
  show Pl (fun r => IM r) (t_Formula_await M k0 x1)
  unfold t_Formula_await
  refine pl_let (fun q2 e_q2 => ?_)
  have h_q2 : (fun r => IM r) q2 := by rw [e_q2]; exact (sf_WF_put  h_M (h_M _ _) h_x1 )
  clear e_q2
  refine pl_let (fun M5 e_M5 => ?_)
  have h_M5 : IM M5 := by rw [e_M5]; exact IM.setI h_q2 (inr_w32 _)
  clear e_M5
  exact h_M5
theorem sf_Formula_isName {x1 : Int} {M : Mem} (h_M : IM M) (h_x1 : InR x1) : (fun r => InR r) (t_Formula_isName M x1) := by
  show Pl (fun r => InR r) (t_Formula_isName M x1)
  unfold t_Formula_isName
  refine pl_ite (fun c_1 => ?_) (fun c_1 => ?_)
  · exact (inr_c rfl)
  · refine pl_ite (fun c_2 => ?_) (fun c_2 => ?_)
    · exact (inr_c rfl)
    · exact (inr_c rfl)
theorem sf_Formula_readPart_L121 {k0 : Nat} {x1 : Int} {x2 : Int} {k3 : Nat} {v4_ : Int} {M : Mem} (h_M : IM M) (h_x1 : InR x1) (h_x2 : InR x2) (h_v4_ : InR v4_) : (fun r => IM r.1 ∧ InR r.2) (t_Formula_readPart_L121 k0 x1 x2 k3 M v4_) := by
  show Pl (fun r => IM r.1 ∧ InR r.2) (t_Formula_readPart_L121 k0 x1 x2 k3 M v4_)
  unfold t_Formula_readPart_L121
  refine pl_let (fun M25 e_M25 => ?_)
  have h_M25 : IM M25 := by rw [e_M25]; exact IM.setI h_M (inr_w32 _)
  clear e_M25
  refine pl_ite (fun c_1 => ?_) (fun c_1 => ?_)
  · refine pl_let (fun q27 e_q27 => ?_)
    have h_q27 : (fun r => IM r) q27 := by rw [e_q27]; exact (sf_Formula_add  h_M25 h_x1 h_x2 )
    clear e_q27
    refine pl_let (fun M29 e_M29 => ?_)
    have h_M29 : IM M29 := by rw [e_M29]; exact IM.setI h_q27 (inr_c rfl)
    clear e_M29
    exact ⟨h_M29, (inr_c rfl)⟩
  · refine pl_let (fun q30 e_q30 => ?_)
    have h_q30 : (fun r => IM r) q30 := by rw [e_q30]; exact (sf_Formula_await  h_M25 (inr_c rfl) )
    clear e_q30
    exact ⟨h_q30, (inr_c rfl)⟩
theorem sf_Formula_readPart_L97 {k0 : Nat} {x1 : Int} {x2 : Int} {k3 : Nat} {v4_ : Int} {M : Mem} (h_M : IM M) (h_x1 : InR x1) (h_x2 : InR x2) (h_v4_ : InR v4_) : (fun r => IM r.1 ∧ InR r.2) (t_Formula_readPart_L97 k0 x1 x2 k3 M v4_) := by
  show Pl (fun r => IM r.1 ∧ InR r.2) (t_Formula_readPart_L97 k0 x1 x2 k3 M v4_)
  unfold t_Formula_readPart_L97
  refine pl_ite (fun c_1 => ?_) (fun c_1 => ?_)
  · exact ⟨h_M, (inr_c rfl)⟩
  · refine pl_ite (fun c_2 => ?_) (fun c_2 => ?_)
    · refine pl_ite (fun c_3 => ?_) (fun c_3 => ?_)
      · exact (sf_Formula_readPart_L121  h_M h_x1 h_x2 h_v4_ )
      · exact ⟨h_M, (inr_c rfl)⟩
    · exact (sf_Formula_readPart_L121  h_M h_x1 h_x2 h_v4_ )
theorem sf_Formula_readPart_L75 {k0 : Nat} {x1 : Int} {x2 : Int} {k3 : Nat} {v4_ : Int} {M : Mem} (h_M : IM M) (h_x1 : InR x1) (h_x2 : InR x2) (h_v4_ : InR v4_) : (fun r => IM r.1 ∧ InR r.2) (t_Formula_readPart_L75 k0 x1 x2 k3 M v4_) := by
  show Pl (fun r => IM r.1 ∧ InR r.2) (t_Formula_readPart_L75 k0 x1 x2 k3 M v4_)
  unfold t_Formula_readPart_L75
  refine pl_ite (fun c_1 => ?_) (fun c_1 => ?_)
  · refine pl_ite (fun c_2 => ?_) (fun c_2 => ?_)
    · exact (sf_Formula_readPart_L97  h_M h_x1 h_x2 h_v4_ )
    · refine pl_let (fun q17 e_q17 => ?_)
      have h_q17 : (fun r => InR r) q17 := by rw [e_q17]; exact (sf_Formula_isName  h_M h_x1 )
      clear e_q17
      refine pl_ite (fun c_3 => ?_) (fun c_3 => ?_)
      · exact ⟨h_M, (inr_c rfl)⟩
      · exact (sf_Formula_readPart_L97  h_M h_x1 h_x2 h_v4_ )
  · exact (sf_Formula_readPart_L97  h_M h_x1 h_x2 h_v4_ )
theorem sf_Formula_readPart_L74 {k0 : Nat} {x1 : Int} {x2 : Int} {k3 : Nat} {M : Mem} (h_M : IM M) (h_x1 : InR x1) (h_x2 : InR x2) : (fun r => IM r.1 ∧ InR r.2) (t_Formula_readPart_L74 k0 x1 x2 k3 M) := by
  show Pl (fun r => IM r.1 ∧ InR r.2) (t_Formula_readPart_L74 k0 x1 x2 k3 M)
  unfold t_Formula_readPart_L74
  exact (sf_Formula_readPart_L75  h_M h_x1 h_x2 (inr_c rfl) )
theorem sf_Formula_readPart {k0 : Nat} {x1 : Int} {x2 : Int} {k3 : Nat} {M : Mem} (h_M : IM M) (h_x1 : InR x1) (h_x2 : InR x2) : (fun r => IM r.1 ∧ InR r.2) (t_Formula_readPart M k0 x1 x2 k3) := by
  show Pl (fun r => IM r.1 ∧ InR r.2) (t_Formula_readPart M k0 x1 x2 k3)
  unfold t_Formula_readPart
  refine pl_ite (fun c_1 => ?_) (fun c_1 => ?_)
  · refine pl_ite (fun c_2 => ?_) (fun c_2 => ?_)
    · refine pl_let (fun M8 e_M8 => ?_)
      have h_M8 : IM M8 := by rw [e_M8]; exact IM.setI h_M (inr_w32 _)
      clear e_M8
      refine pl_let (fun M11 e_M11 => ?_)
      have h_M11 : IM M11 := by rw [e_M11]; exact IM.setI h_M8 (inrq_and)
      clear e_M11
      refine pl_let (fun M12 e_M12 => ?_)
      have h_M12 : IM M12 := by rw [e_M12]; exact IM.setI h_M11 (inr_c rfl)
      clear e_M12
      refine pl_let (fun q13 e_q13 => ?_)
      have h_q13 : (fun r => IM r) q13 := by rw [e_q13]; exact (sf_Formula_await  h_M12 (inr_c rfl) )
      clear e_q13
      exact ⟨h_q13, (inr_c rfl)⟩
    · exact ⟨h_M, (inr_c rfl)⟩
  · refine pl_ite (fun c_3 => ?_) (fun c_3 => ?_)
    · refine pl_ite (fun c_4 => ?_) (fun c_4 => ?_)
      · exact (sf_Formula_readPart_L74  h_M h_x1 h_x2 )
      · exact (sf_Formula_readPart_L75  h_M h_x1 h_x2 (inr_c rfl) )
    · exact (sf_Formula_readPart_L74  h_M h_x1 h_x2 )
theorem sf_Formula_readSign_L133 {k0 : Nat} {x1 : Int} {k2 : Nat} {v1_ : Int} {v3_ : Int} {M : Mem}   (h_M : IM M) (h_x1 : InR x1) (h_v1_ : InR v1_) (h_v3_ : InR v3_)  : Ok (fun r => IM r.1 ∧ InR r.2) (t_Formula_readSign_L133 k0 x1 k2 M v1_ v3_) := by
  unfold t_Formula_readSign_L133
  refine ok_let (fun M30 e_M30 => ?_)
  have h_M30 : IM M30 := by rw [e_M30]; exact IM.setI h_M h_v3_
  clear e_M30
  refine ok_ite (fun c_1 => ?_) (fun c_1 => ?_)
  · refine ok_ite (fun c_2 => ?_) (fun c_2 => ?_)
    · exact ok_some ⟨h_M30, (inr_c rfl)⟩
    · refine ok_let (fun M36 e_M36 => ?_)
      have h_M36 : IM M36 := by rw [e_M36]; exact IM.setI h_M30 (inrq_and)
      clear e_M36
      exact ok_some ⟨h_M36, (inr_c rfl)⟩
  · refine ok_let (fun M39 e_M39 => ?_)
    have h_M39 : IM M39 := by rw [e_M39]; exact IM.setI h_M30 (inrq_or)
    clear e_M39
    exact ok_some ⟨h_M39, (inr_c rfl)⟩
theorem sf_Formula_readSign_L86 {k0 : Nat} {x1 : Int} {k2 : Nat} {v3_ : Int} {v4_ : Int} {M : Mem}   (h_M : IM M) (h_x1 : InR x1) (h_v3_ : InR v3_) (h_v4_ : InR v4_)  : Ok (fun r => IM r.1 ∧ InR r.2) (t_Formula_readSign_L86 k0 x1 k2 M v3_ v4_) := by
  unfold t_Formula_readSign_L86
  refine ok_ite (fun c_1 => ?_) (fun c_1 => ?_)
  · refine ok_let (fun M23 e_M23 => ?_)
    have h_M23 : IM M23 := by rw [e_M23]; exact IM.setI h_M (inr_w32 _)
    clear e_M23
    refine ok_bind (Q := fun r => IM r) (sf_Formula_release  h_M23 h_v3_ ) (fun q24 h_q24 => ?_)
    refine ok_let (fun q26 e_q26 => ?_)
    have h_q26 : (fun r => IM r) q26 := by rw [e_q26]; exact (sf_Formula_await  h_q24 h_x1 )
    clear e_q26
    refine ok_let (fun M28 e_M28 => ?_)
    have h_M28 : IM M28 := by rw [e_M28]; exact IM.setI h_q26 (inr_c rfl)
    clear e_M28
    refine ok_ite (fun c_2 => ?_) (fun c_2 => ?_)
    · exact (sf_Formula_readSign_L133  h_M28 h_x1 h_v4_ (inr_c rfl) )
    · exact (sf_Formula_readSign_L133  h_M28 h_x1 h_v4_ (inr_c rfl) )
  · exact ok_some ⟨h_M, (inr_c rfl)⟩
theorem sf_Formula_readSign_L57 {k0 : Nat} {x1 : Int} {k2 : Nat} {v3_ : Int} {v4_ : Int} {M : Mem}   (h_M : IM M) (h_x1 : InR x1) (h_v3_ : InR v3_) (h_v4_ : InR v4_)  : Ok (fun r => IM r.1 ∧ InR r.2) (t_Formula_readSign_L57 k0 x1 k2 M v3_ v4_) := by
  unfold t_Formula_readSign_L57
  refine ok_ite (fun c_1 => ?_) (fun c_1 => ?_)
  · exact ok_some ⟨h_M, (inr_c rfl)⟩
  · refine ok_ite (fun c_2 => ?_) (fun c_2 => ?_)
    · exact (sf_Formula_readSign_L86  h_M h_x1 h_v3_ h_v4_ )
    · refine ok_let (fun q17 e_q17 => ?_)
      have h_q17 : (fun r => InR r) q17 := by rw [e_q17]; exact (sf_WF_bitOf  h_M (h_M _ _) )
      clear e_q17
      refine ok_ite (fun c_3 => ?_) (fun c_3 => ?_)
      · exact ok_some ⟨h_M, (inr_c rfl)⟩
      · exact (sf_Formula_readSign_L86  h_M h_x1 h_v3_ h_v4_ )
theorem sf_Formula_readSign {k0 : Nat} {x1 : Int} {k2 : Nat} {M : Mem}   (h_M : IM M) (h_x1 : InR x1)  : Ok (fun r => IM r.1 ∧ InR r.2) (t_Formula_readSign M k0 x1 k2) := by
  unfold t_Formula_readSign
  refine ok_ite (fun c_1 => ?_) (fun c_1 => ?_)
  · refine ok_ite (fun c_2 => ?_) (fun c_2 => ?_)
    · exact ok_some ⟨h_M, (inr_c rfl)⟩
    · refine ok_bind (Q := fun r => IM r) (sf_Formula_release  h_M (inr_c rfl) ) (fun q7 h_q7 => ?_)
      refine ok_let (fun M10 e_M10 => ?_)
      have h_M10 : IM M10 := by rw [e_M10]; exact IM.setI h_q7 (inr_w32 _)
      clear e_M10
      refine ok_let (fun M12 e_M12 => ?_)
      have h_M12 : IM M12 := by rw [e_M12]; exact IM.setI h_M10 (inr_w32 _)
      clear e_M12
      exact ok_some ⟨h_M12, (inr_c rfl)⟩
  · refine ok_let (fun q2 e_q2 => ?_)
    have h_q2 : (fun r => InR r) q2 := by rw [e_q2]; exact (sf_Formula_strengthOf  h_M h_x1 )
    clear e_q2
    refine ok_ite (fun c_3 => ?_) (fun c_3 => ?_)
    · exact (sf_Formula_readSign_L57  h_M h_x1 h_q2 (inr_c rfl) )
    · exact (sf_Formula_readSign_L57  h_M h_x1 h_q2 (inr_c rfl) )
theorem sf_Formula_read_L122 {k0 : Nat} {x2 : Int} {k3 : Nat} {bk33 : Mem → Int → Option (Mem × Int)} {v3_ : Int} {v4_ : Int} {M : Mem} {c_bk33 : Int} (hbk33 : ∀ (a0_ : Mem) (a1_ : Int), IM a0_ → InR a1_ → c_bk33 < a1_ → Ok (fun r => IM r.1 ∧ InR r.2) (bk33 a0_ a1_)) (h_M : IM M) (h_x2 : InR x2) (h_v3_ : InR v3_) (h_v4_ : InR v4_) (g_0 : c_bk33 ≤ v3_ ∧ v3_ ≤ 2147483646) : Ok (fun r => IM r.1 ∧ InR r.2) (t_Formula_read_L122 k0 x2 k3 bk33 M v3_ v4_) := by
  unfold t_Formula_read_L122
  have r_v3_ : -2147483648 ≤ v3_ ∧ v3_ ≤ 2147483647 := h_v3_
  refine ok_ite (fun c_1 => ?_) (fun c_1 => ?_)
  · refine ok_let (fun M30 e_M30 => ?_)
    have h_M30 : IM M30 := by rw [e_M30]; exact IM.setI h_M (inr_w32 _)
    clear e_M30
    have w_2 : (w32 (v3_ + 1)) = v3_ + (1) := w32_id (by unfold InR; omega)
    exact hbk33 _ _  h_M30 (inr_w32 _) (by omega)
  · exact ok_some ⟨h_M, h_v4_⟩
theorem sf_Formula_read_L87 {k0 : Nat} {x2 : Int} {k3 : Nat} {bk33 : Mem → Int → Option (Mem × Int)} {v3_ : Int} {v4_ : Int} {M : Mem} {c_bk33 : Int} (hbk33 : ∀ (a0_ : Mem) (a1_ : Int), IM a0_ → InR a1_ → c_bk33 < a1_ → Ok (fun r => IM r.1 ∧ InR r.2) (bk33 a0_ a1_)) (h_M : IM M) (h_x2 : InR x2) (h_v3_ : InR v3_) (h_v4_ : InR v4_) (g_0 : c_bk33 ≤ v3_ ∧ v3_ ≤ 2147483646) : Ok (fun r => IM r.1 ∧ InR r.2) (t_Formula_read_L87 k0 x2 k3 bk33 M v3_ v4_) := by
  unfold t_Formula_read_L87
  have r_v3_ : -2147483648 ≤ v3_ ∧ v3_ ≤ 2147483647 := h_v3_
  refine ok_ite (fun c_1 => ?_) (fun c_1 => ?_)
  · refine ok_bind (Q := fun r => IM r.1 ∧ InR r.2) (sf_Formula_readSign  h_M h_v4_ ) (fun q21 h_q21 => ?_)
    exact (sf_Formula_read_L122 (c_bk33 := c_bk33) (fun a0_ a1_ h0_ h1_ z_ => hbk33 a0_ a1_ h0_ h1_ (by omega)) h_q21.1 h_x2 h_v3_ h_q21.2 (by omega))
  · refine ok_let (fun q24 e_q24 => ?_)
    have h_q24 : (fun r => InR r) q24 := by rw [e_q24]; exact (sf_WF_look  h_M (h_M _ _) )
    clear e_q24
    refine ok_let (fun q26 e_q26 => ?_)
    have h_q26 : (fun r => IM r.1 ∧ InR r.2) q26 := by rw [e_q26]; exact (sf_Formula_readPart  h_M h_v4_ h_q24 )
    clear e_q26
    exact (sf_Formula_read_L122 (c_bk33 := c_bk33) (fun a0_ a1_ h0_ h1_ z_ => hbk33 a0_ a1_ h0_ h1_ (by omega)) h_q26.1 h_x2 h_v3_ h_q26.2 (by omega))
theorem sf_Formula_read_L33 {k0 : Nat} {x2 : Int} {k3 : Nat}   (h_x2 : InR x2) : ∀ (fu : Nat) (M : Mem) (v3_ : Int), IM M → InR v3_ → 2147483648 - v3_ < (fu : Int) → Ok (fun r => IM r.1 ∧ InR r.2) (t_Formula_read_L33 k0 x2 k3 fu M v3_) := by
  intro fu
  induction fu with
  | zero => intro M v3_ h_M h_v3_ hf; have r_ := (h_v3_ : InR v3_); unfold InR at r_; exact absurd hf (by omega)
  | succ fu ih =>
    intro M v3_ h_M h_v3_ hf
    rw [t_Formula_read_L33]
    have r_v3_ : -2147483648 ≤ v3_ ∧ v3_ ≤ 2147483647 := h_v3_
    refine ok_ite (fun c_1 => ?_) (fun c_1 => ?_)
    · exact ok_some ⟨h_M, (inr_c rfl)⟩
    · have f_2 : v3_ ≤ 2147483646 := by omega
      refine ok_let (fun q9 e_q9 => ?_)
      have h_q9 : (fun r => InR r) q9 := by rw [e_q9]; exact (sf_WF_look  h_M (h_M _ _) )
      clear e_q9
      refine ok_ite (fun c_3 => ?_) (fun c_3 => ?_)
      · refine ok_ite (fun c_4 => ?_) (fun c_4 => ?_)
        · refine ok_ite (fun c_5 => ?_) (fun c_5 => ?_)
          · refine ok_bind (Q := fun r => IM r) (sf_Formula_release  h_M (inr_c rfl) ) (fun q16 h_q16 => ?_)
            refine ok_let (fun M18 e_M18 => ?_)
            have h_M18 : IM M18 := by rw [e_M18]; exact IM.setI h_q16 (inr_c rfl)
            clear e_M18
            exact ok_some ⟨h_M18, (inr_c rfl)⟩
          · exact (sf_Formula_read_L87 (c_bk33 := v3_) (fun a0_ a1_ h0_ h1_ z_ => ih a0_ a1_ h0_ h1_ (by omega)) h_M h_x2 h_v3_ h_q9 (by omega))
        · exact (sf_Formula_read_L87 (c_bk33 := v3_) (fun a0_ a1_ h0_ h1_ z_ => ih a0_ a1_ h0_ h1_ (by omega)) h_M h_x2 h_v3_ h_q9 (by omega))
      · exact (sf_Formula_read_L87 (c_bk33 := v3_) (fun a0_ a1_ h0_ h1_ z_ => ih a0_ a1_ h0_ h1_ (by omega)) h_M h_x2 h_v3_ h_q9 (by omega))
theorem sf_Formula_read {k0 : Nat} {x2 : Int} {k3 : Nat} {M : Mem}   (h_M : IM M) (h_x2 : InR x2)  : Ok (fun r => IM r.1 ∧ InR r.2) (t_Formula_read M k0 x2 k3) := by
  unfold t_Formula_read
  refine ok_let (fun M1 e_M1 => ?_)
  have h_M1 : IM M1 := by rw [e_M1]; exact IM.setI h_M h_x2
  clear e_M1
  refine ok_let (fun M2 e_M2 => ?_)
  have h_M2 : IM M2 := by rw [e_M2]; exact IM.setI h_M1 (inr_c rfl)
  clear e_M2
  refine ok_let (fun M3 e_M3 => ?_)
  have h_M3 : IM M3 := by rw [e_M3]; exact IM.setI h_M2 (inr_c rfl)
  clear e_M3
  refine ok_let (fun M4 e_M4 => ?_)
  have h_M4 : IM M4 := by rw [e_M4]; exact IM.setI h_M3 (inr_c rfl)
  clear e_M4
  refine ok_let (fun M5 e_M5 => ?_)
  have h_M5 : IM M5 := by rw [e_M5]; exact IM.setI h_M4 (inr_c rfl)
  clear e_M5
  refine ok_let (fun M6 e_M6 => ?_)
  have h_M6 : IM M6 := by rw [e_M6]; exact IM.setI h_M5 (inr_c rfl)
  clear e_M6
  exact (sf_Formula_read_L33  h_x2 _ _ _ h_M6 (inr_c rfl) (fu_up (inr_c rfl)))
theorem sf_Reader_readLaw_L102 {k1 : Nat} {u1_ : Nat} {v2_ : Int} {M : Mem}   (h_M : IM M) (h_v2_ : InR v2_)  : Ok (fun r => IM r.1 ∧ InR r.2) (t_Reader_readLaw_L102 k1 M u1_ v2_) := by
  unfold t_Reader_readLaw_L102
  refine ok_bind (Q := fun r => IM r) (sf_Reader_goTo  h_M (h_M _ _) ) (fun q24 h_q24 => ?_)
  refine ok_ite (fun c_1 => ?_) (fun c_1 => ?_)
  · exact ok_some ⟨h_q24, (inr_c rfl)⟩
  · refine ok_let (fun q28 e_q28 => ?_)
    have h_q28 : (fun r => IM r.1 ∧ InR r.2) q28 := by rw [e_q28]; exact (sf_Reader_refuse  h_q24 h_v2_ (h_q24 _ _) )
    clear e_q28
    refine ok_ite (fun c_2 => ?_) (fun c_2 => ?_)
    · exact ok_some ⟨h_q28.1, (inr_c rfl)⟩
    · exact ok_some ⟨h_q28.1, (inr_c rfl)⟩
theorem sf_Reader_readLaw_L58 {k1 : Nat} {u2_ : Nat} {M : Mem}   (h_M : IM M)   : Ok (fun r => IM r.1 ∧ InR r.2) (t_Reader_readLaw_L58 k1 M u2_) := by
  unfold t_Reader_readLaw_L58
  refine ok_ite (fun c_1 => ?_) (fun c_1 => ?_)
  · refine ok_ite (fun c_2 => ?_) (fun c_2 => ?_)
    · exact (sf_Reader_readLaw_L102  h_M (inr_c rfl) )
    · refine ok_ite (fun c_3 => ?_) (fun c_3 => ?_)
      · exact False.elim (by first | omega | contradiction | exact absurd (absl_zero (by assumption)) (by assumption))
      · refine ok_bind (Q := fun r => IM r.1 ∧ InR r.2) (sf_Formula_read  h_M (inr_w32 _) ) (fun q18 h_q18 => ?_)
        exact (sf_Reader_readLaw_L102  h_q18.1 h_q18.2 )
  · refine ok_let (fun q21 e_q21 => ?_)
    have h_q21 : (fun r => IM r.1 ∧ InR r.2) q21 := by rw [e_q21]; exact (sf_Reader_refuse  h_M (inr_c rfl) (h_M _ _) )
    clear e_q21
    exact ok_some ⟨h_q21.1, h_q21.2⟩
theorem sf_Reader_readLaw_L38 {k1 : Nat} {M : Mem}   (h_M : IM M)   : Ok (fun r => IM r.1 ∧ InR r.2) (t_Reader_readLaw_L38 k1 M) := by
  unfold t_Reader_readLaw_L38
  refine ok_ite (fun c_1 => ?_) (fun c_1 => ?_)
  · exact (sf_Reader_readLaw_L58  h_M  )
  · exact (sf_Reader_readLaw_L58  h_M  )
theorem sf_Reader_readLaw {k1 : Nat} {M : Mem}   (h_M : IM M)   : Ok (fun r => IM r.1 ∧ InR r.2) (t_Reader_readLaw M k1) := by
  unfold t_Reader_readLaw
  refine ok_bind (Q := fun r => IM r) (sf_Reader_goTo  h_M (inr_w32 _) ) (fun q2 h_q2 => ?_)
  refine ok_ite (fun c_1 => ?_) (fun c_1 => ?_)
  · exact (sf_Reader_readLaw_L38  h_q2  )
  · refine ok_ite (fun c_2 => ?_) (fun c_2 => ?_)
    · exact (sf_Reader_readLaw_L38  h_q2  )
    · refine ok_let (fun q9 e_q9 => ?_)
      have h_q9 : (fun r => IM r.1 ∧ InR r.2) q9 := by rw [e_q9]; exact (sf_Reader_refuse  h_q2 (inr_c rfl) (h_q2 _ _) )
      clear e_q9
      exact ok_some ⟨h_q9.1, h_q9.2⟩
theorem rt_wh {k1 : Nat} {M : Mem} (hk : k1 = 2 ∨ k1 = 22) (hw : WH M k1) : Post (fun r => WH r.1 k1) (t_Reader_readTown M k1) := by
  have e49 : Post (fun r : Mem × Int => WH r.1 k1) (t_Reader_readTown_L49 k1 M) := fun r e => hw.fr (fr_Reader_readTown_L49 (W := W_Reader_readTown_L49) (M0 := M) (fun _ _ h => h) Fr.rf r e) (by unfold W_Reader_readTown_L49; omega) (by unfold W_Reader_readTown_L49; omega)
  have e97 : ∀ (N : Mem) (v1 v2 : Int), WH N k1 → (0 ≤ v2 → 0 ≤ v1) → Post (fun r : Mem × Int => WH r.1 k1) (t_Reader_readTown_L97 k1 N v1 v2) := by
    intro N v1 v2 hN h1
    unfold t_Reader_readTown_L97
    refine post_ite (fun c => ?_) (fun _ => post_some hN)
    simp only [qlet]
    refine post_some ?_
    have := h1 c
    refine ⟨?_, ?_⟩
    · show -2147483648 < (setI (setI N k1 11 v1) k1 12 v2).1 k1 11
      rw [sI_ne (by omega), sI_self]; omega
    · show -2147483648 < (setI (setI N k1 11 v1) k1 12 v2).1 k1 12
      rw [sI_self]; omega
  have ftn : ∀ (N : Mem) (x1 x2 : Int), WH N k1 → Post (fun r : Mem × Int => WH r.1 k1) (t_Reader_takeNumber N x1 x2) := fun N x1 x2 hN r e => hN.fr (fr_Reader_takeNumber (W := W_Reader_takeNumber) (M0 := N) (fun _ _ h => h) Fr.rf r e) (by unfold W_Reader_takeNumber; omega) (by unfold W_Reader_takeNumber; omega)
  unfold t_Reader_readTown
  refine post_ite (fun _ => ?_) (fun _ => ?_)
  · refine post_ite (fun _ => e49) (fun _ => post_ite (fun _ => post_ite (fun _ => post_ite (fun _ => ?_) (fun _ => e49)) (fun _ => e49)) (fun _ => e49))
    refine post_let (fun M9 e9 => ?_)
    have h9 : WH M9 k1 := by
      rw [e9]; unfold WH
      rw [sI_ne (by omega), sI_ne (by omega)]
      exact hw
    refine post_bind (Q := fun r => WH r k1) (fun r e => h9.fr (fr_Reader_goTo (W := W_Reader_goTo) (M0 := M9) (fun _ _ h => h) Fr.rf r e) (by unfold W_Reader_goTo; omega) (by unfold W_Reader_goTo; omega)) (fun q11 h11 => ?_)
    refine post_bind (ftn q11 1 8 h11) (fun q13 h13 => ?_)
    refine post_ite (fun c => ?_) (fun _ => e97 _ _ _ h13 (fun h => absurd h (by omega)))
    exact post_bind (ftn q13.1 1 6 h13) (fun q16 h16 => e97 _ _ _ h16 (fun _ => c))
  · refine post_let (fun q e => post_some ?_)
    rw [e]
    unfold t_Reader_refuse
    simp only [qlet]
    unfold WH
    rw [sI_ne (by omega), sI_ne (by omega), sI_ne (by omega), sI_ne (by omega)]
    exact hw
theorem sf_Reader_read_L10 {k2 : Nat} (hk : k2 = 2 ∨ k2 = 22) : ∀ (n fu : Nat) (M : Mem) (v2 v3 : Int), v3 + (n : Int) = 700 → 0 ≤ v3 → InR v2 → n < fu → IM M → WH M k2 → Ok (fun r => IM r.1 ∧ InR r.2) (t_Reader_read_L10 k2 fu M v2 v3) := by
  have e192 : ∀ (M : Mem) (v2 : Int), InR v2 → IM M → Ok (fun r => IM r.1 ∧ InR r.2) (t_Reader_read_L192 k2 M v2) := by
    intro M v2 h hM
    unfold t_Reader_read_L192
    exact ok_bind (sf_Town_settle hM) (fun q hq => ok_some ⟨hq, h⟩)
  intro n
  induction n with
  | zero =>
    intro fu M v2 v3 h0 h1 h2 h3 hM hw
    obtain ⟨g, rfl⟩ : ∃ g, fu = g + 1 := ⟨fu - 1, by omega⟩
    rw [t_Reader_read_L10, if_pos (by omega)]
    exact e192 M v2 h2 hM
  | succ n ih =>
    intro fu M v2 v3 h0 h1 h2 h3 hM hw
    obtain ⟨g, rfl⟩ : ∃ g, fu = g + 1 := ⟨fu - 1, by omega⟩
    rw [t_Reader_read_L10, if_neg (by omega)]
    have nx : ∀ q : Mem × Int, (IM q.1 ∧ InR q.2) ∧ WH q.1 k2 → Ok (fun r => IM r.1 ∧ InR r.2) (t_Reader_read_L167 k2 (fun a0_ a1_ a2_ => t_Reader_read_L10 k2 g a0_ a1_ a2_) (q.1) v2 v3 (q.2)) := by
      intro q hq
      unfold t_Reader_read_L167
      refine ok_ite (fun _ => ok_some ⟨hq.1.1, inr_c rfl⟩) (fun _ => ?_)
      refine ok_bind (ok_and (sf_Reader_take hq.1.1 (inr_c rfl)) (fun r e => hq.2.fr (fr_Reader_take (W := W_Reader_take) (M0 := q.1) (fun _ _ h => h) Fr.rf r e) (by unfold W_Reader_take; omega) (by unfold W_Reader_take; omega))) (fun q7 h7 => ?_)
      refine ok_ite (fun _ => ok_some ⟨h7.1.1, inr_c rfl⟩) (fun _ => ?_)
      rw [w32_id (x := v3 + 1) (by unfold InR; omega)]
      exact ih g q7.1 _ (v3 + 1) (by omega) (by omega) (inr_w32 _) (by omega) h7.1.1 h7.2
    refine ok_ite (fun _ => e192 M v2 h2 hM) (fun _ => ?_)
    refine ok_ite (fun _ => ok_bind (ok_and (sf_Reader_readTown hM) (rt_wh hk hw)) (fun q hq => nx q hq)) (fun _ => ?_)
    refine ok_ite (fun _ => ok_bind (ok_and (sf_Reader_readWard hM) (fun r e => hw.fr (fr_Reader_readWard (W := W_Reader_readWard k2) (M0 := M) (fun _ _ h => h) Fr.rf r e) (by unfold W_Reader_readWard; omega) (by unfold W_Reader_readWard; omega))) (fun q hq => nx q hq)) (fun _ => ?_)
    refine ok_ite (fun _ => ok_bind (ok_and (sf_Reader_readPart hk hM hw) (fun r e => hw.fr (fr_Reader_readPart (W := W_Reader_readPart k2) (M0 := M) (fun _ _ h => h) Fr.rf r e) (by unfold W_Reader_readPart; omega) (by unfold W_Reader_readPart; omega))) (fun q hq => nx q hq)) (fun _ => ?_)
    refine ok_ite (fun _ => ok_bind (ok_and (sf_Reader_readWall hM) (fun r e => hw.fr (fr_Reader_readWall (W := W_Reader_readWall k2) (M0 := M) (fun _ _ h => h) Fr.rf r e) (by unfold W_Reader_readWall; omega) (by unfold W_Reader_readWall; omega))) (fun q hq => nx q hq)) (fun _ => ?_)
    refine ok_ite (fun _ => ok_bind (ok_and (sf_Reader_readStair hM) (fun r e => hw.fr (fr_Reader_readStair (W := W_Reader_readStair k2) (M0 := M) (fun _ _ h => h) Fr.rf r e) (by unfold W_Reader_readStair; omega) (by unfold W_Reader_readStair; omega))) (fun q hq => nx q hq)) (fun _ => ?_)
    refine ok_ite (fun _ => ok_bind (ok_and (sf_Reader_readThing hM) (fun r e => hw.fr (fr_Reader_readThing (W := W_Reader_readThing k2) (M0 := M) (fun _ _ h => h) Fr.rf r e) (by unfold W_Reader_readThing; omega) (by unfold W_Reader_readThing; omega))) (fun q hq => nx q hq)) (fun _ => ?_)
    refine ok_ite (fun _ => ok_bind (ok_and (sf_Reader_readSeed hM) (fun r e => hw.fr (fr_Reader_readSeed (W := W_Reader_readSeed k2) (M0 := M) (fun _ _ h => h) Fr.rf r e) (by unfold W_Reader_readSeed; omega) (by unfold W_Reader_readSeed; omega))) (fun q hq => nx q hq)) (fun _ => ?_)
    refine ok_ite (fun _ => ok_bind (ok_and (sf_Reader_readLaw hM) (fun r e => hw.fr (fr_Reader_readLaw (W := W_Reader_readLaw k2) (M0 := M) (fun _ _ h => h) Fr.rf r e) (by unfold W_Reader_readLaw; omega) (by unfold W_Reader_readLaw; omega))) (fun q hq => nx q hq)) (fun _ => ?_)
    refine ok_let (fun q e => nx q ⟨by rw [e]; exact sf_Reader_refuse hM (inr_c rfl) (hM _ _), ?_⟩)
    rw [e]
    unfold t_Reader_refuse
    simp only [qlet]
    unfold WH
    rw [sI_ne (by omega), sI_ne (by omega), sI_ne (by omega), sI_ne (by omega)]
    exact hw
theorem sf_Reader_read {k2 : Nat} {M : Mem} (hk : k2 = 2 ∨ k2 = 22) (hM : IM M) (hw : WH M k2) : Ok (fun r => IM r.1 ∧ InR r.2) (t_Reader_read M k2) := by
  unfold t_Reader_read
  exact ok_bind (ok_and (sf_Reader_begin hM) (fun r e => hw.fr (fr_Reader_begin (W := W_Reader_begin) (M0 := M) (fun _ _ h => h) Fr.rf r e) (by unfold W_Reader_begin; omega) (by unfold W_Reader_begin; omega))) (fun q hq => sf_Reader_read_L10 hk 700 FU q 0 0 (by omega) (by omega) (inr_c rfl) (fu_big (by omega)) hq.1 hq.2)
theorem tc_wh {k0 : Nat} {M : Mem} : Post (fun r => WH r k0) (t_Town_clear M k0) := by
  unfold t_Town_clear
  simp only [qlet]
  refine post_bind (Q := fun r => WH r k0) (fun r e => ?_) (fun q hq => post_some hq)
  refine WH.fr ?_ (fr_Arrays_fill (W := W_Arrays_fill (k0 + 8)) (fun _ _ h => h) Fr.rf r e) (by unfold W_Arrays_fill; omega) (by unfold W_Arrays_fill; omega)
  unfold t_Formula_clear
  simp only [qlet]
  unfold WH
  refine ⟨?_, ?_⟩
  · show -2147483648 < (setI (setI (setI (setI (setL (setL (setI (setI (setI (setI (setI (setI M k0 11 4) k0 12 4) k0 14 0) k0 15 0) k0 16 0) k0 17 0) k0 18 0) k0 19 0) (k0 + 10) 3 0) (k0 + 10) 4 0) (k0 + 15) 3 0) (k0 + 15) 4 0).1 k0 11
    rw [sI_ne (by omega), sI_ne (by omega), sI_ne (by omega), sI_ne (by omega)]
    show -2147483648 < (setI (setI (setI (setI (setI (setI M k0 11 4) k0 12 4) k0 14 0) k0 15 0) k0 16 0) k0 17 0).1 k0 11
    rw [sI_ne (by omega), sI_ne (by omega), sI_ne (by omega), sI_ne (by omega), sI_ne (by omega), sI_self]; decide
  · show -2147483648 < (setI (setI (setI (setI (setL (setL (setI (setI (setI (setI (setI (setI M k0 11 4) k0 12 4) k0 14 0) k0 15 0) k0 16 0) k0 17 0) k0 18 0) k0 19 0) (k0 + 10) 3 0) (k0 + 10) 4 0) (k0 + 15) 3 0) (k0 + 15) 4 0).1 k0 12
    rw [sI_ne (by omega), sI_ne (by omega), sI_ne (by omega), sI_ne (by omega)]
    show -2147483648 < (setI (setI (setI (setI (setI (setI M k0 11 4) k0 12 4) k0 14 0) k0 15 0) k0 16 0) k0 17 0).1 k0 12
    rw [sI_ne (by omega), sI_ne (by omega), sI_ne (by omega), sI_ne (by omega), sI_self]; decide
theorem sf_WF_text {x1 : Int} {M : Mem} (hM : IM M) (hx : InR x1) (hT : M.1 0 5 = 2 ∨ M.1 0 5 = 22) : Ok (fun r => IM r.1 ∧ InR r.2) (t_WF_text M x1) := by
  unfold t_WF_text
  refine ok_ite (fun _ => ok_some ⟨hM, inr_c rfl⟩) (fun _ => ok_ite (fun _ => ?_) (fun _ => ok_some ⟨hM, inr_c rfl⟩))
  refine ok_bind (ok_and (sf_Tokens_scan hM hx) (fun r e => (fr_Tokens_scan (W := W_Tokens_scan) (M0 := M) (fun _ _ h => h) Fr.rf r e))) (fun q4 h4 => ?_)
  refine ok_let (fun M6 e6 => ?_)
  have t6 : M6.1 0 5 = M.1 0 5 := by
    rw [e6, sI_ne (by omega)]
    exact (h4.2 0 5 (by unfold W_Tokens_scan; omega)).1
  have i6 : IM M6 := by rw [e6]; exact h4.1.setI (inr_c rfl)
  refine ok_bind (ok_and (ok_and (sf_Town_clear i6) tc_wh) (fun r e => (fr_Town_clear (W := W_Town_clear (M6.1 0 5).toNat) (M0 := M6) (fun _ _ h => h) Fr.rf r e))) (fun q8 h8 => ?_)
  have t8 : q8.1 0 5 = M.1 0 5 := (h8.2 0 5 (by unfold W_Town_clear; rw [t6]; rcases hT with h | h <;> rw [h] <;> simp)).1.trans t6
  have w8 : WH q8 (q8.1 0 5).toNat := by rw [t8, ← t6]; exact h8.1.2
  refine ok_bind (sf_Reader_read (by rw [t8]; rcases hT with h | h <;> rw [h] <;> simp) h8.1.1 w8) (fun q11 h11 => ?_)
  refine ok_let (fun M14 e14 => ok_let (fun M16 e16 => ?_))
  have i16 : IM M16 := by rw [e16, e14]; exact (h11.1.setI (h11.1 _ _)).setI ((h11.1.setI (h11.1 _ _)) _ _)
  refine ok_ite (fun _ => ?_) (fun _ => ok_some ⟨i16, inr_c rfl⟩)
  refine ok_let (fun M20 e20 => ok_let (fun M21 e21 => ?_))
  have i21 : IM M21 := by rw [e21, e20]; exact (i16.setI (inr_toNat (i16 _ _))).setI (inr_toNat (i16 _ _))
  exact ok_bind (sf_WF_startAnew i21) (fun q22 h22 => ok_some ⟨h22, h11.2⟩)
theorem sf_WF_fault {x1 : Int} {M : Mem} (h_M : IM M) (h_x1 : InR x1) : (fun r => InR r) (t_WF_fault M x1) := by
  show Pl (fun r => InR r) (t_WF_fault M x1)
  unfold t_WF_fault
  refine pl_ite (fun c_1 => ?_) (fun c_1 => ?_)
  · exact (h_M _ _)
  · refine pl_ite (fun c_2 => ?_) (fun c_2 => ?_)
    · exact (h_M _ _)
    · exact (inr_c rfl)
theorem sf_WF_named {x1 : Int} {x2 : Int} {M : Mem}   (h_M : IM M) (h_x1 : InR x1) (h_x2 : InR x2)  : Ok (fun r => InR r) (t_WF_named M x1 x2) := by
  unfold t_WF_named
  refine ok_ite (fun c_1 => ?_) (fun c_1 => ?_)
  · refine ok_bind (Q := fun r => InR r) (sf_WF_indexOf  h_M (h_M _ _) h_x2 ) (fun q5 h_q5 => ?_)
    exact ok_some h_q5
  · refine ok_ite (fun c_2 => ?_) (fun c_2 => ?_)
    · refine ok_bind (Q := fun r => InR r) (sf_WF_indexOf  h_M (h_M _ _) h_x2 ) (fun q11 h_q11 => ?_)
      exact ok_some h_q11
    · exact ok_some (inr_c rfl)
theorem sf_Town_hasCell {k0 : Nat} {x1 : Int} {M : Mem} (h_M : IM M) (h_x1 : InR x1) : (fun r => InR r) (t_Town_hasCell M k0 x1) := by
  show Pl (fun r => InR r) (t_Town_hasCell M k0 x1)
  unfold t_Town_hasCell
  refine pl_ite (fun c_1 => ?_) (fun c_1 => ?_)
  · exact (inr_c rfl)
  · refine pl_ite (fun c_2 => ?_) (fun c_2 => ?_)
    · exact (inr_c rfl)
    · exact (inr_c rfl)
theorem sf_Scene_thingIn {k0 : Nat} {k1 : Nat} {x2 : Int} {M : Mem}   (h_M : IM M) (h_x2 : InR x2)  : Ok (fun r => InR r) (t_Scene_thingIn M k0 k1 x2) := by
  unfold t_Scene_thingIn
  refine ok_bind (Q := fun r => InR r) (sf_WF_indexOf  h_M (h_M _ _) h_x2 ) (fun q2 h_q2 => ?_)
  exact ok_some h_q2
theorem sf_Scene_downOf {k0 : Nat} {k1 : Nat} {x2 : Int} {M : Mem} (h_M : IM M) (h_x2 : InR x2) : (fun r => InR r) (t_Scene_downOf M k0 k1 x2) := by
  show Pl (fun r => InR r) (t_Scene_downOf M k0 k1 x2)
  unfold t_Scene_downOf
  refine pl_let (fun q1 e_q1 => ?_)
  have h_q1 : (fun r => InR r) q1 := by rw [e_q1]; exact (sf_WF_look  h_M h_x2 )
  clear e_q1
  refine pl_ite (fun c_1 => ?_) (fun c_1 => ?_)
  · refine pl_let (fun q4 e_q4 => ?_)
    have h_q4 : (fun r => InR r) q4 := by rw [e_q4]; exact (sf_WF_look  h_M h_q1 )
    clear e_q4
    exact h_q4
  · exact (inr_c rfl)
theorem sf_Town_beside {k0 : Nat} {x1 : Int} {x2 : Int} {M : Mem} (h_M : IM M) (h_x1 : InR x1) (h_x2 : InR x2) : (fun r => InR r) (t_Town_beside M k0 x1 x2) := by
  show Pl (fun r => InR r) (t_Town_beside M k0 x1 x2)
  unfold t_Town_beside
  refine pl_let (fun q1 e_q1 => ?_)
  have h_q1 : (fun r => InR r) q1 := by rw [e_q1]; exact (sf_Town_hasCell  h_M h_x1 )
  clear e_q1
  refine pl_ite (fun c_1 => ?_) (fun c_1 => ?_)
  · exact (inr_c rfl)
  · refine pl_ite (fun c_2 => ?_) (fun c_2 => ?_)
    · exact (inr_c rfl)
    · refine pl_ite (fun c_3 => ?_) (fun c_3 => ?_)
      · exact (inr_c rfl)
      · refine pl_let (fun q6 e_q6 => ?_)
        have h_q6 : (fun r => InR r) q6 := by rw [e_q6]; exact (sf_WF_look  h_M (inr_w32 _) )
        clear e_q6
        exact h_q6
theorem sf_Scene_nextOf {k0 : Nat} {k1 : Nat} {x2 : Int} {M : Mem} (h_M : IM M) (h_x2 : InR x2) : (fun r => InR r) (t_Scene_nextOf M k0 k1 x2) := by
  show Pl (fun r => InR r) (t_Scene_nextOf M k0 k1 x2)
  unfold t_Scene_nextOf
  refine pl_let (fun q1 e_q1 => ?_)
  have h_q1 : (fun r => InR r) q1 := by rw [e_q1]; exact (sf_WF_bitOf  h_M h_x2 )
  clear e_q1
  refine pl_ite (fun c_1 => ?_) (fun c_1 => ?_)
  · exact (inr_c rfl)
  · refine pl_let (fun q4 e_q4 => ?_)
    have h_q4 : (fun r => InR r) q4 := by rw [e_q4]; exact (sf_Scene_downOf  h_M h_x2 )
    clear e_q4
    refine pl_let (fun q6 e_q6 => ?_)
    have h_q6 : (fun r => InR r) q6 := by rw [e_q6]; exact (sf_Town_beside  h_M h_x2 h_q4 )
    clear e_q6
    refine pl_ite (fun c_2 => ?_) (fun c_2 => ?_)
    · exact (inr_c rfl)
    · refine pl_let (fun q9 e_q9 => ?_)
      have h_q9 : (fun r => InR r) q9 := by rw [e_q9]; exact (sf_WF_bitOf  h_M h_q6 )
      clear e_q9
      refine pl_ite (fun c_3 => ?_) (fun c_3 => ?_)
      · exact (inr_c rfl)
      · exact h_q6
theorem sf_Scene_standsIn_L38 {k0 : Nat} {k1 : Nat} {x2 : Int} {M : Mem} (h_M : IM M) (h_x2 : InR x2) : (fun r => InR r) (t_Scene_standsIn_L38 k0 k1 x2 M) := by
  show Pl (fun r => InR r) (t_Scene_standsIn_L38 k0 k1 x2 M)
  unfold t_Scene_standsIn_L38
  refine pl_let (fun q16 e_q16 => ?_)
  have h_q16 : (fun r => InR r) q16 := by rw [e_q16]; exact (sf_WF_bitOf  h_M h_x2 )
  clear e_q16
  refine pl_ite (fun c_1 => ?_) (fun c_1 => ?_)
  · exact (inr_c rfl)
  · exact (inr_c rfl)
theorem sf_Scene_standsIn {k0 : Nat} {k1 : Nat} {x2 : Int} {M : Mem} (h_M : IM M) (h_x2 : InR x2) : (fun r => InR r) (t_Scene_standsIn M k0 k1 x2) := by
  show Pl (fun r => InR r) (t_Scene_standsIn M k0 k1 x2)
  unfold t_Scene_standsIn
  refine pl_let (fun q1 e_q1 => ?_)
  have h_q1 : (fun r => InR r) q1 := by rw [e_q1]; exact (sf_WF_bitOf  h_M h_x2 )
  clear e_q1
  refine pl_ite (fun c_1 => ?_) (fun c_1 => ?_)
  · exact (inr_c rfl)
  · refine pl_let (fun q4 e_q4 => ?_)
    have h_q4 : (fun r => InR r) q4 := by rw [e_q4]; exact (sf_Scene_downOf  h_M h_x2 )
    clear e_q4
    refine pl_let (fun q6 e_q6 => ?_)
    have h_q6 : (fun r => InR r) q6 := by rw [e_q6]; exact (sf_WF_bitOf  h_M h_x2 )
    clear e_q6
    refine pl_ite (fun c_2 => ?_) (fun c_2 => ?_)
    · exact (sf_Scene_standsIn_L38  h_M h_x2 )
    · refine pl_ite (fun c_3 => ?_) (fun c_3 => ?_)
      · exact (sf_Scene_standsIn_L38  h_M h_x2 )
      · refine pl_let (fun q10 e_q10 => ?_)
        have h_q10 : (fun r => InR r) q10 := by rw [e_q10]; exact (sf_Town_beside  h_M h_x2 h_q4 )
        clear e_q10
        refine pl_ite (fun c_4 => ?_) (fun c_4 => ?_)
        · exact (inr_c rfl)
        · refine pl_let (fun q13 e_q13 => ?_)
          have h_q13 : (fun r => InR r) q13 := by rw [e_q13]; exact (sf_WF_bitOf  h_M h_q10 )
          clear e_q13
          refine pl_ite (fun c_5 => ?_) (fun c_5 => ?_)
          · exact (inr_c rfl)
          · exact (inr_c rfl)
theorem sf_Town_hasWard {k0 : Nat} {x1 : Int} {M : Mem} (h_M : IM M) (h_x1 : InR x1) : (fun r => InR r) (t_Town_hasWard M k0 x1) := by
  show Pl (fun r => InR r) (t_Town_hasWard M k0 x1)
  unfold t_Town_hasWard
  refine pl_ite (fun c_1 => ?_) (fun c_1 => ?_)
  · exact (inr_c rfl)
  · refine pl_ite (fun c_2 => ?_) (fun c_2 => ?_)
    · exact (inr_c rfl)
    · exact (inr_c rfl)
theorem sf_Town_isLine {k0 : Nat} {x1 : Int} {x2 : Int} {M : Mem} (h_M : IM M) (h_x1 : InR x1) (h_x2 : InR x2) : (fun r => InR r) (t_Town_isLine M k0 x1 x2) := by
  show Pl (fun r => InR r) (t_Town_isLine M k0 x1 x2)
  unfold t_Town_isLine
  refine pl_let (fun q1 e_q1 => ?_)
  have h_q1 : (fun r => InR r) q1 := by rw [e_q1]; exact (sf_Town_ownerOf  h_M h_x1 )
  clear e_q1
  refine pl_let (fun q3 e_q3 => ?_)
  have h_q3 : (fun r => InR r) q3 := by rw [e_q3]; exact (sf_Town_ownerOf  h_M h_x2 )
  clear e_q3
  refine pl_ite (fun c_1 => ?_) (fun c_1 => ?_)
  · exact (inr_c rfl)
  · exact (inr_c rfl)
theorem sf_Trail_follow_L101 {k0 : Nat} {k1 : Nat} {k2 : Nat} {x3 : Int} {bk24 : Mem → Int64 → Int → Int → Option (Mem)} {v3_ : Int64} {v4_ : Int} {v5_ : Int} {M : Mem} {c_bk24 : Int} (hbk24 : ∀ (a0_ : Mem) (a1_ : Int64) (a2_ : Int) (a3_ : Int), IM a0_ → True → InR a2_ → InR a3_ → c_bk24 < a3_ → Ok (fun r => IM r) (bk24 a0_ a1_ a2_ a3_)) (h_M : IM M) (h_x3 : InR x3) (h_v4_ : InR v4_) (h_v5_ : InR v5_) (g_0 : c_bk24 ≤ v4_ ∧ v4_ ≤ 2147483646) : Ok (fun r => IM r) (t_Trail_follow_L101 k0 k1 k2 x3 bk24 M v3_ v4_ v5_) := by
  unfold t_Trail_follow_L101
  have r_v4_ : -2147483648 ≤ v4_ ∧ v4_ ≤ 2147483647 := h_v4_
  refine ok_let (fun q17 e_q17 => ?_)
  have h_q17 : (fun r => InR r) q17 := by rw [e_q17]; exact (sf_WF_bitOf  h_M h_v5_ )
  clear e_q17
  refine ok_ite (fun c_1 => ?_) (fun c_1 => ?_)
  · refine ok_bind (Q := fun r => InR r) (sf_WF_indexOf  h_M (h_M _ _) h_v5_ ) (fun q21 h_q21 => ?_)
    refine ok_let (fun M23 e_M23 => ?_)
    have h_M23 : IM M23 := by rw [e_M23]; exact IM.setI h_M h_q21
    clear e_M23
    refine ok_let (fun M26 e_M26 => ?_)
    have h_M26 : IM M26 := by rw [e_M26]; exact IM.setI h_M23 (inr_w32 _)
    clear e_M26
    exact ok_some h_M26
  · have w_2 : (w32 (v4_ + 1)) = v4_ + (1) := w32_id (by unfold InR; omega)
    exact hbk24 _ _ _ _  h_M trivial h_v5_ (inr_w32 _) (by omega)
theorem sf_Trail_follow_L24 {k0 : Nat} {k1 : Nat} {k2 : Nat} {x3 : Int}   (h_x3 : InR x3) : ∀ (fu : Nat) (M : Mem) (v3_ : Int64) (v4_ : Int) (v5_ : Int), IM M → InR v4_ → InR v5_ → 2147483648 - v5_ < (fu : Int) → Ok (fun r => IM r) (t_Trail_follow_L24 k0 k1 k2 x3 fu M v3_ v4_ v5_) := by
  intro fu
  induction fu with
  | zero => intro M v3_ v4_ v5_ h_M h_v4_ h_v5_ hf; have r_ := (h_v5_ : InR v5_); unfold InR at r_; exact absurd hf (by omega)
  | succ fu ih =>
    intro M v3_ v4_ v5_ h_M h_v4_ h_v5_ hf
    rw [t_Trail_follow_L24]
    have r_v5_ : -2147483648 ≤ v5_ ∧ v5_ ≤ 2147483647 := h_v5_
    refine ok_ite (fun c_1 => ?_) (fun c_1 => ?_)
    · exact ok_some h_M
    · have f_2 : v5_ ≤ 2147483646 := by omega
      refine ok_let (fun q5 e_q5 => ?_)
      have h_q5 : (fun r => IM r) q5 := by rw [e_q5]; exact (sf_WF_put  h_M h_v5_ h_v4_ )
      clear e_q5
      refine ok_let (fun M7 e_M7 => ?_)
      have h_M7 : IM M7 := by rw [e_M7]; exact IM.setI h_q5 (inr_w32 _)
      clear e_M7
      refine ok_let (fun M8 e_M8 => ?_)
      have h_M8 : IM M8 := by rw [e_M8]; exact IM.setI h_M7 h_v5_
      clear e_M8
      refine ok_let (fun q9 e_q9 => ?_)
      have h_q9 : (fun r => InR r) q9 := by rw [e_q9]; exact (sf_Scene_nextOf  h_M8 h_v4_ )
      clear e_q9
      refine ok_ite (fun c_3 => ?_) (fun c_3 => ?_)
      · refine ok_let (fun q12 e_q12 => ?_)
        have h_q12 : (fun r => InR r) q12 := by rw [e_q12]; exact (sf_Town_isLine  h_M8 h_v4_ h_q9 )
        clear e_q12
        refine ok_ite (fun c_4 => ?_) (fun c_4 => ?_)
        · exact (sf_Trail_follow_L101 (c_bk24 := v5_) (fun a0_ a1_ a2_ a3_ h0_ h1_ h2_ h3_ z_ => ih a0_ a1_ a2_ a3_ h0_ h2_ h3_ (by omega)) h_M8 h_x3 h_v5_ h_q9 (by omega))
        · refine ok_let (fun M16 e_M16 => ?_)
          have h_M16 : IM M16 := by rw [e_M16]; exact IM.setI h_M8 (inr_w32 _)
          clear e_M16
          exact (sf_Trail_follow_L101 (c_bk24 := v5_) (fun a0_ a1_ a2_ a3_ h0_ h1_ h2_ h3_ z_ => ih a0_ a1_ a2_ a3_ h0_ h2_ h3_ (by omega)) h_M16 h_x3 h_v5_ h_q9 (by omega))
      · exact ok_some h_M8
theorem sf_Trail_follow {k0 : Nat} {k1 : Nat} {k2 : Nat} {x3 : Int} {M : Mem}   (h_M : IM M) (h_x3 : InR x3)  : Ok (fun r => IM r) (t_Trail_follow M k0 k1 k2 x3) := by
  unfold t_Trail_follow
  refine ok_let (fun M1 e_M1 => ?_)
  have h_M1 : IM M1 := by rw [e_M1]; exact IM.setI h_M (inr_c rfl)
  clear e_M1
  refine ok_let (fun M2 e_M2 => ?_)
  have h_M2 : IM M2 := by rw [e_M2]; exact IM.setI h_M1 (inr_c rfl)
  clear e_M2
  refine ok_let (fun M3 e_M3 => ?_)
  have h_M3 : IM M3 := by rw [e_M3]; exact IM.setI h_M2 (inr_c rfl)
  clear e_M3
  exact (sf_Trail_follow_L24  h_x3 _ _ _ _ _ h_M3 h_x3 (inr_c rfl) (fu_up (inr_c rfl)))
theorem sf_Trail_end {k0 : Nat} {M : Mem} (h_M : IM M)  : (fun r => InR r) (t_Trail_end M k0) := by
  show Pl (fun r => InR r) (t_Trail_end M k0)
  unfold t_Trail_end
  refine pl_ite (fun c_1 => ?_) (fun c_1 => ?_)
  · refine pl_let (fun q4 e_q4 => ?_)
    have h_q4 : (fun r => InR r) q4 := by rw [e_q4]; exact (sf_WF_look  h_M (inr_w32 _) )
    clear e_q4
    exact h_q4
  · exact (inr_c rfl)
theorem sf_Laws_measure_L141 {k1 : Nat} {k2 : Nat} {bk26 : Mem → Int → Option (Mem)} {v3_ : Int} {v5_ : Int} {v6_ : Int} {v7_ : Int} {M : Mem} {c_bk26 : Int} (hbk26 : ∀ (a0_ : Mem) (a1_ : Int), IM a0_ → InR a1_ → c_bk26 < a1_ → Ok (fun r => IM r) (bk26 a0_ a1_)) (h_M : IM M) (h_v3_ : InR v3_) (h_v5_ : InR v5_) (h_v6_ : InR v6_) (h_v7_ : InR v7_) (g_0 : c_bk26 ≤ v3_ ∧ v3_ ≤ 2147483646) : Ok (fun r => IM r) (t_Laws_measure_L141 k1 k2 bk26 M v3_ v5_ v6_ v7_) := by
  unfold t_Laws_measure_L141
  have r_v3_ : -2147483648 ≤ v3_ ∧ v3_ ≤ 2147483647 := h_v3_
  refine ok_let (fun q31 e_q31 => ?_)
  have h_q31 : (fun r => IM r) q31 := by rw [e_q31]; exact (sf_WF_put  h_M h_v5_ (inr_w32 _) )
  clear e_q31
  have w_1 : (w32 (v3_ + 1)) = v3_ + (1) := w32_id (by unfold InR; omega)
  exact hbk26 _ _  h_q31 (inr_w32 _) (by omega)
theorem sf_Laws_measure_L26 {k1 : Nat} {k2 : Nat}    : ∀ (fu : Nat) (M : Mem) (v3_ : Int), IM M → InR v3_ → 2147483648 - v3_ < (fu : Int) → Ok (fun r => IM r) (t_Laws_measure_L26 k1 k2 fu M v3_) := by
  intro fu
  induction fu with
  | zero => intro M v3_ h_M h_v3_ hf; have r_ := (h_v3_ : InR v3_); unfold InR at r_; exact absurd hf (by omega)
  | succ fu ih =>
    intro M v3_ h_M h_v3_ hf
    rw [t_Laws_measure_L26]
    have r_v3_ : -2147483648 ≤ v3_ ∧ v3_ ≤ 2147483647 := h_v3_
    refine ok_ite (fun c_1 => ?_) (fun c_1 => ?_)
    · exact ok_some h_M
    · have f_2 : v3_ ≤ 2147483646 := by have b_ : (M.1 k1 15) ≤ 2147483647 := ((h_M _ _)).2; omega
      refine ok_let (fun q9 e_q9 => ?_)
      have h_q9 : (fun r => InR r) q9 := by rw [e_q9]; exact (sf_WF_look  h_M h_v3_ )
      clear e_q9
      refine ok_bind (Q := fun r => IM r) (sf_Trail_follow  h_M h_q9 ) (fun q11 h_q11 => ?_)
      refine ok_let (fun q13 e_q13 => ?_)
      have h_q13 : (fun r => InR r) q13 := by rw [e_q13]; exact (sf_Trail_end  h_q11  )
      clear e_q13
      refine ok_let (fun q15 e_q15 => ?_)
      have h_q15 : (fun r => InR r) q15 := by rw [e_q15]; exact (sf_Town_ownerOf  h_q11 h_q13 )
      clear e_q15
      refine ok_let (fun q17 e_q17 => ?_)
      have h_q17 : (fun r => InR r) q17 := by rw [e_q17]; exact (sf_WF_look  h_q11 h_q15 )
      clear e_q17
      refine ok_let (fun q19 e_q19 => ?_)
      have h_q19 : (fun r => IM r) q19 := by rw [e_q19]; exact (sf_WF_put  h_q11 h_q15 (inr_w32 _) )
      clear e_q19
      refine ok_let (fun q21 e_q21 => ?_)
      have h_q21 : (fun r => InR r) q21 := by rw [e_q21]; exact (sf_WF_look  h_q19 h_q15 )
      clear e_q21
      refine ok_let (fun q23 e_q23 => ?_)
      have h_q23 : (fun r => InR r) q23 := by rw [e_q23]; exact (sf_WF_look  h_q19 h_v3_ )
      clear e_q23
      refine ok_let (fun q25 e_q25 => ?_)
      have h_q25 : (fun r => IM r) q25 := by rw [e_q25]; exact (sf_WF_put  h_q19 h_q15 (inr_w32 _) )
      clear e_q25
      refine ok_let (fun q27 e_q27 => ?_)
      have h_q27 : (fun r => InR r) q27 := by rw [e_q27]; exact (sf_WF_look  h_q25 h_q15 )
      clear e_q27
      refine ok_ite (fun c_3 => ?_) (fun c_3 => ?_)
      · exact (sf_Laws_measure_L141 (c_bk26 := v3_) (fun a0_ a1_ h0_ h1_ z_ => ih a0_ a1_ h0_ h1_ (by omega)) h_q25 h_v3_ h_q15 h_q27 (inr_c rfl) (by omega))
      · exact (sf_Laws_measure_L141 (c_bk26 := v3_) (fun a0_ a1_ h0_ h1_ z_ => ih a0_ a1_ h0_ h1_ (by omega)) h_q25 h_v3_ h_q15 h_q27 (inr_c rfl) (by omega))
theorem sf_Laws_measure {k1 : Nat} {k2 : Nat} {M : Mem}   (h_M : IM M)   : Ok (fun r => IM r) (t_Laws_measure M k1 k2) := by
  unfold t_Laws_measure
  refine ok_bind (Q := fun r => IM r) (sf_Arrays_fill (by decide) h_M (inr_c rfl) ) (fun q1 h_q1 => ?_)
  refine ok_bind (Q := fun r => IM r) (sf_Arrays_fill (by decide) h_q1 (inr_c rfl) ) (fun q3 h_q3 => ?_)
  refine ok_bind (Q := fun r => IM r) (sf_Arrays_fill (by decide) h_q3 (inr_c rfl) ) (fun q5 h_q5 => ?_)
  exact (sf_Laws_measure_L26   _ _ _ h_q5 (inr_c rfl) (fu_up (inr_c rfl)))
theorem sf_Laws_name {x1 : Int} {x2 : Int64} {M : Mem} (h_M : IM M) (h_x1 : InR x1) : (fun r => IM r) (t_Laws_name M x1 x2) := by
  show Pl (fun r => IM r) (t_Laws_name M x1 x2)
  unfold t_Laws_name
  refine pl_ite (fun c_1 => ?_) (fun c_1 => ?_)
  · exact h_M
  · refine pl_ite (fun c_2 => ?_) (fun c_2 => ?_)
    · exact h_M
    · refine pl_let (fun M3 e_M3 => ?_)
      have h_M3 : IM M3 := by rw [e_M3]; exact IM.setL h_M
      clear e_M3
      exact h_M3
theorem sf_Formula_product {x1 : Int64} {x2 : Int64} {M : Mem}   (h_M : IM M)   : Ok (fun _ => True) (t_Formula_product M x1 x2) := by
  unfold t_Formula_product
  refine ok_ite (fun c_1 => ?_) (fun c_1 => ?_)
  · exact ok_some True.intro
  · refine ok_ite (fun c_2 => ?_) (fun c_2 => ?_)
    · exact ok_some True.intro
    · refine ok_ite (fun c_3 => ?_) (fun c_3 => ?_)
      · exact False.elim (by first | omega | contradiction | exact absurd (absl_zero (by assumption)) (by assumption))
      · refine ok_ite (fun c_4 => ?_) (fun c_4 => ?_)
        · exact ok_some True.intro
        · exact ok_some True.intro
theorem sf_Formula_join_L185 {x1 : Int} {x2 : Int64} {x3 : Int64} {v0_ : Int} {M : Mem}   (h_M : IM M) (h_x1 : InR x1) (h_v0_ : InR v0_)  : Ok (fun _ => True) (t_Formula_join_L185 x1 x2 x3 M v0_) := by
  unfold t_Formula_join_L185
  refine ok_let (fun q51 _ => ?_)
  exact ok_some True.intro
theorem sf_Formula_join_L180 {x1 : Int} {x2 : Int64} {x3 : Int64} {M : Mem}   (h_M : IM M) (h_x1 : InR x1)  : Ok (fun _ => True) (t_Formula_join_L180 x1 x2 x3 M) := by
  unfold t_Formula_join_L180
  exact (sf_Formula_join_L185  h_M h_x1 (inr_c rfl) )
theorem sf_Formula_join_L206 {x1 : Int} {x2 : Int64} {x3 : Int64} {v0_ : Int} {M : Mem}   (h_M : IM M) (h_x1 : InR x1) (h_v0_ : InR v0_)  : Ok (fun _ => True) (t_Formula_join_L206 x1 x2 x3 M v0_) := by
  unfold t_Formula_join_L206
  refine ok_let (fun q53 _ => ?_)
  exact ok_some True.intro
theorem sf_Formula_join_L205 {x1 : Int} {x2 : Int64} {x3 : Int64} {M : Mem}   (h_M : IM M) (h_x1 : InR x1)  : Ok (fun _ => True) (t_Formula_join_L205 x1 x2 x3 M) := by
  unfold t_Formula_join_L205
  exact (sf_Formula_join_L206  h_M h_x1 (inr_c rfl) )
theorem sf_Formula_join_L221 {x1 : Int} {x2 : Int64} {x3 : Int64} {v0_ : Int} {M : Mem}   (h_M : IM M) (h_x1 : InR x1) (h_v0_ : InR v0_)  : Ok (fun _ => True) (t_Formula_join_L221 x1 x2 x3 M v0_) := by
  unfold t_Formula_join_L221
  refine ok_let (fun q56 _ => ?_)
  exact ok_some True.intro
theorem sf_Formula_join_L236 {x1 : Int} {x2 : Int64} {x3 : Int64} {v0_ : Int} {M : Mem}   (h_M : IM M) (h_x1 : InR x1) (h_v0_ : InR v0_)  : Ok (fun _ => True) (t_Formula_join_L236 x1 x2 x3 M v0_) := by
  unfold t_Formula_join_L236
  refine ok_let (fun q58 _ => ?_)
  exact ok_some True.intro
theorem sf_Formula_join_L251 {x1 : Int} {x2 : Int64} {x3 : Int64} {v0_ : Int} {M : Mem}   (h_M : IM M) (h_x1 : InR x1) (h_v0_ : InR v0_)  : Ok (fun _ => True) (t_Formula_join_L251 x1 x2 x3 M v0_) := by
  unfold t_Formula_join_L251
  refine ok_let (fun q60 _ => ?_)
  exact ok_some True.intro
theorem sf_Formula_join_L266 {x1 : Int} {x2 : Int64} {x3 : Int64} {v0_ : Int} {M : Mem}   (h_M : IM M) (h_x1 : InR x1) (h_v0_ : InR v0_)  : Ok (fun _ => True) (t_Formula_join_L266 x1 x2 x3 M v0_) := by
  unfold t_Formula_join_L266
  refine ok_let (fun q62 _ => ?_)
  exact ok_some True.intro
theorem sf_Formula_join_L281 {x1 : Int} {x2 : Int64} {x3 : Int64} {v0_ : Int} {M : Mem}   (h_M : IM M) (h_x1 : InR x1) (h_v0_ : InR v0_)  : Ok (fun _ => True) (t_Formula_join_L281 x1 x2 x3 M v0_) := by
  unfold t_Formula_join_L281
  refine ok_let (fun q64 _ => ?_)
  exact ok_some True.intro
theorem sf_Formula_join_L296 {x1 : Int} {x2 : Int64} {x3 : Int64} {v0_ : Int} {M : Mem}   (h_M : IM M) (h_x1 : InR x1) (h_v0_ : InR v0_)  : Ok (fun _ => True) (t_Formula_join_L296 x1 x2 x3 M v0_) := by
  unfold t_Formula_join_L296
  refine ok_let (fun q66 _ => ?_)
  exact ok_some True.intro
theorem sf_Formula_join_L314 {x1 : Int} {x2 : Int64} {x3 : Int64} {M : Mem}   (h_M : IM M) (h_x1 : InR x1)  : Ok (fun _ => True) (t_Formula_join_L314 x1 x2 x3 M) := by
  unfold t_Formula_join_L314
  refine ok_ite (fun c_1 => ?_) (fun c_1 => ?_)
  · exact ok_some True.intro
  · exact ok_some True.intro
end
