section
/-! safe rows -/
theorem sf_WF_may {x1 : Int} {M : Mem}   (h_M : IM M) (h_x1 : InR x1)  : Ok (fun r => IM r.1 ∧ InR r.2) (t_WF_may M x1) := by
  unfold t_WF_may
  refine ok_let (fun q2 e_q2 => ?_)
  have h_q2 : (fun r => InR r) q2 := by rw [e_q2]; exact (sf_Town_hasWard  h_M h_x1 )
  clear e_q2
  refine ok_ite (fun c_1 => ?_) (fun c_1 => ?_)
  · exact ok_some ⟨h_M, (inr_c rfl)⟩
  · refine ok_bind (Q := fun r => IM r) (sf_Notes_findFits  h_M  ) (fun q6 h_q6 => ?_)
    refine ok_let (fun q8 e_q8 => ?_)
    have h_q8 : (fun r => InR r) q8 := by rw [e_q8]; exact (sf_WF_look  h_q6 h_x1 )
    clear e_q8
    exact ok_some ⟨h_q6, h_q8⟩
theorem sf_Chronicle_number {k0 : Nat} {M : Mem} (h_M : IM M)  : (fun r => IM r.1 ∧ InR r.2) (t_Chronicle_number M k0) := by
  show Pl (fun r => IM r.1 ∧ InR r.2) (t_Chronicle_number M k0)
  unfold t_Chronicle_number
  refine pl_let (fun M1 e_M1 => ?_)
  have h_M1 : IM M1 := by rw [e_M1]; exact IM.setL h_M
  clear e_M1
  exact ⟨h_M1, (inrq_l2i)⟩
theorem sf_Chronicle_goOn_L61 {k0 : Nat} {k1 : Nat} {k2 : Nat} {v1_ : Int} {v2_ : Int} {v3_ : Int} {M : Mem}   (h_M : IM M) (h_v1_ : InR v1_) (h_v2_ : InR v2_) (h_v3_ : InR v3_)  : Ok (fun r => IM r) (t_Chronicle_goOn_L61 k0 k1 k2 M v1_ v2_ v3_) := by
  unfold t_Chronicle_goOn_L61
  refine ok_let (fun q16 e_q16 => ?_)
  have h_q16 : (fun r => IM r) q16 := by rw [e_q16]; exact (sf_WF_put  h_M (h_M _ _) h_v1_ )
  clear e_q16
  refine ok_let (fun q19 e_q19 => ?_)
  have h_q19 : (fun r => IM r) q19 := by rw [e_q19]; exact (sf_WF_put  h_q16 (h_q16 _ _) h_v2_ )
  clear e_q19
  refine ok_let (fun q22 e_q22 => ?_)
  have h_q22 : (fun r => IM r) q22 := by rw [e_q22]; exact (sf_WF_put  h_q19 (h_q19 _ _) h_v3_ )
  clear e_q22
  refine ok_let (fun M25 e_M25 => ?_)
  have h_M25 : IM M25 := by rw [e_M25]; exact IM.setI h_q22 (inr_w32 _)
  clear e_M25
  exact ok_some h_M25
theorem sf_Chronicle_goOn {k0 k1 k2 : Nat} {M : Mem} (hM : IM M) : Ok (fun r => IM r) (t_Chronicle_goOn M k0 k1 k2) := by
  unfold t_Chronicle_goOn
  refine ok_ite (fun _ => sf_Chronicle_goOn_L61 hM (inr_c rfl) (inr_c rfl) (inr_c rfl)) (fun c => ?_)
  refine ok_let (fun q3 e3 => ?_)
  have h3 : IM q3.1 := by rw [e3]; exact hM.setL
  have f3 : q3.1.1 k1 14 = M.1 k1 14 := by rw [e3]; rfl
  refine ok_ite (fun c2 => False.elim (by omega)) (fun _ => ?_)
  refine ok_let (fun q7 e7 => ?_)
  have h7 : IM q7.1 := by rw [e7]; exact h3.setL
  refine ok_let (fun q9 e9 => ?_)
  have h9 : InR q9 := by rw [e9]; exact sf_WF_look h7 inrq_rem
  refine ok_let (fun q11 e11 => ?_)
  have h11 : IM q11 := by rw [e11]; exact sf_WF_put h7 inrq_rem inrq_rem
  refine ok_bind (sf_Scene_pourAnew h11) (fun q13 h13 => ?_)
  exact sf_Chronicle_goOn_L61 h13 inrq_rem inrq_rem h9
theorem sf_WF_years_L73 {x1 : Int} {M : Mem}   (h_M : IM M) (h_x1 : InR x1)  : Ok (fun r => IM r.1 ∧ InR r.2) (t_WF_years_L73 x1 M) := by
  unfold t_WF_years_L73
  exact ok_some ⟨h_M, (h_M _ _)⟩
theorem sf_WF_years_L28 {x1 : Int}   (h_x1 : InR x1) : ∀ (fu : Nat) (M : Mem) (v2_ : Int), IM M → InR v2_ → 2147483648 - v2_ < (fu : Int) → Ok (fun r => IM r.1 ∧ InR r.2) (t_WF_years_L28 x1 fu M v2_) := by
  intro fu
  induction fu with
  | zero => intro M v2_ h_M h_v2_ hf; have r_ := (h_v2_ : InR v2_); unfold InR at r_; exact absurd hf (by omega)
  | succ fu ih =>
    intro M v2_ h_M h_v2_ hf
    rw [t_WF_years_L28]
    have r_v2_ : -2147483648 ≤ v2_ ∧ v2_ ≤ 2147483647 := h_v2_
    refine ok_ite (fun c_1 => ?_) (fun c_1 => ?_)
    · refine ok_ite (fun c_2 => ?_) (fun c_2 => ?_)
      · exact (sf_WF_years_L73  h_M h_x1 )
      · refine ok_let (fun q7 e_q7 => ?_)
        have h_q7 : (fun r => IM r) q7 := by rw [e_q7]; exact (sf_Past_clear  h_M  )
        clear e_q7
        refine ok_let (fun M9 e_M9 => ?_)
        have h_M9 : IM M9 := by rw [e_M9]; exact IM.setI h_q7 (inr_c rfl)
        clear e_M9
        exact (sf_WF_years_L73  h_M9 h_x1 )
    · have f_3 : v2_ ≤ 2147483646 := by have b_ : x1 ≤ 2147483647 := (h_x1).2; omega
      refine ok_bind (Q := fun r => IM r) (sf_Chronicle_goOn  h_M  ) (fun q11 h_q11 => ?_)
      have w_4 : (w32 (v2_ + 1)) = v2_ + (1) := w32_id (by unfold InR; omega)
      exact (ih _ _ h_q11 (inr_w32 _) (by omega))
theorem sf_WF_years {x1 : Int} {M : Mem}   (h_M : IM M) (h_x1 : InR x1)  : Ok (fun r => IM r.1 ∧ InR r.2) (t_WF_years M x1) := by
  unfold t_WF_years
  refine ok_ite (fun c_1 => ?_) (fun c_1 => ?_)
  · exact ok_some ⟨h_M, (inr_c rfl)⟩
  · refine ok_ite (fun c_2 => ?_) (fun c_2 => ?_)
    · exact ok_some ⟨h_M, (inr_c rfl)⟩
    · refine ok_ite (fun c_3 => ?_) (fun c_3 => ?_)
      · exact (sf_WF_years_L28  h_x1 _ _ _ h_M (inr_c rfl) (fu_up (inr_c rfl)))
      · exact ok_some ⟨h_M, (inr_c rfl)⟩
theorem sf_WF_voted {x1 : Int} {x2 : Int} {M : Mem} (h_M : IM M) (h_x1 : InR x1) (h_x2 : InR x2) : (fun r => InR r) (t_WF_voted M x1 x2) := by
  show Pl (fun r => InR r) (t_WF_voted M x1 x2)
  unfold t_WF_voted
  refine pl_ite (fun c_1 => ?_) (fun c_1 => ?_)
  · exact (inr_c rfl)
  · refine pl_ite (fun c_2 => ?_) (fun c_2 => ?_)
    · refine pl_ite (fun c_3 => ?_) (fun c_3 => ?_)
      · refine pl_let (fun q5 e_q5 => ?_)
        have h_q5 : (fun r => InR r) q5 := by rw [e_q5]; exact (sf_WF_look  h_M h_x1 )
        clear e_q5
        exact h_q5
      · refine pl_ite (fun c_4 => ?_) (fun c_4 => ?_)
        · refine pl_let (fun q8 e_q8 => ?_)
          have h_q8 : (fun r => InR r) q8 := by rw [e_q8]; exact (sf_WF_look  h_M h_x1 )
          clear e_q8
          exact h_q8
        · refine pl_ite (fun c_5 => ?_) (fun c_5 => ?_)
          · refine pl_let (fun q11 e_q11 => ?_)
            have h_q11 : (fun r => InR r) q11 := by rw [e_q11]; exact (sf_WF_look  h_M h_x1 )
            clear e_q11
            exact h_q11
          · exact (inr_c rfl)
    · exact (inr_c rfl)
theorem sf_WF_canTry_L36 {x1 : Int} {x2 : Int} {M : Mem} (h_M : IM M) (h_x1 : InR x1) (h_x2 : InR x2) : (fun r => InR r) (t_WF_canTry_L36 x1 x2 M) := by
  show Pl (fun r => InR r) (t_WF_canTry_L36 x1 x2 M)
  unfold t_WF_canTry_L36
  refine pl_ite (fun c_1 => ?_) (fun c_1 => ?_)
  · exact (inr_c rfl)
  · exact (inr_c rfl)
theorem sf_WF_canTry {x1 : Int} {x2 : Int} {M : Mem} (h_M : IM M) (h_x1 : InR x1) (h_x2 : InR x2) : (fun r => InR r) (t_WF_canTry M x1 x2) := by
  show Pl (fun r => InR r) (t_WF_canTry M x1 x2)
  unfold t_WF_canTry
  refine pl_ite (fun c_1 => ?_) (fun c_1 => ?_)
  · exact (sf_WF_canTry_L36  h_M h_x1 h_x2 )
  · refine pl_ite (fun c_2 => ?_) (fun c_2 => ?_)
    · exact (sf_WF_canTry_L36  h_M h_x1 h_x2 )
    · refine pl_ite (fun c_3 => ?_) (fun c_3 => ?_)
      · exact (sf_WF_canTry_L36  h_M h_x1 h_x2 )
      · refine pl_ite (fun c_4 => ?_) (fun c_4 => ?_)
        · refine pl_let (fun q6 e_q6 => ?_)
          have h_q6 : (fun r => InR r) q6 := by rw [e_q6]; exact (sf_Town_hasWard  h_M h_x2 )
          clear e_q6
          exact h_q6
        · refine pl_ite (fun c_5 => ?_) (fun c_5 => ?_)
          · refine pl_let (fun q10 e_q10 => ?_)
            have h_q10 : (fun r => InR r) q10 := by rw [e_q10]; exact (sf_Town_hasThing  h_M h_x2 )
            clear e_q10
            exact h_q10
          · exact (inr_c rfl)
theorem sf_WF_tried_L152 {x1 : Int} {x2 : Int} {x3 : Int} {bk126 : Mem → Int → Int → Option (Mem × Int)} {v3_ : Int} {v4_ : Int} {u6_ : Nat} {v7_ : Int} {M : Mem} {c_bk126 : Int} (hbk126 : ∀ (a0_ : Mem) (a1_ : Int) (a2_ : Int), IM a0_ → InR a1_ → InR a2_ → c_bk126 < a2_ → Ok (fun r => IM r.1 ∧ InR r.2) (bk126 a0_ a1_ a2_)) (h_M : IM M) (h_x1 : InR x1) (h_x2 : InR x2) (h_x3 : InR x3) (h_v3_ : InR v3_) (h_v4_ : InR v4_) (h_v7_ : InR v7_) (g_0 : c_bk126 ≤ v3_ ∧ v3_ ≤ 2147483646) : Ok (fun r => IM r.1 ∧ InR r.2) (t_WF_tried_L152 x1 x2 x3 bk126 M v3_ v4_ u6_ v7_) := by
  unfold t_WF_tried_L152
  have r_v3_ : -2147483648 ≤ v3_ ∧ v3_ ≤ 2147483647 := h_v3_
  refine ok_bind (Q := fun r => IM r.1 ∧ InR r.2) (sf_Scene_beat  h_M h_v7_ ) (fun q22 h_q22 => ?_)
  have w_1 : (w32 (v3_ + 1)) = v3_ + (1) := w32_id (by unfold InR; omega)
  exact hbk126 _ _ _  h_q22.1 (inr_w32 _) (inr_w32 _) (by omega)
theorem sf_WF_tried_L126 {x1 : Int} {x2 : Int} {x3 : Int}   (h_x1 : InR x1) (h_x2 : InR x2) (h_x3 : InR x3) : ∀ (fu : Nat) (M : Mem) (v3_ : Int) (v4_ : Int), IM M → InR v3_ → InR v4_ → 2147483648 - v4_ < (fu : Int) → Ok (fun r => IM r.1 ∧ InR r.2) (t_WF_tried_L126 x1 x2 x3 fu M v3_ v4_) := by
  intro fu
  induction fu with
  | zero => intro M v3_ v4_ h_M h_v3_ h_v4_ hf; have r_ := (h_v4_ : InR v4_); unfold InR at r_; exact absurd hf (by omega)
  | succ fu ih =>
    intro M v3_ v4_ h_M h_v3_ h_v4_ hf
    rw [t_WF_tried_L126]
    have r_v4_ : -2147483648 ≤ v4_ ∧ v4_ ≤ 2147483647 := h_v4_
    refine ok_ite (fun c_1 => ?_) (fun c_1 => ?_)
    · exact ok_some ⟨h_M, h_v3_⟩
    · have f_2 : v4_ ≤ 2147483646 := by have b_ : x3 ≤ 2147483647 := (h_x3).2; omega
      refine ok_ite (fun c_3 => ?_) (fun c_3 => ?_)
      · exact (sf_WF_tried_L152 (c_bk126 := v4_) (fun a0_ a1_ a2_ h0_ h1_ h2_ z_ => ih a0_ a1_ a2_ h0_ h1_ h2_ (by omega)) h_M h_x1 h_x2 h_x3 h_v4_ h_v3_ (inr_c rfl) (by omega))
      · exact (sf_WF_tried_L152 (c_bk126 := v4_) (fun a0_ a1_ a2_ h0_ h1_ h2_ z_ => ih a0_ a1_ a2_ h0_ h1_ h2_ (by omega)) h_M h_x1 h_x2 h_x3 h_v4_ h_v3_ (inr_c rfl) (by omega))
theorem sf_WF_tried_L120 {x1 : Int} {x2 : Int} {x3 : Int} {M : Mem}   (h_M : IM M) (h_x1 : InR x1) (h_x2 : InR x2) (h_x3 : InR x3)  : Ok (fun r => IM r.1 ∧ InR r.2) (t_WF_tried_L120 x1 x2 x3 M) := by
  unfold t_WF_tried_L120
  exact (sf_WF_tried_L126  h_x1 h_x2 h_x3 _ _ _ _ h_M (inr_c rfl) (inr_c rfl) (fu_up (inr_c rfl)))
theorem sf_WF_tried {x1 : Int} {x2 : Int} {x3 : Int} {M : Mem}   (h_M : IM M) (h_x1 : InR x1) (h_x2 : InR x2) (h_x3 : InR x3)  : Ok (fun r => IM r.1 ∧ InR r.2) (t_WF_tried M x1 x2 x3) := by
  unfold t_WF_tried
  refine ok_ite (fun c_1 => ?_) (fun c_1 => ?_)
  · exact ok_some ⟨h_M, (inr_c rfl)⟩
  · refine ok_ite (fun c_2 => ?_) (fun c_2 => ?_)
    · exact ok_some ⟨h_M, (inr_c rfl)⟩
    · refine ok_let (fun q3 e_q3 => ?_)
      have h_q3 : (fun r => InR r) q3 := by rw [e_q3]; exact (sf_WF_canTry  h_M h_x1 h_x2 )
      clear e_q3
      refine ok_ite (fun c_3 => ?_) (fun c_3 => ?_)
      · exact ok_some ⟨h_M, (inr_c rfl)⟩
      · refine ok_let (fun q6 e_q6 => ?_)
        have h_q6 : (fun r => IM r) q6 := by rw [e_q6]; exact (sf_Scene_copy  h_M  )
        clear e_q6
        refine ok_ite (fun c_4 => ?_) (fun c_4 => ?_)
        · refine ok_let (fun M9 e_M9 => ?_)
          have h_M9 : IM M9 := by rw [e_M9]; exact IM.setL h_q6
          clear e_M9
          exact (sf_WF_tried_L120  h_M9 h_x1 h_x2 h_x3 )
        · refine ok_ite (fun c_5 => ?_) (fun c_5 => ?_)
          · exact (sf_WF_tried_L120  h_q6 h_x1 h_x2 h_x3 )
          · refine ok_ite (fun c_6 => ?_) (fun c_6 => ?_)
            · refine ok_let (fun M12 e_M12 => ?_)
              have h_M12 : IM M12 := by rw [e_M12]; exact IM.setL h_q6
              clear e_M12
              exact (sf_WF_tried_L120  h_M12 h_x1 h_x2 h_x3 )
            · refine ok_ite (fun c_7 => ?_) (fun c_7 => ?_)
              · refine ok_let (fun q14 e_q14 => ?_)
                have h_q14 : (fun r => IM r) q14 := by rw [e_q14]; exact (sf_WF_put  h_q6 h_x2 (inr_c rfl) )
                clear e_q14
                exact (sf_WF_tried_L120  h_q14 h_x1 h_x2 h_x3 )
              · refine ok_ite (fun c_8 => ?_) (fun c_8 => ?_)
                · refine ok_let (fun q17 e_q17 => ?_)
                  have h_q17 : (fun r => IM r) q17 := by rw [e_q17]; exact (sf_WF_put  h_q6 h_x2 (inr_c rfl) )
                  clear e_q17
                  exact (sf_WF_tried_L120  h_q17 h_x1 h_x2 h_x3 )
                · exact (sf_WF_tried_L120  h_q6 h_x1 h_x2 h_x3 )
theorem sf_Past_takeBack_L77 {k1 : Nat} {v2_ : Int} {M : Mem} (h_M : IM M) (h_v2_ : InR v2_) : (fun r => IM r.1 ∧ InR r.2) (t_Past_takeBack_L77 k1 M v2_) := by
  show Pl (fun r => IM r.1 ∧ InR r.2) (t_Past_takeBack_L77 k1 M v2_)
  unfold t_Past_takeBack_L77
  refine pl_let (fun M16 e_M16 => ?_)
  have h_M16 : IM M16 := by rw [e_M16]; exact IM.setI h_M h_v2_
  clear e_M16
  refine pl_let (fun M18 e_M18 => ?_)
  have h_M18 : IM M18 := by rw [e_M18]; exact IM.setI h_M16 (inr_w32 _)
  clear e_M18
  exact ⟨h_M18, (inr_c rfl)⟩
theorem sf_Past_takeBack_L53 {k1 : Nat} {M : Mem} (h_M : IM M)  : (fun r => IM r.1 ∧ InR r.2) (t_Past_takeBack_L53 k1 M) := by
  show Pl (fun r => IM r.1 ∧ InR r.2) (t_Past_takeBack_L53 k1 M)
  unfold t_Past_takeBack_L53
  refine pl_ite (fun c_1 => ?_) (fun c_1 => ?_)
  · exact (sf_Past_takeBack_L77  h_M (inr_w32 _) )
  · exact (sf_Past_takeBack_L77  h_M (inr_w32 _) )
theorem sf_Past_takeBack {k1 : Nat} {M : Mem} (h_M : IM M)  : (fun r => IM r.1 ∧ InR r.2) (t_Past_takeBack M k1) := by
  show Pl (fun r => IM r.1 ∧ InR r.2) (t_Past_takeBack M k1)
  unfold t_Past_takeBack
  refine pl_ite (fun c_1 => ?_) (fun c_1 => ?_)
  · exact ⟨h_M, (inr_c rfl)⟩
  · refine pl_ite (fun c_2 => ?_) (fun c_2 => ?_)
    · exact (sf_Past_takeBack_L53  h_M  )
    · refine pl_ite (fun c_3 => ?_) (fun c_3 => ?_)
      · exact (sf_Past_takeBack_L53  h_M  )
      · refine pl_let (fun q11 e_q11 => ?_)
        have h_q11 : (fun r => IM r) q11 := by rw [e_q11]; exact (sf_Scene_copy  h_M  )
        clear e_q11
        exact (sf_Past_takeBack_L53  h_q11  )
theorem sf_WF_undo  {M : Mem} (h_M : IM M)  : (fun r => IM r.1 ∧ InR r.2) (t_WF_undo M) := by
  show Pl (fun r => IM r.1 ∧ InR r.2) (t_WF_undo M)
  unfold t_WF_undo
  refine pl_let (fun q1 e_q1 => ?_)
  have h_q1 : (fun r => IM r.1 ∧ InR r.2) q1 := by rw [e_q1]; exact (sf_Past_takeBack  h_M  )
  clear e_q1
  refine pl_ite (fun c_1 => ?_) (fun c_1 => ?_)
  · exact ⟨h_q1.1, (inr_c rfl)⟩
  · refine pl_let (fun M4 e_M4 => ?_)
    have h_M4 : IM M4 := by rw [e_M4]; exact IM.setI h_q1.1 (inr_c rfl)
    clear e_M4
    exact ⟨h_M4, (h_M4 _ _)⟩
theorem sf_Chronicle_copy {k0 : Nat} {k1 : Nat} {M : Mem} (h_M : IM M)  : (fun r => IM r) (t_Chronicle_copy M k0 k1) := by
  show Pl (fun r => IM r) (t_Chronicle_copy M k0 k1)
  unfold t_Chronicle_copy
  refine pl_let (fun q1 e_q1 => ?_)
  have h_q1 : (fun r => IM r) q1 := by rw [e_q1]; exact (sf_WF_copyRow  h_M  )
  clear e_q1
  refine pl_let (fun q3 e_q3 => ?_)
  have h_q3 : (fun r => IM r) q3 := by rw [e_q3]; exact (sf_WF_copyRow  h_q1  )
  clear e_q3
  refine pl_let (fun q5 e_q5 => ?_)
  have h_q5 : (fun r => IM r) q5 := by rw [e_q5]; exact (sf_WF_copyRow  h_q3  )
  clear e_q5
  refine pl_let (fun M8 e_M8 => ?_)
  have h_M8 : IM M8 := by rw [e_M8]; exact IM.setI h_q5 (h_q5 _ _)
  clear e_M8
  refine pl_let (fun M10 e_M10 => ?_)
  have h_M10 : IM M10 := by rw [e_M10]; exact IM.setI h_M8 (h_M8 _ _)
  clear e_M10
  refine pl_let (fun M11 e_M11 => ?_)
  have h_M11 : IM M11 := by rw [e_M11]; exact IM.setL h_M10
  clear e_M11
  exact h_M11
theorem sf_WF_keep  {M : Mem} (h_M : IM M)  : (fun r => IM r.1 ∧ InR r.2) (t_WF_keep M) := by
  show Pl (fun r => IM r.1 ∧ InR r.2) (t_WF_keep M)
  unfold t_WF_keep
  refine pl_let (fun q1 e_q1 => ?_)
  have h_q1 : (fun r => IM r) q1 := by rw [e_q1]; exact (sf_Scene_copy  h_M  )
  clear e_q1
  refine pl_let (fun q3 e_q3 => ?_)
  have h_q3 : (fun r => IM r) q3 := by rw [e_q3]; exact (sf_Chronicle_copy  h_q1  )
  clear e_q3
  refine pl_let (fun M5 e_M5 => ?_)
  have h_M5 : IM M5 := by rw [e_M5]; exact IM.setI h_q3 (inr_c rfl)
  clear e_M5
  exact ⟨h_M5, (h_M5 _ _)⟩
theorem sf_WF_back  {M : Mem} (h_M : IM M)  : (fun r => IM r.1 ∧ InR r.2) (t_WF_back M) := by
  show Pl (fun r => IM r.1 ∧ InR r.2) (t_WF_back M)
  unfold t_WF_back
  refine pl_ite (fun c_1 => ?_) (fun c_1 => ?_)
  · exact ⟨h_M, (inr_c rfl)⟩
  · refine pl_let (fun q3 e_q3 => ?_)
    have h_q3 : (fun r => IM r) q3 := by rw [e_q3]; exact (sf_Scene_copy  h_M  )
    clear e_q3
    refine pl_let (fun q5 e_q5 => ?_)
    have h_q5 : (fun r => IM r) q5 := by rw [e_q5]; exact (sf_Chronicle_copy  h_q3  )
    clear e_q5
    refine pl_let (fun q7 e_q7 => ?_)
    have h_q7 : (fun r => IM r) q7 := by rw [e_q7]; exact (sf_Past_clear  h_q5  )
    clear e_q7
    refine pl_let (fun M9 e_M9 => ?_)
    have h_M9 : IM M9 := by rw [e_M9]; exact IM.setI h_q7 (inr_c rfl)
    clear e_M9
    exact ⟨h_M9, (h_M9 _ _)⟩
theorem sf_Scene_thingsToGo_L31 {k0 : Nat} {k1 : Nat} {bk4 : Mem → Int → Int → Option (Int)} {v2_ : Int} {v3_ : Int} {M : Mem} {c_bk4 : Int} (hbk4 : ∀ (a0_ : Mem) (a1_ : Int) (a2_ : Int), IM a0_ → InR a1_ → InR a2_ → c_bk4 < a2_ → Ok (fun r => InR r) (bk4 a0_ a1_ a2_)) (h_M : IM M) (h_v2_ : InR v2_) (h_v3_ : InR v3_) (g_0 : c_bk4 ≤ v3_ ∧ v3_ ≤ 2147483646) : Ok (fun r => InR r) (t_Scene_thingsToGo_L31 k0 k1 bk4 M v2_ v3_) := by
  unfold t_Scene_thingsToGo_L31
  have r_v3_ : -2147483648 ≤ v3_ ∧ v3_ ≤ 2147483647 := h_v3_
  have w_1 : (w32 (v3_ + 1)) = v3_ + (1) := w32_id (by unfold InR; omega)
  exact hbk4 _ _ _  h_M h_v2_ (inr_w32 _) (by omega)
theorem sf_Scene_thingsToGo_L4 {k0 : Nat} {k1 : Nat}    : ∀ (fu : Nat) (M : Mem) (v2_ : Int) (v3_ : Int), IM M → InR v2_ → InR v3_ → 2147483648 - v3_ < (fu : Int) → Ok (fun r => InR r) (t_Scene_thingsToGo_L4 k0 k1 fu M v2_ v3_) := by
  intro fu
  induction fu with
  | zero => intro M v2_ v3_ h_M h_v2_ h_v3_ hf; have r_ := (h_v3_ : InR v3_); unfold InR at r_; exact absurd hf (by omega)
  | succ fu ih =>
    intro M v2_ v3_ h_M h_v2_ h_v3_ hf
    rw [t_Scene_thingsToGo_L4]
    have r_v3_ : -2147483648 ≤ v3_ ∧ v3_ ≤ 2147483647 := h_v3_
    refine ok_ite (fun c_1 => ?_) (fun c_1 => ?_)
    · exact ok_some h_v2_
    · have f_2 : v3_ ≤ 2147483646 := by have b_ : (M.1 k1 15) ≤ 2147483647 := ((h_M _ _)).2; omega
      refine ok_let (fun q3 e_q3 => ?_)
      have h_q3 : (fun r => InR r) q3 := by rw [e_q3]; exact (sf_WF_look  h_M h_v3_ )
      clear e_q3
      refine ok_let (fun q5 e_q5 => ?_)
      have h_q5 : (fun r => InR r) q5 := by rw [e_q5]; exact (sf_Scene_nextOf  h_M h_q3 )
      clear e_q5
      refine ok_ite (fun c_3 => ?_) (fun c_3 => ?_)
      · exact (sf_Scene_thingsToGo_L31 (c_bk4 := v3_) (fun a0_ a1_ a2_ h0_ h1_ h2_ z_ => ih a0_ a1_ a2_ h0_ h1_ h2_ (by omega)) h_M h_v2_ h_v3_ (by omega))
      · exact (sf_Scene_thingsToGo_L31 (c_bk4 := v3_) (fun a0_ a1_ a2_ h0_ h1_ h2_ z_ => ih a0_ a1_ a2_ h0_ h1_ h2_ (by omega)) h_M (inr_w32 _) h_v3_ (by omega))
theorem sf_Scene_thingsToGo {k0 : Nat} {k1 : Nat} {M : Mem}   (h_M : IM M)   : Ok (fun r => InR r) (t_Scene_thingsToGo M k0 k1) := by
  unfold t_Scene_thingsToGo
  exact (sf_Scene_thingsToGo_L4   _ _ _ _ h_M (inr_c rfl) (inr_c rfl) (fu_up (inr_c rfl)))
theorem sf_WF_count {x1 : Int} {M : Mem}   (h_M : IM M) (h_x1 : InR x1)  : Ok (fun r => InR r) (t_WF_count M x1) := by
  unfold t_WF_count
  refine ok_ite (fun c_1 => ?_) (fun c_1 => ?_)
  · exact ok_some (h_M _ _)
  · refine ok_ite (fun c_2 => ?_) (fun c_2 => ?_)
    · exact ok_some (h_M _ _)
    · refine ok_ite (fun c_3 => ?_) (fun c_3 => ?_)
      · exact ok_some (h_M _ _)
      · refine ok_ite (fun c_4 => ?_) (fun c_4 => ?_)
        · exact ok_some (h_M _ _)
        · refine ok_ite (fun c_5 => ?_) (fun c_5 => ?_)
          · exact ok_some (h_M _ _)
          · refine ok_ite (fun c_6 => ?_) (fun c_6 => ?_)
            · exact ok_some (h_M _ _)
            · refine ok_ite (fun c_7 => ?_) (fun c_7 => ?_)
              · exact ok_some (h_M _ _)
              · refine ok_ite (fun c_8 => ?_) (fun c_8 => ?_)
                · exact ok_some (h_M _ _)
                · refine ok_ite (fun c_9 => ?_) (fun c_9 => ?_)
                  · refine ok_let (fun q23 e_q23 => ?_)
                    have h_q23 : (fun r => InR r) q23 := by rw [e_q23]; exact (sf_Notes_knownBy  h_M  )
                    clear e_q23
                    exact ok_some h_q23
                  · refine ok_ite (fun c_10 => ?_) (fun c_10 => ?_)
                    · exact ok_some (h_M _ _)
                    · refine ok_ite (fun c_11 => ?_) (fun c_11 => ?_)
                      · refine ok_let (fun q28 e_q28 => ?_)
                        have h_q28 : (fun r => InR r) q28 := by rw [e_q28]; exact (sf_Long_bitCount  h_M  )
                        clear e_q28
                        exact ok_some h_q28
                      · refine ok_ite (fun c_12 => ?_) (fun c_12 => ?_)
                        · refine ok_let (fun q31 e_q31 => ?_)
                          have h_q31 : (fun r => InR r) q31 := by rw [e_q31]; exact (sf_Long_bitCount  h_M  )
                          clear e_q31
                          exact ok_some h_q31
                        · refine ok_ite (fun c_13 => ?_) (fun c_13 => ?_)
                          · refine ok_bind (Q := fun r => InR r) (sf_Scene_thingsToGo  h_M  ) (fun q35 h_q35 => ?_)
                            exact ok_some h_q35
                          · exact ok_some (inr_c rfl)
theorem sf_WF_init  {M : Mem}   (h_M : IM M)   : Ok (fun r => IM r) (t_WF_init M) := by
  unfold t_WF_init
  refine ok_let (fun M1 e_M1 => ?_)
  have h_M1 : IM M1 := by rw [e_M1]; exact IM.setI h_M (inr_c rfl)
  clear e_M1
  refine ok_bind (Q := fun r => IM r) (sf_Town_clear  h_M1  ) (fun q502 h_q502 => ?_)
  refine ok_bind (Q := fun r => IM r) (sf_Town_settle  h_q502  ) (fun q505 h_q505 => ?_)
  refine ok_bind (Q := fun r => IM r) (sf_WF_startAnew  h_q505  ) (fun q507 h_q507 => ?_)
  exact ok_some h_q507
theorem sf_WF_cell {x1 : Int} {x2 : Int} {M : Mem}   (h_M : IM M) (h_x1 : InR x1) (h_x2 : InR x2)  : Ok (fun r => InR r.1 ∧ InR r.2) (t_WF_cell M x1 x2) := by
  unfold t_WF_cell
  refine ok_let (fun q2 e_q2 => ?_)
  have h_q2 : (fun r => InR r) q2 := by rw [e_q2]; exact (sf_Town_hasCell  h_M h_x1 )
  clear e_q2
  refine ok_ite (fun c_1 => ?_) (fun c_1 => ?_)
  · exact ok_some ⟨(inr_c rfl), (inr_c rfl)⟩
  · refine ok_ite (fun c_2 => ?_) (fun c_2 => ?_)
    · refine ok_let (fun q7 e_q7 => ?_)
      have h_q7 : (fun r => InR r) q7 := by rw [e_q7]; exact (sf_Town_ownerOf  h_M h_x1 )
      clear e_q7
      exact ok_some ⟨(inr_c rfl), h_q7⟩
    · refine ok_ite (fun c_3 => ?_) (fun c_3 => ?_)
      · refine ok_let (fun q10 e_q10 => ?_)
        have h_q10 : (fun r => InR r) q10 := by rw [e_q10]; exact (sf_WF_bitOf  h_M h_x1 )
        clear e_q10
        exact ok_some ⟨(inr_c rfl), h_q10⟩
      · refine ok_ite (fun c_4 => ?_) (fun c_4 => ?_)
        · refine ok_let (fun q14 e_q14 => ?_)
          have h_q14 : (fun r => InR r) q14 := by rw [e_q14]; exact (sf_WF_bitOf  h_M h_x1 )
          clear e_q14
          exact ok_some ⟨(inr_c rfl), h_q14⟩
        · refine ok_ite (fun c_5 => ?_) (fun c_5 => ?_)
          · refine ok_let (fun q17 e_q17 => ?_)
            have h_q17 : (fun r => InR r) q17 := by rw [e_q17]; exact (sf_WF_bitOf  h_M h_x1 )
            clear e_q17
            exact ok_some ⟨(inr_c rfl), h_q17⟩
          · refine ok_ite (fun c_6 => ?_) (fun c_6 => ?_)
            · refine ok_let (fun q20 e_q20 => ?_)
              have h_q20 : (fun r => InR r) q20 := by rw [e_q20]; exact (sf_WF_bitOf  h_M h_x1 )
              clear e_q20
              exact ok_some ⟨(inr_c rfl), h_q20⟩
            · refine ok_ite (fun c_7 => ?_) (fun c_7 => ?_)
              · refine ok_bind (Q := fun r => InR r) (sf_Scene_thingIn  h_M h_x1 ) (fun q24 h_q24 => ?_)
                exact ok_some ⟨(inr_c rfl), h_q24⟩
              · refine ok_ite (fun c_8 => ?_) (fun c_8 => ?_)
                · refine ok_let (fun q28 e_q28 => ?_)
                  have h_q28 : (fun r => InR r) q28 := by rw [e_q28]; exact (sf_Scene_nextOf  h_M h_x1 )
                  clear e_q28
                  exact ok_some ⟨(inr_c rfl), h_q28⟩
                · refine ok_ite (fun c_9 => ?_) (fun c_9 => ?_)
                  · refine ok_let (fun q32 e_q32 => ?_)
                    have h_q32 : (fun r => InR r) q32 := by rw [e_q32]; exact (sf_Scene_standsIn  h_M h_x1 )
                    clear e_q32
                    refine ok_ite (fun c_10 => ?_) (fun c_10 => ?_)
                    · exact ok_some ⟨(inr_c rfl), (inr_c rfl)⟩
                    · exact ok_some ⟨(inr_c rfl), (inr_c rfl)⟩
                  · exact ok_some ⟨(inr_c rfl), (inr_c rfl)⟩
end
section
/-! ===== ways ===== -/
theorem pigeon : ∀ (N n : Nat) (f : Nat → Nat), (∀ a, a < n → f a < N) → (∀ a b, a < n → b < n → f a = f b → a = b) → n ≤ N := by
  intro N
  induction N with
  | zero =>
    intro n f h1 h2
    cases n with
    | zero => exact Nat.le_refl _
    | succ n => exact absurd (h1 0 (by omega)) (by omega)
  | succ N ih =>
    intro n f h1 h2
    by_cases hx : ∃ a, a < n ∧ f a = N
    · obtain ⟨a, ha, e⟩ := hx
      have := ih (n - 1) (fun b => if b < a then f b else f (b + 1)) (fun b hb => ?_) (fun b d hb hd he => ?_)
      · omega
      · by_cases hba : b < a
        · rw [if_pos hba]
          have g1 := h1 b (by omega)
          have g2 : f b ≠ N := fun q => by have := h2 b a (by omega) ha (q.trans e.symm); omega
          omega
        · rw [if_neg hba]
          have g1 := h1 (b + 1) (by omega)
          have g2 : f (b + 1) ≠ N := fun q => by have := h2 (b + 1) a (by omega) ha (q.trans e.symm); omega
          omega
      · by_cases hba : b < a
        · by_cases hda : d < a
          · rw [if_pos hba, if_pos hda] at he
            exact h2 b d (by omega) (by omega) he
          · rw [if_pos hba, if_neg hda] at he
            have := h2 b (d + 1) (by omega) (by omega) he
            omega
        · by_cases hda : d < a
          · rw [if_neg hba, if_pos hda] at he
            have := h2 (b + 1) d (by omega) (by omega) he
            omega
          · rw [if_neg hba, if_neg hda] at he
            have := h2 (b + 1) (d + 1) (by omega) (by omega) he
            omega
    · have := ih n f (fun a ha => ?_) h2
      · omega
      · have g1 := h1 a ha
        have g2 : f a ≠ N := fun q => hx ⟨a, ha, q⟩
        omega
/-- step by step -/
def itr (f : Int → Int) (c : Int) : Nat → Int
  | 0 => c
  | n + 1 => f (itr f c n)
/-- the first place of a value among the first n -/
def fnd (p : Nat → Int) (v : Int) : Nat → Option Nat
  | 0 => none
  | n + 1 => match fnd p v n with
    | some a => some a
    | none => if p n = v then some n else none
theorem fnd_none {p : Nat → Int} {v : Int} : ∀ {n : Nat}, fnd p v n = none → ∀ a, a < n → p a ≠ v := by
  intro n
  induction n with
  | zero => intro _ a ha; omega
  | succ n ih =>
    intro h a ha
    rw [fnd] at h
    cases e : fnd p v n with
    | some b => simp only [e] at h; cases h
    | none =>
      simp only [e] at h
      by_cases e2 : p n = v
      · rw [if_pos e2] at h; cases h
      · by_cases e3 : a = n
        · rw [e3]; exact e2
        · exact ih e a (by omega)
theorem fnd_some {p : Nat → Int} {v : Int} : ∀ {n a : Nat}, fnd p v n = some a → a < n ∧ p a = v ∧ ∀ b, b < a → p b ≠ v := by
  intro n
  induction n with
  | zero => intro a h; cases h
  | succ n ih =>
    intro a h
    rw [fnd] at h
    cases e : fnd p v n with
    | some b =>
      simp only [e] at h
      cases h
      have := ih e
      exact ⟨by omega, this.2⟩
    | none =>
      simp only [e] at h
      by_cases e2 : p n = v
      · rw [if_pos e2] at h
        cases h
        exact ⟨by omega, e2, fun b hb => fnd_none e b hb⟩
      · rw [if_neg e2] at h; cases h
/-- the last step's number, and where it closes -/
def wS (f : Int → Int) (c : Int) : Nat → Nat → Nat × Option Nat
  | 0, i => (i, none)
  | n + 1, i => if itr f c (i + 1) < 0 then (i, none) else match fnd (itr f c) (itr f c (i + 1)) (i + 1) with
    | some a => (i, some a)
    | none => wS f c n (i + 1)
def wayS (f : Int → Int) (c : Int) : Nat × Option Nat := wS f c 48 0
/-- lines crossed in the first n steps -/
def lcV (V : TV) (f : Int → Int) (c : Int) : Nat → Int
  | 0 => 0
  | n + 1 => lcV V f c n + lnV V (itr f c n) (itr f c (n + 1))
theorem ln_rng (V : TV) (a b : Int) : 0 ≤ lnV V a b ∧ lnV V a b ≤ 1 := by unfold lnV; split <;> omega
theorem lc_rng (V : TV) (f : Int → Int) (c : Int) : ∀ n : Nat, 0 ≤ lcV V f c n ∧ lcV V f c n ≤ (n : Int) := by
  intro n
  induction n with
  | zero => exact ⟨by show (0 : Int) ≤ 0; omega, by show (0 : Int) ≤ 0; omega⟩
  | succ n ih =>
    have := ln_rng V (itr f c n) (itr f c (n + 1))
    rw [lcV]
    omega
/-- what holds at step i -/
def wI (f : Int → Int) (c : Int) (i : Nat) : Prop := (∀ a, a ≤ i → 0 ≤ itr f c a ∧ itr f c a < 48) ∧ ∀ a b, a ≤ i → b ≤ i → itr f c a = itr f c b → a = b
theorem wI.lt {f : Int → Int} {c : Int} {i : Nat} (h : wI f c i) : i < 48 := by
  have := pigeon 48 (i + 1) (fun a => (itr f c a).toNat) (fun a ha => by have := h.1 a (by omega); omega) (fun a b ha hb he => by
    have h1 := h.1 a (by omega)
    have h2 := h.1 b (by omega)
    exact h.2 a b (by omega) (by omega) (by omega))
  omega
theorem wI.next {f : Int → Int} {c : Int} {i : Nat} (h : wI f c i) (h0 : 0 ≤ itr f c (i + 1)) (h1 : itr f c (i + 1) < 48) (hf : fnd (itr f c) (itr f c (i + 1)) (i + 1) = none) : wI f c (i + 1) := by
  have hn := fnd_none hf
  refine ⟨fun a ha => ?_, fun a b ha hb he => ?_⟩
  · by_cases e : a = i + 1
    · rw [e]; exact ⟨h0, h1⟩
    · exact h.1 a (by omega)
  · by_cases e : a = i + 1
    · by_cases e2 : b = i + 1
      · omega
      · rw [e] at he
        exact absurd he.symm (hn b (by omega))
    · by_cases e2 : b = i + 1
      · rw [e2] at he
        exact absurd he (hn a (by omega))
      · exact h.2 a b (by omega) (by omega) he
/-- a step leads to cells below N -/
def stepOK (f : Int → Int) (N : Int) : Prop := ∀ c, 0 ≤ c → c < N → -1 ≤ f c ∧ f c < N
theorem wS_fuel {f : Int → Int} {c N : Int} (hN : N ≤ 48) (hf : stepOK f N) : ∀ (n i : Nat), wI f c i → (∀ a, a ≤ i → itr f c a < N) → 48 ≤ n + i → ∀ m, n ≤ m → wS f c m i = wS f c n i := by
  intro n
  induction n with
  | zero => intro i h _ h2 m _; have := h.lt; omega
  | succ n ih =>
    intro i h hlt h2 m hm
    obtain ⟨m, rfl⟩ : ∃ k, m = k + 1 := ⟨m - 1, by omega⟩
    rw [wS, wS]
    by_cases h0 : itr f c (i + 1) < 0
    · rw [if_pos h0, if_pos h0]
    · rw [if_neg h0, if_neg h0]
      cases e : fnd (itr f c) (itr f c (i + 1)) (i + 1) with
      | some a => rfl
      | none =>
        simp only []
        have hs : itr f c (i + 1) < N := (hf _ (h.1 i (Nat.le_refl _)).1 (hlt i (Nat.le_refl _))).2
        refine ih (i + 1) (h.next (by omega) (by omega) e) (fun a ha => ?_) (by omega) m (by omega)
        by_cases ea : a = i + 1
        · rw [ea]; exact hs
        · exact hlt a (by omega)
/-- what is known of a way's end -/
theorem wS_spec {f : Int → Int} {c N : Int} (hN : N ≤ 48) (hf : stepOK f N) : ∀ (n i : Nat), wI f c i → (∀ a, a ≤ i → itr f c a < N) → 48 ≤ n + i → wI f c (wS f c n i).1 ∧ (∀ a, a ≤ (wS f c n i).1 → itr f c a < N) ∧ i ≤ (wS f c n i).1 ∧ (((wS f c n i).2 = none ∧ itr f c ((wS f c n i).1 + 1) < 0) ∨ ∃ a, (wS f c n i).2 = some a ∧ a ≤ (wS f c n i).1 ∧ itr f c ((wS f c n i).1 + 1) = itr f c a) := by
  intro n
  induction n with
  | zero => intro i h _ h2; have := h.lt; omega
  | succ n ih =>
    intro i h hlt h2
    rw [wS]
    by_cases h0 : itr f c (i + 1) < 0
    · rw [if_pos h0]
      exact ⟨h, hlt, Nat.le_refl _, Or.inl ⟨rfl, h0⟩⟩
    · rw [if_neg h0]
      cases e : fnd (itr f c) (itr f c (i + 1)) (i + 1) with
      | some a =>
        have := fnd_some e
        exact ⟨h, hlt, Nat.le_refl _, Or.inr ⟨a, rfl, show a ≤ i by omega, this.2.1.symm⟩⟩
      | none =>
        simp only []
        have hs : itr f c (i + 1) < N := (hf _ (h.1 i (Nat.le_refl _)).1 (hlt i (Nat.le_refl _))).2
        obtain ⟨g1, g2, g3, g4⟩ := ih (i + 1) (h.next (by omega) (by omega) e) (fun a ha => by
          by_cases ea : a = i + 1
          · rw [ea]; exact hs
          · exact hlt a (by omega)) (by omega)
        exact ⟨g1, g2, by omega, g4⟩
theorem wI0 {f : Int → Int} {c : Int} (h0 : 0 ≤ c) (h1 : c < 48) : wI f c 0 := ⟨fun a ha => by
  have : a = 0 := by omega
  subst this
  exact ⟨h0, h1⟩, fun a b ha hb _ => by omega⟩
theorem way_spec {f : Int → Int} {c N : Int} (hN : N ≤ 48) (hf : stepOK f N) (h0 : 0 ≤ c) (h1 : c < N) : wI f c (wayS f c).1 ∧ (∀ a, a ≤ (wayS f c).1 → itr f c a < N) ∧ (((wayS f c).2 = none ∧ itr f c ((wayS f c).1 + 1) < 0) ∨ ∃ a, (wayS f c).2 = some a ∧ a ≤ (wayS f c).1 ∧ itr f c ((wayS f c).1 + 1) = itr f c a) := by
  obtain ⟨g1, g2, g3, g4⟩ := wS_spec hN hf 48 0 (wI0 h0 (by omega)) (fun a ha => by
    have : a = 0 := by omega
    subst this
    exact h1) (by omega)
  exact ⟨g1, g2, g4⟩
end
section
/-! ===== pictures stay where nothing is written ===== -/
theorem CT0.fr {W : Nat → Int → Prop} {M N : Mem} {T : Nat} {V : TV} (hF : Fr W M N) (hd : ∀ (k : Nat) (j : Int), T ≤ k → k ≤ T + 8 → ¬ W k j) (h : CT0 M T V) : CT0 N T V := by
  have e1 : ∀ (i : Nat) (j : Int), i ≤ 8 → N.1 (T + i) j = M.1 (T + i) j := fun i j hi => (hF _ j (hd _ j (by omega) (by omega))).1
  have e2 : ∀ (j : Int), N.2 T j = M.2 T j := fun j => (hF _ j (hd _ j (by omega) (by omega))).2
  have e0 : ∀ (j : Int), N.1 T j = M.1 T j := fun j => (hF _ j (hd _ j (by omega) (by omega))).1
  obtain ⟨⟨a1, a2, a3, a4, a5, a6⟩, b, c, d⟩ := h
  refine ⟨⟨(e0 _).trans a1, (e0 _).trans a2, (e0 _).trans a3, (e0 _).trans a4, (e0 _).trans a5, (e0 _).trans a6⟩, fun w h0 h1 => ?_, fun t h0 h1 => ?_, fun q h0 h1 => ?_⟩
  · have := b w h0 h1
    exact ⟨(e1 1 _ (by omega)).trans this.1, (e1 2 _ (by omega)).trans this.2.1, (e1 3 _ (by omega)).trans this.2.2⟩
  · have := c t h0 h1
    exact ⟨(e1 5 _ (by omega)).trans this.1, (e1 6 _ (by omega)).trans this.2.1, (e1 7 _ (by omega)).trans this.2.2⟩
  · have := d q h0 h1
    exact ⟨(e1 8 _ (by omega)).trans this.1, by rw [e2]; exact this.2.1, by rw [e2]; exact this.2.2⟩
theorem CTs.fr {W : Nat → Int → Prop} {M N : Mem} {T : Nat} {V : TV} (hF : Fr W M N) (hd : ∀ (k : Nat) (j : Int), T ≤ k → k ≤ T + 9 → ¬ W k j) (h : CTs M T V) : CTs N T V :=
  ⟨(hF _ _ (hd _ _ (by omega) (by omega))).1.trans h.1, fun w h0 h1 => (hF _ _ (hd _ _ (by omega) (by omega))).1.trans (h.2.1 w h0 h1), fun c h0 h1 d d0 d1 => (hF _ _ (hd _ _ (by omega) (by omega))).1.trans (h.2.2 c h0 h1 d d0 d1)⟩
theorem MT0.fr {W : Nat → Int → Prop} {M N : Mem} {V : TV} (hF : Fr W M N) (hd : ∀ (k : Nat) (j : Int), 193 ≤ k → k ≤ 202 → ¬ W k j) (h : MT0 M V) : MT0 N V := by
  have e : ∀ (k : Nat) (j : Int), 193 ≤ k → k ≤ 202 → N.1 k j = M.1 k j := fun k j h0 h1 => (hF _ j (hd _ j h0 h1)).1
  obtain ⟨⟨a1, a2, a3, a4, a5, a6⟩, b, c, d⟩ := h
  refine ⟨⟨(e _ _ (by omega) (by omega)).trans a1, (e _ _ (by omega) (by omega)).trans a2, (e _ _ (by omega) (by omega)).trans a3, (e _ _ (by omega) (by omega)).trans a4, (e _ _ (by omega) (by omega)).trans a5, (e _ _ (by omega) (by omega)).trans a6⟩, fun w h0 h1 => ?_, fun t h0 h1 => ?_, fun q h0 h1 => ?_⟩
  · have := b w h0 h1
    exact ⟨(e _ _ (by omega) (by omega)).trans this.1, (e _ _ (by omega) (by omega)).trans this.2.1, (e _ _ (by omega) (by omega)).trans this.2.2⟩
  · have := c t h0 h1
    exact ⟨(e _ _ (by omega) (by omega)).trans this.1, (e _ _ (by omega) (by omega)).trans this.2.1, (e _ _ (by omega) (by omega)).trans this.2.2⟩
  · have := d q h0 h1
    exact ⟨(e _ _ (by omega) (by omega)).trans this.1, (e _ _ (by omega) (by omega)).trans this.2.1, (e _ _ (by omega) (by omega)).trans this.2.2⟩
theorem CSc.fr {W : Nat → Int → Prop} {M N : Mem} {k : Nat} {V : TV} {D A : Int → Int} {nets : Int64} {wl : Int → Bool} (hF : Fr W M N) (hd : ∀ (q : Nat) (j : Int), k ≤ q → q ≤ k + 2 → ¬ W q j) (h : CSc M k V D A nets wl) : CSc N k V D A nets wl :=
  ⟨fun w h0 h1 => (hF _ _ (hd _ _ (by omega) (by omega))).1.trans (h.1 w h0 h1), fun t h0 h1 => (hF _ _ (hd _ _ (by omega) (by omega))).1.trans (h.2.1 t h0 h1), (hF _ _ (hd _ _ (by omega) (by omega))).2.trans h.2.2.1, fun c h0 h1 => by rw [(hF k 4 (hd _ _ (by omega) (by omega))).2]; exact h.2.2.2 c h0 h1⟩
theorem MSc.fr {W : Nat → Int → Prop} {M N : Mem} {at_ : Int} {V : TV} {D A : Int → Int} {nets : Int64} (hF : Fr W M N) (hd : ∀ (q : Nat) (j : Int), (q = 210 ∨ q = 212 ∨ q = 213) → ¬ W q j) (h : MSc M at_ V D A nets) : MSc N at_ V D A nets :=
  ⟨fun w h0 h1 => (hF _ _ (hd _ _ (by omega))).1.trans (h.1 w h0 h1), fun t h0 h1 => (hF _ _ (hd _ _ (by omega))).1.trans (h.2.1 t h0 h1), (hF _ _ (hd _ _ (by omega))).2.trans h.2.2⟩
theorem put_in {M : Mem} {r N : Nat} {i x : Int} (h0 : 0 ≤ i) (h1 : i < (N : Int)) : t_WF_put M r N i x = setI M r i x := by
  unfold t_WF_put
  rw [if_neg (by omega), if_neg (by omega)]
theorem put_out {M : Mem} {r N : Nat} {i x : Int} (h : i < 0 ∨ (N : Int) ≤ i) : t_WF_put M r N i x = M := by
  unfold t_WF_put
  by_cases h0 : i < 0
  · rw [if_pos h0]
  · rw [if_neg h0, if_pos (by omega)]
/-- the first place of a value in a row -/
theorem indexOf_loop {M : Mem} {r N : Nat} {p : Nat → Int} {v : Int} {len : Nat} (hN : len ≤ N) (hb : N ≤ 100000) (hp : ∀ a, a < len → M.1 r (a : Int) = p a) : ∀ (n a fu : Nat), n + a = len → n < fu → (∀ b, b < a → p b ≠ v) → t_WF_indexOf_L2 r N (len : Int) v fu M (a : Int) = some (match fnd p v len with | some b => (b : Int) | none => -1) := by
  intro n
  induction n with
  | zero =>
    intro a fu h1 h2 h3
    obtain ⟨f, rfl⟩ : ∃ f, fu = f + 1 := ⟨fu - 1, by omega⟩
    have ha : a = len := by omega
    subst ha
    rw [t_WF_indexOf_L2, if_pos (by omega)]
    cases e : fnd p v a with
    | none => rfl
    | some b => have := fnd_some e; exact absurd this.2.1 (h3 b this.1)
  | succ n ih =>
    intro a fu h1 h2 h3
    obtain ⟨f, rfl⟩ : ∃ f, fu = f + 1 := ⟨fu - 1, by omega⟩
    rw [t_WF_indexOf_L2, if_neg (by omega), if_neg (by omega), qguard_pos ⟨by omega, by omega⟩, hp a (by omega)]
    by_cases e : p a = v
    · rw [if_pos e]
      cases e2 : fnd p v len with
      | none => exact absurd e (fnd_none e2 a (by omega))
      | some b =>
        have := fnd_some e2
        have hba : b = a := by
          by_cases q : b < a
          · exact absurd this.2.1 (h3 b q)
          · by_cases q2 : a < b
            · exact absurd e (this.2.2 a q2)
            · omega
        rw [hba]
    · rw [if_neg e, w32_id (x := (a : Int) + 1) (by unfold InR; omega)]
      have := ih (a + 1) f (by omega) (by omega) (fun b hb => by
        by_cases q : b = a
        · rw [q]; exact e
        · exact h3 b (by omega))
      exact this
theorem indexOf_eq {M : Mem} {r N : Nat} {p : Nat → Int} {v : Int} {len : Nat} (hN : len ≤ N) (hb : N ≤ 100000) (hp : ∀ a, a < len → M.1 r (a : Int) = p a) : t_WF_indexOf M r N (len : Int) v = some (match fnd p v len with | some b => (b : Int) | none => -1) := by
  unfold t_WF_indexOf
  exact indexOf_loop hN hb hp len 0 FU (by omega) (fu_big (by omega)) (fun b hb => by omega)
/-! the class's trail -/
def wAhead (r : Nat × Option Nat) : Int := match r.2 with | none => (r.1 : Int) | some a => (a : Int)
def wRound (r : Nat × Option Nat) : Int := match r.2 with | none => 0 | some a => (r.1 : Int) + 1 - a
def wLines (V : TV) (f : Int → Int) (c : Int) (r : Nat × Option Nat) : Int := match r.2 with | none => lcV V f c r.1 | some _ => lcV V f c (r.1 + 1)
def FolR (N : Mem) (k : Nat) (V : TV) (f : Int → Int) (c : Int) (r : Nat × Option Nat) : Prop := N.1 k 1 = (r.1 : Int) + 1 ∧ N.1 k 2 = wAhead r ∧ N.1 k 3 = wRound r ∧ N.1 k 4 = wLines V f c r ∧ ∀ a : Nat, a ≤ r.1 → N.1 (k + 1) (a : Int) = itr f c a
theorem c_follow_loop {M0 : Mem} {T k k2 : Nat} {V : TV} {D A : Int → Int} {nets : Int64} {wl : Int → Bool} {x3 c : Int} (hT : T = 2 ∨ T = 22) (hk : k = 182 ∨ k = 189) (hk2 : 42 ≤ k2 ∧ k2 ≤ 167) (hV : VOK V) (h0 : CT0 M0 T V) (hs : CTs M0 T V) (hc : CSc M0 k2 V D A nets wl) :
    ∀ (n i fu : Nat) (M : Mem) (v3 : Int64), n + i = 48 → n < fu → Fr (W_Trail_follow k) M0 M → wI (nxV V D nets wl) c i → (∀ a, a ≤ i → itr (nxV V D nets wl) c a < cellsV V) → (∀ a : Nat, a < i → M.1 (k + 1) (a : Int) = itr (nxV V D nets wl) c a) → M.1 k 3 = 0 → M.1 k 4 = lcV V (nxV V D nets wl) c i → (∀ x, 0 ≤ x → x < 48 → (tb v3 x = true ↔ ∃ a, a < i ∧ itr (nxV V D nets wl) c a = x)) →
      ∃ N, t_Trail_follow_L24 k T k2 x3 fu M v3 (itr (nxV V D nets wl) c i) (i : Int) = some N ∧ Fr (W_Trail_follow k) M0 N ∧ FolR N k V (nxV V D nets wl) c (wS (nxV V D nets wl) c n i) := by
  have hC := hV.cells
  generalize hf : nxV V D nets wl = f at *
  intro n
  induction n with
  | zero => intro i fu M v3 h1 _ _ hw; have := hw.lt; omega
  | succ n ih =>
    intro i fu M v3 h1 h2 hF hw hlt hp h3 h4 hb
    obtain ⟨g, rfl⟩ : ∃ g, fu = g + 1 := ⟨fu - 1, by omega⟩
    have hi := hw.lt
    have hr := hw.1 i (Nat.le_refl _)
    have hl := hlt i (Nat.le_refl _)
    rw [t_Trail_follow_L24, if_neg (by omega), put_in (by omega) (by omega)]
    simp only [qlet]
    rw [w32_id (x := (i : Int) + 1) (by unfold InR; omega)]
    generalize hM8 : setI (setI (setI M (k + 1) (i : Int) (itr f c i)) k 1 ((i : Int) + 1)) k 2 (i : Int) = M8
    have hF8 : Fr (W_Trail_follow k) M0 M8 := by
      rw [← hM8]
      exact ((hF.setI (by unfold W_Trail_follow; omega)).setI (by unfold W_Trail_follow; omega)).setI (by unfold W_Trail_follow; omega)
    have c0 : CT0 M8 T V := h0.fr hF8 (fun q j g1 g2 => by unfold W_Trail_follow; omega)
    have cs : CTs M8 T V := hs.fr hF8 (fun q j g1 g2 => by unfold W_Trail_follow; omega)
    have cc : CSc M8 k2 V D A nets wl := hc.fr hF8 (fun q j g1 g2 => by unfold W_Trail_follow; omega)
    have r1 : M8.1 k 1 = (i : Int) + 1 := by rw [← hM8, sI_ne (by omega), sI_self]
    have r2 : M8.1 k 2 = (i : Int) := by rw [← hM8, sI_self]
    have r3 : M8.1 k 3 = 0 := by rw [← hM8, sI_ne (by omega), sI_ne (by omega), sI_ne (by omega), h3]
    have r4 : M8.1 k 4 = lcV V f c i := by rw [← hM8, sI_ne (by omega), sI_ne (by omega), sI_ne (by omega), h4]
    have rp : ∀ a : Nat, a < i + 1 → M8.1 (k + 1) (a : Int) = itr f c a := by
      intro a ha
      rw [← hM8, sI_ne (by omega), sI_ne (by omega)]
      by_cases e : a = i
      · rw [e, sI_self]
      · rw [sI_ne (by omega)]; exact hp a (by omega)
    rw [c_next c0 cs hV cc hr.1 hl, hf]
    have hst : itr f c (i + 1) = f (itr f c i) := rfl
    rw [← hst]
    have hn := nx_rng hV D nets wl hr.1 hl
    rw [hf, ← hst] at hn
    rw [wS]
    by_cases e0 : itr f c (i + 1) < 0
    · rw [if_neg (by omega), if_pos e0]
      exact ⟨M8, rfl, hF8, r1, r2, r3, r4, fun a ha => rp a (by omega)⟩
    · rw [if_pos (by omega), if_neg e0, c_line c0 hr.1 (by omega) (by omega) (by omega)]
      have lnr := ln_rng V (itr f c i) (itr f c (i + 1))
      -- whichever: the same memory but for the lines
      have go : ∀ M9 : Mem, Fr (W_Trail_follow k) M0 M9 → M9.1 k 1 = (i : Int) + 1 → M9.1 k 3 = 0 → M9.1 k 4 = lcV V f c (i + 1) → (∀ a : Nat, a < i + 1 → M9.1 (k + 1) (a : Int) = itr f c a) → ∃ N, t_Trail_follow_L101 k T k2 x3 (fun a0_ a1_ a2_ a3_ => t_Trail_follow_L24 k T k2 x3 g a0_ a1_ a2_ a3_) M9 (v3 ||| q_lshl 1 (itr f c i)) (i : Int) (itr f c (i + 1)) = some N ∧ Fr (W_Trail_follow k) M0 N ∧ FolR N k V f c (match fnd (itr f c) (itr f c (i + 1)) (i + 1) with | some a => (i, some a) | none => wS f c n (i + 1)) := by
        intro M9 hF9 q1 q3 q4 qp
        unfold t_Trail_follow_L101
        simp only [qlet]
        rw [bitOf_tb M9 _ (by omega) (by omega)]
        have hb2 : ∀ x, 0 ≤ x → x < 48 → (tb (v3 ||| q_lshl 1 (itr f c i)) x = true ↔ ∃ a, a < i + 1 ∧ itr f c a = x) := by
          intro x x0 x1
          rw [tb_or v3 hr.1 (by omega) x0 (by omega)]
          simp only [Bool.or_eq_true, decide_eq_true_eq]
          rw [hb x x0 x1]
          constructor
          · rintro (⟨a, ha, e⟩ | e)
            · exact ⟨a, by omega, e⟩
            · exact ⟨i, by omega, e.symm⟩
          · rintro ⟨a, ha, e⟩
            by_cases ei : a = i
            · right; rw [← e, ei]
            · left; exact ⟨a, by omega, e⟩
        cases ef : fnd (itr f c) (itr f c (i + 1)) (i + 1) with
        | some a =>
          have hfs := fnd_some ef
          rw [(hb2 _ (by omega) (by omega)).mpr ⟨a, hfs.1, hfs.2.1⟩, if_pos (by simp), q1]
          have hi2 : ((i : Int) + 1) = ((i + 1 : Nat) : Int) := by omega
          rw [hi2, indexOf_eq (p := itr f c) (by omega) (by decide) qp, ef, obind_some]
          refine ⟨_, rfl, (hF9.setI (by unfold W_Trail_follow; omega)).setI (by unfold W_Trail_follow; omega), ?_, ?_, ?_, ?_, ?_⟩
          · rw [sI_ne (by omega), sI_ne (by omega), q1]
          · rw [sI_ne (by omega), sI_self]; rfl
          · rw [sI_self]
            show w32 (uI M9.1 k 2 (a : Int) k 1 - uI M9.1 k 2 (a : Int) k 2) = _
            rw [uI_ne _ _ (by omega), uI_self, q1, w32_id (by unfold InR; omega)]
            rfl
          · rw [sI_ne (by omega), sI_ne (by omega), q4]; rfl
          · intro b hb3
            have hb4 : b ≤ i := hb3
            rw [sI_ne (by omega), sI_ne (by omega)]
            exact qp b (by omega)
        | none =>
          have hfn := fnd_none ef
          have : tb (v3 ||| q_lshl 1 (itr f c i)) (itr f c (i + 1)) = false := by
            cases e : tb (v3 ||| q_lshl 1 (itr f c i)) (itr f c (i + 1)) with
            | false => rfl
            | true =>
              obtain ⟨a, ha, e2⟩ := (hb2 _ (by omega) (by omega)).mp e
              exact absurd e2 (hfn a ha)
          rw [this, if_neg (by simp), w32_id (x := (i : Int) + 1) (by unfold InR; omega)]
          have hi2 : ((i : Int) + 1) = ((i + 1 : Nat) : Int) := by omega
          rw [hi2]
          exact ih (i + 1) g M9 _ (by omega) (by omega) hF9 (hw.next (by omega) (by omega) ef) (fun a ha => by
            by_cases ea : a = i + 1
            · rw [ea]; omega
            · exact hlt a (by omega)) qp q3 q4 hb2
      by_cases el : lnV V (itr f c i) (itr f c (i + 1)) = 0
      · rw [if_pos el]
        exact go M8 hF8 r1 r3 (by rw [r4, lcV, el]; omega) rp
      · have r4u : uI (uI (uI M.1 (k + 1) (i : Int) (itr f c i)) k 1 ((i : Int) + 1)) k 2 (i : Int) k 4 = lcV V f c i := by rw [uI_ne _ _ (by omega), uI_ne _ _ (by omega), uI_ne _ _ (by omega), h4]
        rw [if_neg el, r4u]
        have hlc := lc_rng V f c i
        rw [w32_id (by unfold InR; omega)]
        refine go _ (hF8.setI (by unfold W_Trail_follow; omega)) ?_ ?_ ?_ (fun a ha => ?_)
        · rw [sI_ne (by omega), r1]
        · rw [sI_ne (by omega), r3]
        · rw [sI_self, lcV]; omega
        · rw [sI_ne (by omega)]; exact rp a ha
theorem c_follow {M : Mem} {T k k2 : Nat} {V : TV} {D A : Int → Int} {nets : Int64} {wl : Int → Bool} {c : Int} (hT : T = 2 ∨ T = 22) (hk : k = 182 ∨ k = 189) (hk2 : 42 ≤ k2 ∧ k2 ≤ 167) (hV : VOK V) (h0 : CT0 M T V) (hs : CTs M T V) (hc : CSc M k2 V D A nets wl) (c0 : 0 ≤ c) (c1 : c < cellsV V) :
    ∃ N, t_Trail_follow M k T k2 c = some N ∧ Fr (W_Trail_follow k) M N ∧ FolR N k V (nxV V D nets wl) c (wayS (nxV V D nets wl) c) := by
  have hC := hV.cells
  unfold t_Trail_follow
  simp only [qlet]
  have hF : Fr (W_Trail_follow k) M (setI (setI (setI M k 1 0) k 3 0) k 4 0) := ((Fr.rf.setI (by unfold W_Trail_follow; omega)).setI (by unfold W_Trail_follow; omega)).setI (by unfold W_Trail_follow; omega)
  exact c_follow_loop hT hk hk2 hV h0 hs hc 48 0 FU _ 0 (by omega) (fu_big (by omega)) hF (wI0 c0 (by omega)) (fun a ha => by
    have : a = 0 := by omega
    subst this
    exact c1) (fun a ha => by omega) (by rw [sI_ne (by omega), sI_self]) (by rw [sI_self]; rfl) (fun x x0 x1 => by
      rw [tb_zero]
      constructor
      · intro h; cases h
      · rintro ⟨a, ha, -⟩; omega)
end
section
/-! ===== the reference's ways ===== -/
/-- the ward (by one more) into which the first line of the first n steps leads -/
def foV (V : TV) (f : Int → Int) (c : Int) : Nat → Int
  | 0 => -1
  | n + 1 => if lcV V f c n = 0 then (if lnV V (itr f c n) (itr f c (n + 1)) = 0 then foV V f c n else V 7 (itr f c (n + 1)) + 1) else foV V f c n
def wEnd (f : Int → Int) (c : Int) (r : Nat × Option Nat) : Int := match r.2 with | none => itr f c r.1 | some a => itr f c a
def wFirst (V : TV) (f : Int → Int) (c : Int) (r : Nat × Option Nat) : Int := match r.2 with | none => foV V f c r.1 | some _ => foV V f c (r.1 + 1)
def GoR (N : Mem) (V : TV) (f : Int → Int) (c : Int) (r : Nat × Option Nat) : Prop := N.1 191 46 = wAhead r ∧ N.1 191 48 = wRound r ∧ N.1 191 47 = wEnd f c r ∧ N.1 191 49 = wLines V f c r ∧ N.1 191 50 = wFirst V f c r
theorem m_goes_loop {M0 : Mem} {at_ : Int} {V : TV} {D A : Int → Int} {nets : Int64} {x2 c : Int} (hV : VOK V) (h0 : MT0 M0 V) (hm : MSc M0 at_ V D A nets) (hD : ∀ w, 0 ≤ w → w < V 0 2 → 0 ≤ D w ∧ D w ≤ 4) (ht : M0.1 191 44 = -1) (ha : 0 ≤ at_ ∧ at_ < 23) :
    ∀ (n i fu : Nat) (M : Mem), n + i = 48 → n < fu → Fr W_MO_goesFrom M0 M → wI (nxV V D nets (wlV V)) c i → (∀ a, a ≤ i → itr (nxV V D nets (wlV V)) c a < cellsV V) → (∀ a : Nat, a < i → M.1 219 (itr (nxV V D nets (wlV V)) c a) = (a : Int)) → (∀ x, 0 ≤ x → x < 48 → (∀ a : Nat, a < i → itr (nxV V D nets (wlV V)) c a ≠ x) → M.1 219 x = -1) → M.1 191 48 = 0 → M.1 191 49 = lcV V (nxV V D nets (wlV V)) c i → M.1 191 50 = foV V (nxV V D nets (wlV V)) c i →
      ∃ N, t_MO_goesFrom_L41 at_ x2 fu M (itr (nxV V D nets (wlV V)) c i) (i : Int) = some N ∧ Fr W_MO_goesFrom M0 N ∧ GoR N V (nxV V D nets (wlV V)) c (wS (nxV V D nets (wlV V)) c n i) := by
  have hC := hV.cells
  generalize hf : nxV V D nets (wlV V) = f at *
  intro n
  induction n with
  | zero => intro i fu M h1 _ _ hw; have := hw.lt; omega
  | succ n ih =>
    intro i fu M h1 h2 hF hw hlt hp hq h3 h4 h5
    obtain ⟨g, rfl⟩ : ∃ g, fu = g + 1 := ⟨fu - 1, by omega⟩
    have hi := hw.lt
    have hr := hw.1 i (Nat.le_refl _)
    have hl := hlt i (Nat.le_refl _)
    rw [t_MO_goesFrom_L41, qguard_pos ⟨hr.1, hr.2⟩]
    simp only [qlet]
    generalize hM8 : setI M 219 (itr f c i) (i : Int) = M8
    have hF8 : Fr W_MO_goesFrom M0 M8 := by rw [← hM8]; exact hF.setI (by unfold W_MO_goesFrom; omega)
    have c0 : MT0 M8 V := h0.fr hF8 (fun q j g1 g2 => by unfold W_MO_goesFrom; omega)
    have cc : MSc M8 at_ V D A nets := hm.fr hF8 (fun q j g1 => by unfold W_MO_goesFrom; omega)
    have ct : M8.1 191 44 = -1 := (hF8 191 44 (by unfold W_MO_goesFrom; omega)).1.trans ht
    have r48 : M8.1 191 48 = 0 := by rw [← hM8, sI_ne (by omega)]; exact h3
    have r49 : M8.1 191 49 = lcV V f c i := by rw [← hM8, sI_ne (by omega)]; exact h4
    have r50 : M8.1 191 50 = foV V f c i := by rw [← hM8, sI_ne (by omega)]; exact h5
    have rp : ∀ a : Nat, a < i + 1 → M8.1 219 (itr f c a) = (a : Int) := by
      intro a ha
      rw [← hM8]
      by_cases e : a = i
      · rw [e, sI_self]
      · rw [sI_ne (fun q => e (hw.2 a i (by omega) (Nat.le_refl _) q.2))]; exact hp a (by omega)
    have rq : ∀ x, 0 ≤ x → x < 48 → (∀ a : Nat, a < i + 1 → itr f c a ≠ x) → M8.1 219 x = -1 := by
      intro x x0 x1 hx
      rw [← hM8, sI_ne (fun q => hx i (by omega) q.2.symm)]
      exact hq x x0 x1 (fun a ha => hx a (by omega))
    have hst : itr f c (i + 1) = f (itr f c i) := rfl
    have hn := nx_rng hV D nets (wlV V) hr.1 hl
    rw [hf, ← hst] at hn
    rw [m_next c0 hV cc hD ct ha hr.1 hl, hf, obind_some, ← hst, wS]
    by_cases e0 : itr f c (i + 1) < 0
    · rw [if_pos (by omega), if_pos e0]
      refine ⟨_, rfl, (hF8.setI (by unfold W_MO_goesFrom; omega)).setI (by unfold W_MO_goesFrom; omega), ?_, ?_, ?_, ?_, ?_⟩
      · rw [sI_ne (by omega), sI_self]; rfl
      · rw [sI_ne (by omega), sI_ne (by omega), r48]; rfl
      · rw [sI_self]; rfl
      · rw [sI_ne (by omega), sI_ne (by omega), r49]; rfl
      · rw [sI_ne (by omega), sI_ne (by omega), r50]; rfl
    · rw [if_neg (by omega), if_neg e0, m_line c0 hr.1 (by omega) (by omega) (by omega), obind_some]
      have lnr := ln_rng V (itr f c i) (itr f c (i + 1))
      have go : ∀ M9 : Mem, Fr W_MO_goesFrom M0 M9 → M9.1 191 48 = 0 → M9.1 191 49 = lcV V f c (i + 1) → M9.1 191 50 = foV V f c (i + 1) → (∀ a : Nat, a < i + 1 → M9.1 219 (itr f c a) = (a : Int)) → (∀ x, 0 ≤ x → x < 48 → (∀ a : Nat, a < i + 1 → itr f c a ≠ x) → M9.1 219 x = -1) → ∃ N, t_MO_goesFrom_L113 at_ x2 (fun a0_ a1_ a2_ => t_MO_goesFrom_L41 at_ x2 g a0_ a1_ a2_) M9 (i : Int) (itr f c (i + 1)) = some N ∧ Fr W_MO_goesFrom M0 N ∧ GoR N V f c (match fnd (itr f c) (itr f c (i + 1)) (i + 1) with | some a => (i, some a) | none => wS f c n (i + 1)) := by
        intro M9 hF9 q48 q49 q50 qp qq
        unfold t_MO_goesFrom_L113
        rw [qguard_pos ⟨by omega, by omega⟩]
        cases ef : fnd (itr f c) (itr f c (i + 1)) (i + 1) with
        | some a =>
          have hfs := fnd_some ef
          have hsa : M9.1 219 (itr f c (i + 1)) = (a : Int) := by rw [← hfs.2.1]; exact qp a hfs.1
          rw [hsa, if_neg (by omega), qguard_pos ⟨by omega, by omega⟩]
          simp only [qlet]
          rw [qguard_pos ⟨by omega, by omega⟩]
          have u : uI M9.1 191 46 (a : Int) 219 (itr f c (i + 1)) = (a : Int) := by rw [uI_ne _ _ (by omega)]; exact hsa
          rw [u, w32_id (x := (i : Int) + 1) (by unfold InR; omega), w32_id (x := (i : Int) + 1 - (a : Int)) (by unfold InR; omega)]
          refine ⟨_, rfl, ((hF9.setI (by unfold W_MO_goesFrom; omega)).setI (by unfold W_MO_goesFrom; omega)).setI (by unfold W_MO_goesFrom; omega), ?_, ?_, ?_, ?_, ?_⟩
          · rw [sI_ne (by omega), sI_ne (by omega), sI_self]; rfl
          · rw [sI_ne (by omega), sI_self]; rfl
          · rw [sI_self]; exact hfs.2.1.symm
          · rw [sI_ne (by omega), sI_ne (by omega), sI_ne (by omega), q49]; rfl
          · rw [sI_ne (by omega), sI_ne (by omega), sI_ne (by omega), q50]; rfl
        | none =>
          have hfn := fnd_none ef
          rw [qq _ (by omega) (by omega) (fun a ha => hfn a ha), if_pos rfl, w32_id (x := (i : Int) + 1) (by unfold InR; omega)]
          have hi2 : ((i : Int) + 1) = ((i + 1 : Nat) : Int) := by omega
          rw [hi2]
          exact ih (i + 1) g M9 (by omega) (by omega) hF9 (hw.next (by omega) (by omega) ef) (fun a ha => by
            by_cases ea : a = i + 1
            · rw [ea]; omega
            · exact hlt a (by omega)) qp qq q48 q49 q50
      have hlc := lc_rng V f c i
      by_cases el : lnV V (itr f c i) (itr f c (i + 1)) = 0
      · rw [if_pos el]
        refine go M8 hF8 r48 (by rw [r49, lcV, el]; omega) ?_ rp rq
        rw [r50, foV]
        by_cases e2 : lcV V f c i = 0
        · rw [if_pos e2, if_pos el]
        · rw [if_neg e2]
      · have up : ∀ M9 : Mem, Fr W_MO_goesFrom M0 M9 → M9.1 191 48 = 0 → M9.1 191 49 = lcV V f c i → M9.1 191 50 = foV V f c (i + 1) → (∀ a : Nat, a < i + 1 → M9.1 219 (itr f c a) = (a : Int)) → (∀ x, 0 ≤ x → x < 48 → (∀ a : Nat, a < i + 1 → itr f c a ≠ x) → M9.1 219 x = -1) → ∃ N, t_MO_goesFrom_L103 at_ x2 (fun a0_ a1_ a2_ => t_MO_goesFrom_L41 at_ x2 g a0_ a1_ a2_) M9 (i : Int) (itr f c (i + 1)) = some N ∧ Fr W_MO_goesFrom M0 N ∧ GoR N V f c (match fnd (itr f c) (itr f c (i + 1)) (i + 1) with | some a => (i, some a) | none => wS f c n (i + 1)) := by
          intro M9 hF9 q48 q49 q50 qp qq
          unfold t_MO_goesFrom_L103
          simp only [qlet]
          rw [q49, w32_id (by unfold InR; omega)]
          refine go _ (hF9.setI (by unfold W_MO_goesFrom; omega)) ?_ ?_ ?_ (fun a h9 => ?_) (fun x x0 x1 hx => ?_)
          · rw [sI_ne (by omega)]; exact q48
          · rw [sI_self, lcV]; omega
          · rw [sI_ne (by omega)]; exact q50
          · rw [sI_ne (by omega)]; exact qp a h9
          · rw [sI_ne (by omega)]; exact qq x x0 x1 hx
        have r49u : uI M.1 219 (itr f c i) (i : Int) 191 49 = lcV V f c i := by rw [uI_ne _ _ (by omega)]; exact h4
        rw [if_neg el, r49u]
        by_cases e2 : lcV V f c i = 0
        · rw [if_pos e2, qguard_pos ⟨by omega, by omega⟩]
          have o : uI M.1 219 (itr f c i) (i : Int) 197 (itr f c (i + 1)) = V 7 (itr f c (i + 1)) + 1 := by
            rw [uI_ne _ _ (by omega)]
            have o := (c0.2.2.2 (itr f c (i + 1)) (by omega) (by omega)).1
            rw [← hM8, sI_ne (by omega)] at o; exact o
          rw [o]
          refine up _ (hF8.setI (by unfold W_MO_goesFrom; omega)) ?_ ?_ ?_ (fun a h9 => ?_) (fun x x0 x1 hx => ?_)
          · rw [sI_ne (by omega)]; exact r48
          · rw [sI_ne (by omega)]; exact r49
          · rw [sI_self, foV, if_pos e2, if_neg el]
          · rw [sI_ne (by omega)]; exact rp a h9
          · rw [sI_ne (by omega)]; exact rq x x0 x1 hx
        · rw [if_neg e2]
          exact up M8 hF8 r48 r49 (by rw [r50, foV, if_neg e2]) rp rq
theorem m_goes_clear {M0 : Mem} {at_ x2 : Int} : ∀ (n fu : Nat) (M : Mem) (v : Int), 0 ≤ v → v + (n : Int) = 48 → n < fu → Fr W_MO_goesFrom M0 M → (∀ x, 0 ≤ x → x < v → M.1 219 x = -1) → ∃ N, t_MO_goesFrom_L2 at_ x2 fu M v = t_MO_goesFrom_L41 at_ x2 FU N x2 0 ∧ Fr W_MO_goesFrom M0 N ∧ (∀ x, 0 ≤ x → x < 48 → N.1 219 x = -1) ∧ N.1 191 48 = 0 ∧ N.1 191 49 = 0 ∧ N.1 191 50 = -1 := by
  intro n
  induction n with
  | zero =>
    intro fu M v h0 h1 h2 hF hx
    obtain ⟨g, rfl⟩ : ∃ g, fu = g + 1 := ⟨fu - 1, by omega⟩
    rw [t_MO_goesFrom_L2, if_pos (by omega)]
    simp only [qlet]
    refine ⟨_, rfl, ((hF.setI (by unfold W_MO_goesFrom; omega)).setI (by unfold W_MO_goesFrom; omega)).setI (by unfold W_MO_goesFrom; omega), fun x x0 x1 => ?_, ?_, ?_, ?_⟩
    · rw [sI_ne (by omega), sI_ne (by omega), sI_ne (by omega)]; exact hx x x0 (by omega)
    · rw [sI_self]
    · rw [sI_ne (by omega), sI_ne (by omega), sI_self]
    · rw [sI_ne (by omega), sI_self]
  | succ n ih =>
    intro fu M v h0 h1 h2 hF hx
    obtain ⟨g, rfl⟩ : ∃ g, fu = g + 1 := ⟨fu - 1, by omega⟩
    rw [t_MO_goesFrom_L2, if_neg (by omega), qguard_pos ⟨h0, by omega⟩]
    simp only [qlet]
    rw [w32_id (x := v + 1) (by unfold InR; omega)]
    refine ih g _ (v + 1) (by omega) (by omega) (by omega) (hF.setI (by unfold W_MO_goesFrom; omega)) (fun x x0 x1 => ?_)
    by_cases e : x = v
    · rw [e, sI_self]
    · rw [sI_ne (by omega)]; exact hx x x0 (by omega)
theorem m_goes {M : Mem} {at_ : Int} {V : TV} {D A : Int → Int} {nets : Int64} {c : Int} (hV : VOK V) (h0 : MT0 M V) (hm : MSc M at_ V D A nets) (hD : ∀ w, 0 ≤ w → w < V 0 2 → 0 ≤ D w ∧ D w ≤ 4) (ht : M.1 191 44 = -1) (ha : 0 ≤ at_ ∧ at_ < 23) (c0 : 0 ≤ c) (c1 : c < cellsV V) :
    ∃ N, t_MO_goesFrom M at_ c = some N ∧ Fr W_MO_goesFrom M N ∧ GoR N V (nxV V D nets (wlV V)) c (wayS (nxV V D nets (wlV V)) c) := by
  have hC := hV.cells
  unfold t_MO_goesFrom
  obtain ⟨N, a1, a2, a3, a4, a5, a6⟩ := m_goes_clear (M0 := M) (at_ := at_) (x2 := c) 48 FU M 0 (by decide) (by decide) (fu_big (by omega)) Fr.rf (fun x x0 x1 => by omega)
  rw [a1]
  exact m_goes_loop hV h0 hm hD ht ha 48 0 FU N (by omega) (fu_big (by omega)) a2 (wI0 c0 (by omega)) (fun a h => by
    have : a = 0 := by omega
    subst this
    exact c1) (fun a h => by omega) (fun x x0 x1 _ => a3 x x0 x1) a4 (by rw [a5]; rfl) (by rw [a6]; rfl)
end
section
/-! ===== the reference's rows of scenes: copies ===== -/
theorem sL_fst (M : Mem) (k : Nat) (j : Int) (v : Int64) : (setL M k j v).1 = M.1 := rfl
theorem sI_snd (M : Mem) (k : Nat) (j v : Int) : (setI M k j v).2 = M.2 := rfl
def CW (to : Int) : Nat → Int → Prop := fun k j => ((k = 207 ∨ k = 208 ∨ k = 209 ∨ k = 210 ∨ k = 211) ∧ j = to) ∨ (k = 212 ∧ 4 * to ≤ j ∧ j < 4 * to + 4) ∨ ((k = 213 ∨ k = 214 ∨ k = 215) ∧ 8 * to ≤ j ∧ j < 8 * to + 8)
/-- row `a` of N is as row `b` of M -/
def RowEq (N : Mem) (a : Int) (M : Mem) (b : Int) : Prop := (N.1 207 a = M.1 207 b ∧ N.1 208 a = M.1 208 b ∧ N.1 209 a = M.1 209 b ∧ N.2 210 a = M.2 210 b ∧ N.2 211 a = M.2 211 b) ∧ (∀ w, 0 ≤ w → w < 4 → N.1 212 (4 * a + w) = M.1 212 (4 * b + w)) ∧ ∀ t, 0 ≤ t → t < 8 → N.1 213 (8 * a + t) = M.1 213 (8 * b + t) ∧ N.1 214 (8 * a + t) = M.1 214 (8 * b + t) ∧ N.1 215 (8 * a + t) = M.1 215 (8 * b + t)
theorem RowEq.rf {M : Mem} {a : Int} : RowEq M a M a := ⟨⟨rfl, rfl, rfl, rfl, rfl⟩, fun _ _ _ => rfl, fun _ _ _ => ⟨rfl, rfl, rfl⟩⟩
theorem RowEq.trans {M N O : Mem} {a b c : Int} (h : RowEq M a N b) (g : RowEq N b O c) : RowEq M a O c := by
  obtain ⟨⟨h1, h2, h3, h4, h5⟩, h6, h7⟩ := h
  obtain ⟨⟨g1, g2, g3, g4, g5⟩, g6, g7⟩ := g
  exact ⟨⟨h1.trans g1, h2.trans g2, h3.trans g3, h4.trans g4, h5.trans g5⟩, fun w a b => (h6 w a b).trans (g6 w a b), fun t a b => ⟨(h7 t a b).1.trans (g7 t a b).1, (h7 t a b).2.1.trans (g7 t a b).2.1, (h7 t a b).2.2.trans (g7 t a b).2.2⟩⟩
theorem RowEq.fr {W : Nat → Int → Prop} {M N : Mem} {a : Int} (hF : Fr W M N) (h : ∀ k j, CW a k j → ¬ W k j) : RowEq N a M a := by
  refine ⟨⟨(hF _ _ (h _ _ ?_)).1, (hF _ _ (h _ _ ?_)).1, (hF _ _ (h _ _ ?_)).1, (hF _ _ (h _ _ ?_)).2, (hF _ _ (h _ _ ?_)).2⟩, fun w a b => (hF _ _ (h _ _ ?_)).1, fun t a b => ⟨(hF _ _ (h _ _ ?_)).1, (hF _ _ (h _ _ ?_)).1, (hF _ _ (h _ _ ?_)).1⟩⟩ <;> unfold CW <;> omega
theorem m_copies_L95 {M0 : Mem} {x1 x2 : Int} (h1 : 0 ≤ x1 ∧ x1 < 23) (h2 : 0 ≤ x2 ∧ x2 < 23) (hne : x1 ≠ x2) : ∀ (n fu : Nat) (M : Mem) (v : Int), v + (n : Int) = 8 → 0 ≤ v → n < fu → Fr (CW x1) M0 M → (∀ t, 0 ≤ t → t < v → M.1 213 (8 * x1 + t) = M0.1 213 (8 * x2 + t) ∧ M.1 214 (8 * x1 + t) = M0.1 214 (8 * x2 + t) ∧ M.1 215 (8 * x1 + t) = M0.1 215 (8 * x2 + t)) →
    ∃ N, t_MO_copies_L95 x1 x2 fu M v = some N ∧ Fr (CW x1) M0 N ∧ (∀ k j, k ≠ 213 → k ≠ 214 → k ≠ 215 → N.1 k j = M.1 k j ∧ N.2 k j = M.2 k j) ∧ (∀ t, 0 ≤ t → t < 8 → N.1 213 (8 * x1 + t) = M0.1 213 (8 * x2 + t) ∧ N.1 214 (8 * x1 + t) = M0.1 214 (8 * x2 + t) ∧ N.1 215 (8 * x1 + t) = M0.1 215 (8 * x2 + t)) := by
  intro n
  induction n with
  | zero =>
    intro fu M v g0 g1 g2 hF hc
    obtain ⟨g, rfl⟩ : ∃ g, fu = g + 1 := ⟨fu - 1, by omega⟩
    rw [t_MO_copies_L95, if_pos (by omega)]
    exact ⟨M, rfl, hF, fun _ _ _ _ _ => ⟨rfl, rfl⟩, fun t a b => hc t a (by omega)⟩
  | succ n ih =>
    intro fu M v g0 g1 g2 hF hc
    obtain ⟨g, rfl⟩ : ∃ g, fu = g + 1 := ⟨fu - 1, by omega⟩
    rw [t_MO_copies_L95, if_neg (by omega), w32_id (x := 8 * x2) (by unfold InR; omega), w32_id (x := 8 * x1) (by unfold InR; omega), w32_id (x := 8 * x2 + v) (by unfold InR; omega), w32_id (x := 8 * x1 + v) (by unfold InR; omega), w32_id (x := v + 1) (by unfold InR; omega)]
    simp only [qlet]
    rw [qguard_pos ⟨by omega, by omega⟩, qguard_pos ⟨by omega, by omega⟩, qguard_pos ⟨by omega, by omega⟩, qguard_pos ⟨by omega, by omega⟩, qguard_pos ⟨by omega, by omega⟩, qguard_pos ⟨by omega, by omega⟩]
    have s1 : ∀ k, (k = 213 ∨ k = 214 ∨ k = 215) → M.1 k (8 * x2 + v) = M0.1 k (8 * x2 + v) := fun k hk => (hF k _ (by unfold CW; omega)).1
    have hF3 := ((hF.setI (k := 213) (j := 8 * x1 + v) (v := M.1 213 (8 * x2 + v)) (by unfold CW; omega)).setI (k := 214) (j := 8 * x1 + v) (v := uI M.1 213 (8 * x1 + v) (M.1 213 (8 * x2 + v)) 214 (8 * x2 + v)) (by unfold CW; omega)).setI (k := 215) (j := 8 * x1 + v) (v := (setI (setI M 213 (8 * x1 + v) (M.1 213 (8 * x2 + v))) 214 (8 * x1 + v) (uI M.1 213 (8 * x1 + v) (M.1 213 (8 * x2 + v)) 214 (8 * x2 + v))).1 215 (8 * x2 + v)) (by unfold CW; omega)
    obtain ⟨N, e1, e2, e3, e4⟩ := ih g _ (v + 1) (by omega) (by omega) (by omega) hF3 (fun t a b => by
      by_cases e : t = v
      · subst e
        refine ⟨?_, ?_, ?_⟩
        · rw [sI_ne (by omega), sI_ne (by omega), sI_self]; exact s1 213 (by omega)
        · rw [sI_ne (by omega), sI_self, uI_ne _ _ (by omega)]; exact s1 214 (by omega)
        · rw [sI_self, sI_ne (by omega), sI_ne (by omega)]; exact s1 215 (by omega)
      · have := hc t a (by omega)
        refine ⟨?_, ?_, ?_⟩
        · rw [sI_ne (by omega), sI_ne (by omega), sI_ne (by omega)]; exact this.1
        · rw [sI_ne (by omega), sI_ne (by omega), sI_ne (by omega)]; exact this.2.1
        · rw [sI_ne (by omega), sI_ne (by omega), sI_ne (by omega)]; exact this.2.2)
    refine ⟨N, e1, e2, fun k j a b c => ?_, e4⟩
    refine ⟨(e3 k j a b c).1.trans ?_, (e3 k j a b c).2⟩
    rw [sI_ne (by omega), sI_ne (by omega), sI_ne (by omega)]
theorem m_copies_L62 {M0 : Mem} {x1 x2 : Int} (h1 : 0 ≤ x1 ∧ x1 < 23) (h2 : 0 ≤ x2 ∧ x2 < 23) (hne : x1 ≠ x2) : ∀ (n fu : Nat) (M : Mem) (v : Int), v + (n : Int) = 4 → 0 ≤ v → n < fu → Fr (CW x1) M0 M → (∀ t, 0 ≤ t → t < v → M.1 212 (4 * x1 + t) = M0.1 212 (4 * x2 + t)) →
    ∃ N, t_MO_copies_L62 x1 x2 fu M v = some N ∧ Fr (CW x1) M0 N ∧ (∀ k j, k ≠ 212 → k ≠ 213 → k ≠ 214 → k ≠ 215 → N.1 k j = M.1 k j ∧ N.2 k j = M.2 k j) ∧ (∀ t, 0 ≤ t → t < 4 → N.1 212 (4 * x1 + t) = M0.1 212 (4 * x2 + t)) ∧ (∀ t, 0 ≤ t → t < 8 → N.1 213 (8 * x1 + t) = M0.1 213 (8 * x2 + t) ∧ N.1 214 (8 * x1 + t) = M0.1 214 (8 * x2 + t) ∧ N.1 215 (8 * x1 + t) = M0.1 215 (8 * x2 + t)) := by
  intro n
  induction n with
  | zero =>
    intro fu M v g0 g1 g2 hF hc
    obtain ⟨g, rfl⟩ : ∃ g, fu = g + 1 := ⟨fu - 1, by omega⟩
    rw [t_MO_copies_L62, if_pos (by omega)]
    obtain ⟨N, e1, e2, e3, e4⟩ := m_copies_L95 h1 h2 hne 8 FU M 0 (by omega) (by omega) (fu_big (by omega)) hF (fun t a b => by omega)
    exact ⟨N, e1, e2, fun k j _ b c d => e3 k j b c d, fun t a b => (e3 212 _ (by omega) (by omega) (by omega)).1.trans (hc t a (by omega)), e4⟩
  | succ n ih =>
    intro fu M v g0 g1 g2 hF hc
    obtain ⟨g, rfl⟩ : ∃ g, fu = g + 1 := ⟨fu - 1, by omega⟩
    rw [t_MO_copies_L62, if_neg (by omega), w32_id (x := 4 * x2) (by unfold InR; omega), w32_id (x := 4 * x1) (by unfold InR; omega), w32_id (x := 4 * x2 + v) (by unfold InR; omega), w32_id (x := 4 * x1 + v) (by unfold InR; omega), w32_id (x := v + 1) (by unfold InR; omega)]
    simp only [qlet]
    rw [qguard_pos ⟨by omega, by omega⟩, qguard_pos ⟨by omega, by omega⟩]
    have s1 : M.1 212 (4 * x2 + v) = M0.1 212 (4 * x2 + v) := (hF 212 _ (by unfold CW; omega)).1
    obtain ⟨N, e1, e2, e3, e4⟩ := ih g _ (v + 1) (by omega) (by omega) (by omega) (hF.setI (k := 212) (j := 4 * x1 + v) (v := M.1 212 (4 * x2 + v)) (by unfold CW; omega)) (fun t a b => by
      by_cases e : t = v
      · subst e; rw [sI_self]; exact s1
      · rw [sI_ne (by omega)]; exact hc t a (by omega))
    refine ⟨N, e1, e2, fun k j a b c d => ?_, e4⟩
    refine ⟨(e3 k j a b c d).1.trans ?_, (e3 k j a b c d).2⟩
    rw [sI_ne (by omega)]
theorem m_copies {M : Mem} {x1 x2 : Int} (h1 : 0 ≤ x1 ∧ x1 < 23) (h2 : 0 ≤ x2 ∧ x2 < 23) (hne : x1 ≠ x2) : ∃ N, t_MO_copies M x1 x2 = some N ∧ Fr (CW x1) M N ∧ RowEq N x1 M x2 := by
  unfold t_MO_copies
  simp only [qlet]
  simp only [qguard_pos h1, qguard_pos h2]
  have hF : Fr (CW x1) M (setL (setL (setI (setI (setI M 207 x1 (M.1 207 x2)) 208 x1 ((setI M 207 x1 (M.1 207 x2)).1 208 x2)) 209 x1 ((setI (setI M 207 x1 (M.1 207 x2)) 208 x1 ((setI M 207 x1 (M.1 207 x2)).1 208 x2)).1 209 x2)) 210 x1 (M.2 210 x2)) 211 x1 (M.2 211 x2)) := ((((Fr.rf.setI (by unfold CW; omega)).setI (by unfold CW; omega)).setI (by unfold CW; omega)).setL (by unfold CW; omega)).setL (by unfold CW; omega)
  obtain ⟨N, e1, e2, e3, e4, e5⟩ := m_copies_L62 h1 h2 hne 4 FU _ 0 (by omega) (by omega) (fu_big (by omega)) hF (fun t a b => by omega)
  refine ⟨N, ?_, e2, ⟨?_, ?_, ?_, ?_, ?_⟩, e4, e5⟩
  · rw [← e1]; rfl
  · rw [(e3 207 x1 (by omega) (by omega) (by omega) (by omega)).1]
    rw [sL_fst, sL_fst, sI_ne (by omega), sI_ne (by omega), sI_self]
  · rw [(e3 208 x1 (by omega) (by omega) (by omega) (by omega)).1]
    rw [sL_fst, sL_fst, sI_ne (by omega), sI_self, sI_ne (by omega)]
  · rw [(e3 209 x1 (by omega) (by omega) (by omega) (by omega)).1]
    rw [sL_fst, sL_fst, sI_self, sI_ne (by omega), sI_ne (by omega)]
  · rw [(e3 210 x1 (by omega) (by omega) (by omega) (by omega)).2, sL_ne (by omega), sL_self]
  · rw [(e3 211 x1 (by omega) (by omega) (by omega) (by omega)).2, sL_self]
end
section
/-! ===== water and beats: what is to come out, and the reference's side ===== -/
theorem or_same (w : Int64) {c : Int} (c0 : 0 ≤ c) (c1 : c < 64) (h : tb w c = true) : w ||| q_lshl 1 c = w := by
  apply Int64.toBitVec_inj.mp
  apply BitVec.eq_of_getLsbD_eq
  intro i hi
  have h2 := tb_or w c0 c1 (j := (i : Int)) (by omega) (by omega)
  unfold tb at h2
  rw [Int.toNat_natCast] at h2
  rw [h2]
  by_cases e : (i : Int) = c
  · subst e
    unfold tb at h
    rw [Int.toNat_natCast] at h
    rw [h]; simp
  · simp [e]
def prS (f : Int → Int) : Nat → Int64 → Int → Int64 × Int
  | 0, w, _ => (w, 0)
  | n + 1, w, c => if f c < 0 ∨ tb w (f c) = true then (if tb w c = true then (w, 0) else (w ||| q_lshl 1 c, 1)) else prS f n w (f c)
def flS (f : Int → Int) (was : Int64) : Nat → Int64
  | 0 => 0
  | n + 1 => if tb was (n : Int) = true then (prS f 49 (flS f was n) (n : Int)).1 else flS f was n
abbrev BT : Type := (Int → Int) × (Int → Int) × (Int → Int) × Int
def upA (A : Int → Int) (t v : Int) : Int → Int := fun x => if x = t then v else A x
theorem upA_self (A : Int → Int) (t v : Int) : upA A t v t = v := if_pos rfl
theorem upA_ne (A : Int → Int) {t v x : Int} (h : x ≠ t) : upA A t v x = A x := if_neg h
def btS (V : TV) (f : Int → Int) (way : Bool) (A S L : Int → Int) : Nat → BT
  | 0 => (A, S, L, 0)
  | t + 1 => if (btS V f way A S L t).1 (t : Int) < 0 then btS V f way A S L t
    else if f ((btS V f way A S L t).1 (t : Int)) < 0 then btS V f way A S L t
    else if way = true ∧ fnd (fun a => (btS V f way A S L t).1 (a : Int)) (f ((btS V f way A S L t).1 (t : Int))) (V 0 3).toNat ≠ none then btS V f way A S L t
    else (upA (btS V f way A S L t).1 (t : Int) (f ((btS V f way A S L t).1 (t : Int))), upA (btS V f way A S L t).2.1 (t : Int) (w32 ((btS V f way A S L t).2.1 (t : Int) + 1)), upA (btS V f way A S L t).2.2.1 (t : Int) (w32 ((btS V f way A S L t).2.2.1 (t : Int) + lnV V ((btS V f way A S L t).1 (t : Int)) (f ((btS V f way A S L t).1 (t : Int))))), (btS V f way A S L t).2.2.2 + 1)
/-- tries: what is tried, of which -/
def trN (w : Int) (nets : Int64) : Int64 := if w = 0 then 0 else nets
def trW (w : Int) (wl : Int → Bool) : Int → Bool := if w = 2 then fun _ => false else wl
def trD (w i : Int) (D : Int → Int) : Int → Int := fun x => if w = 3 ∧ x = i then 4 else D x
section MT
variable {M : Mem} {V : TV} {at_ : Int} {D A : Int → Int} {nets : Int64}
theorem m_downT (h : MT0 M V) (hV : VOK V) (hm : MSc M at_ V D A nets) (ha : 0 ≤ at_ ∧ at_ < 23) {c : Int} (h0 : 0 ≤ c) (h1 : c < 48) : t_MO_downOf M at_ c = some (dnV V (trD (M.1 191 44) (M.1 191 45) D) c) := by
  have ho := hV.2.2.2 c h0 h1
  have hw := hV.1
  unfold t_MO_downOf t_MO_downOf_L34 dnV trD
  rw [qguard_pos ⟨h0, by omega⟩, (h.2.2.2 c h0 h1).1, w32_id (x := V 7 c + 1 - 1) (by unfold InR; omega), show V 7 c + 1 - 1 = V 7 c by omega]
  by_cases h2 : V 7 c < 0
  · rw [if_pos (by omega), if_pos h2]
  · rw [if_neg (by omega), if_neg h2]
    have e : (qguard (0 ≤ (w32 ((w32 (4 * at_)) + (V 7 c))) ∧ (w32 ((w32 (4 * at_)) + (V 7 c))) < 92) (some (M.1 212 (w32 ((w32 (4 * at_)) + (V 7 c)))))) = some (D (V 7 c)) := by
      rw [w32_id (x := 4 * at_) (by unfold InR; omega), w32_id (x := 4 * at_ + V 7 c) (by unfold InR; omega), qguard_pos ⟨by omega, by omega⟩, hm.1 _ (by omega) (by omega)]
    by_cases h3 : M.1 191 44 = 3
    · by_cases h4 : M.1 191 45 = V 7 c
      · rw [if_pos h3, if_pos h4, if_pos ⟨h3, h4.symm⟩]
      · rw [if_pos h3, if_neg h4, if_neg (fun q => h4 q.2.symm), e]
    · rw [if_neg h3, if_neg (fun q => h3 q.1), e]
theorem trD_rng {w i : Int} (hD : ∀ w, 0 ≤ w → w < V 0 2 → 0 ≤ D w ∧ D w ≤ 4) : ∀ x, 0 ≤ x → x < V 0 2 → 0 ≤ trD w i D x ∧ trD w i D x ≤ 4 := by
  intro x a b
  unfold trD
  split
  · omega
  · exact hD x a b
theorem m_nextT (h : MT0 M V) (hV : VOK V) (hm : MSc M at_ V D A nets) (hD : ∀ w, 0 ≤ w → w < V 0 2 → 0 ≤ D w ∧ D w ≤ 4) (ha : 0 ≤ at_ ∧ at_ < 23) {c : Int} (h0 : 0 ≤ c) (h1 : c < cellsV V) : t_MO_nextOf M at_ c = some (nxV V (trD (M.1 191 44) (M.1 191 45) D) (trN (M.1 191 44) nets) (trW (M.1 191 44) (wlV V)) c) := by
  have hC := hV.cells
  generalize hD' : trD (M.1 191 44) (M.1 191 45) D = D'
  have hDr : ∀ w, 0 ≤ w → w < V 0 2 → 0 ≤ D' w ∧ D' w ≤ 4 := by rw [← hD']; exact trD_rng hD
  have hb := bs_rng hV h0 h1 (dnV V D' c)
  have hd := dn_rng hV hDr h0 (c := c) (by omega)
  have e24 : t_MO_nextOf_L24 at_ c M = some (if bsV V c (dnV V D' c) < 0 then -1 else if trW (M.1 191 44) (wlV V) (bsV V c (dnV V D' c)) = true then -1 else bsV V c (dnV V D' c)) := by
    unfold t_MO_nextOf_L24
    rw [m_downT h hV hm ha h0 (by omega), hD', obind_some, m_beside h hV h0 h1 hd.1 hd.2, obind_some]
    by_cases h2 : bsV V c (dnV V D' c) < 0
    · rw [if_pos (by omega), if_pos h2]
    · have hw := (hV.2.2.2 (bsV V c (dnV V D' c)) (by omega) (by omega)).2.2.1
      rw [if_neg (by omega), if_neg h2]
      unfold trW
      by_cases h4 : M.1 191 44 = 2
      · rw [if_pos h4, if_pos h4]; rfl
      · rw [if_neg h4, if_neg h4, qguard_pos ⟨by omega, by omega⟩, (h.2.2.2 _ (by omega) (by omega)).2.1]
        unfold wlV
        rcases hw with hw | hw
        · rw [hw]; simp
        · rw [hw]; simp
  unfold t_MO_nextOf nxV trN
  by_cases ht : M.1 191 44 = 0
  · rw [if_pos ht, if_pos ht, tb_zero, if_neg Bool.false_ne_true, e24]
  · rw [if_neg ht, if_neg ht, qguard_pos ha, hm.2.2]
    cases e : tb nets c with
    | true => rw [if_pos ((lshr_1 nets h0 (by omega)).mpr e), if_pos rfl]
    | false => rw [if_neg (fun q => by rw [(lshr_1 nets h0 (by omega)).mp q] at e; cases e), if_neg (by simp), e24]
end MT
/-- the reference's pours, over any next -/
theorem m_pours_loop {M : Mem} {at_ x2 C : Int} {f : Int → Int} (ha : 0 ≤ at_ ∧ at_ < 23) (hC : C ≤ 48) (hf : stepOK f C) (hN : ∀ c, 0 ≤ c → c < C → t_MO_nextOf M at_ c = some (f c)) : ∀ (n fu : Nat) (c v : Int), v + (n : Int) = 49 → 0 ≤ v → n < fu → 0 ≤ c → c < C →
    ∃ N, t_MO_pours_L5 at_ x2 fu M c v = some (N, (prS f n (M.2 211 at_) c).2) ∧ N.2 211 at_ = (prS f n (M.2 211 at_) c).1 ∧ Fr (fun k j => k = 211 ∧ j = at_) M N := by
  intro n
  induction n with
  | zero =>
    intro fu c v g0 g1 g2 c0 c1
    obtain ⟨g, rfl⟩ : ∃ g, fu = g + 1 := ⟨fu - 1, by omega⟩
    rw [t_MO_pours_L5, if_pos (by omega)]
    exact ⟨M, rfl, rfl, Fr.rf⟩
  | succ n ih =>
    intro fu c v g0 g1 g2 c0 c1
    obtain ⟨g, rfl⟩ : ∃ g, fu = g + 1 := ⟨fu - 1, by omega⟩
    have hs := hf c c0 c1
    have e42 : ∃ N, t_MO_pours_L42 at_ x2 M c = some (N, (if tb (M.2 211 at_) c = true then (M.2 211 at_, (0 : Int)) else (M.2 211 at_ ||| q_lshl 1 c, 1)).2) ∧ N.2 211 at_ = (if tb (M.2 211 at_) c = true then (M.2 211 at_, (0 : Int)) else (M.2 211 at_ ||| q_lshl 1 c, 1)).1 ∧ Fr (fun k j => k = 211 ∧ j = at_) M N := by
      unfold t_MO_pours_L42
      rw [qguard_pos ha]
      by_cases e : tb (M.2 211 at_) c = true
      · rw [if_pos ((lshr_1 _ c0 (by omega)).mpr e), if_pos e]
        exact ⟨M, rfl, rfl, Fr.rf⟩
      · rw [if_neg (fun q => e ((lshr_1 _ c0 (by omega)).mp q)), if_neg e, qguard_pos ha, qguard_pos ha]
        simp only [qlet]
        exact ⟨_, rfl, by rw [sL_self], Fr.rf.setL ⟨rfl, rfl⟩⟩
    rw [t_MO_pours_L5, if_neg (by omega), hN c c0 c1, obind_some, prS]
    by_cases e1 : f c < 0
    · rw [if_pos (by omega), if_pos (Or.inl e1)]
      exact e42
    · rw [if_neg (by omega), qguard_pos ha]
      by_cases e2 : tb (M.2 211 at_) (f c) = true
      · rw [if_pos ((lshr_1 _ (by omega) (by omega)).mpr e2), if_pos (Or.inr e2)]
        exact e42
      · rw [if_neg (fun q => e2 ((lshr_1 _ (by omega) (by omega)).mp q)), if_neg (fun q => q.elim (fun q => e1 q) (fun q => e2 q)), w32_id (x := v + 1) (by unfold InR; omega)]
        exact ih g (f c) (v + 1) (by omega) (by omega) (by omega) (by omega) (by omega)
theorem m_pours {M : Mem} {at_ x2 C : Int} {f : Int → Int} (ha : 0 ≤ at_ ∧ at_ < 23) (hC : C ≤ 48) (hf : stepOK f C) (hN : ∀ c, 0 ≤ c → c < C → t_MO_nextOf M at_ c = some (f c)) (c0 : 0 ≤ x2) (c1 : x2 < C) :
    ∃ N, t_MO_pours M at_ x2 = some (N, (prS f 49 (M.2 211 at_) x2).2) ∧ N.2 211 at_ = (prS f 49 (M.2 211 at_) x2).1 ∧ Fr (fun k j => k = 211 ∧ j = at_) M N := m_pours_loop ha hC hf hN 49 FU x2 0 (by omega) (by omega) (fu_big (by omega)) c0 c1
theorem m_floods_loop {M0 : Mem} {at_ C : Int} {f : Int → Int} {was : Int64} (ha : 0 ≤ at_ ∧ at_ < 23) (hC : C ≤ 48) (hf : stepOK f C) (hN : ∀ M, Fr (fun k j => k = 211 ∧ j = at_) M0 M → t_MO_cells M = C ∧ ∀ c, 0 ≤ c → c < C → t_MO_nextOf M at_ c = some (f c)) : ∀ (n i fu : Nat) (M : Mem), (i : Int) + (n : Int) = C → n < fu → Fr (fun k j => k = 211 ∧ j = at_) M0 M → M.2 211 at_ = flS f was i →
    ∃ N, t_MO_floods_L17 at_ fu M was (i : Int) = some N ∧ N.2 211 at_ = flS f was C.toNat ∧ Fr (fun k j => k = 211 ∧ j = at_) M0 N := by
  intro n
  induction n with
  | zero =>
    intro i fu M g0 g2 hF hw
    obtain ⟨g, rfl⟩ : ∃ g, fu = g + 1 := ⟨fu - 1, by omega⟩
    rw [t_MO_floods_L17]
    simp only [qlet]
    rw [(hN M hF).1, if_pos (by omega)]
    exact ⟨M, rfl, by rw [hw]; congr 1; omega, hF⟩
  | succ n ih =>
    intro i fu M g0 g2 hF hw
    obtain ⟨g, rfl⟩ : ∃ g, fu = g + 1 := ⟨fu - 1, by omega⟩
    rw [t_MO_floods_L17]
    simp only [qlet]
    rw [(hN M hF).1, if_neg (by omega)]
    have ei : w32 ((i : Int) + 1) = ((i + 1 : Nat) : Int) := by rw [w32_id (by unfold InR; omega)]; omega
    by_cases e : tb was (i : Int) = true
    · rw [if_pos ((lshr_1 _ (by omega) (by omega)).mpr e)]
      obtain ⟨N, e1, e2, e3⟩ := m_pours (M := M) ha hC hf (hN M hF).2 (x2 := (i : Int)) (by omega) (by omega)
      rw [e1, obind_some]
      unfold t_MO_floods_L45
      rw [ei]
      exact ih (i + 1) g N (by omega) (by omega) (hF.trans e3) (by rw [e2, flS, if_pos e, hw])
    · rw [if_neg (fun q => e ((lshr_1 _ (by omega) (by omega)).mp q))]
      unfold t_MO_floods_L45
      rw [ei]
      exact ih (i + 1) g M (by omega) (by omega) hF (by rw [flS, if_neg e, hw])
theorem m_floods {M : Mem} {at_ C : Int} {f : Int → Int} (ha : 0 ≤ at_ ∧ at_ < 23) (hC : 0 ≤ C ∧ C ≤ 48) (hf : stepOK f C) (hN : ∀ N, Fr (fun k j => k = 211 ∧ j = at_) M N → t_MO_cells N = C ∧ ∀ c, 0 ≤ c → c < C → t_MO_nextOf N at_ c = some (f c)) :
    ∃ N, t_MO_floods M at_ = some N ∧ N.2 211 at_ = flS f (M.2 211 at_) C.toNat ∧ Fr (fun k j => k = 211 ∧ j = at_) M N := by
  unfold t_MO_floods
  rw [qguard_pos ha, qguard_pos ha]
  simp only [qlet]
  exact m_floods_loop ha hC.2 hf hN C.toNat 0 FU _ (by omega) (fu_big (by omega)) (Fr.rf.setL ⟨rfl, rfl⟩) (by rw [sL_self]; rfl)
end
