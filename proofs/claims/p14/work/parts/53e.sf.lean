/-! safe rows -/
theorem sf_WF_may {x1 : Int} {M : Mem}   (h_M : IM M) (h_x1 : InR x1)  : Ok (fun r => IM r.1 ∧ InR r.2) (t_WF_may M x1) := by
  unfold t_WF_may
  refine ok_let (fun q2 e_q2 => ?_)
  have h_q2 : (fun r => InR r) q2 := by rw [e_q2]; exact (sf_Town_hasWard  h_M h_x1 )
  clear e_q2
  refine ok_ite (fun c_1 => ?_) (fun c_1 => ?_)
  · exact ok_some ⟨h_M, (inr_c rfl)⟩
  · refine ok_bind (Q := fun r => IM r) (sf_Notes_findFits  h_M  ) (fun q6 h_q6 => ?_)
    refine ok_let (fun q8 e_q8 => ?_)
    have h_q8 : (fun r => InR r) q8 := by rw [e_q8]; exact (sf_WF_look  h_q6 h_x1 )
    clear e_q8
    exact ok_some ⟨h_q6, h_q8⟩
theorem sf_Chronicle_number {k0 : Nat} {M : Mem} (h_M : IM M)  : (fun r => IM r.1 ∧ InR r.2) (t_Chronicle_number M k0) := by
  show Pl (fun r => IM r.1 ∧ InR r.2) (t_Chronicle_number M k0)
  unfold t_Chronicle_number
  refine pl_let (fun M1 e_M1 => ?_)
  have h_M1 : IM M1 := by rw [e_M1]; exact IM.setL h_M
  clear e_M1
  exact ⟨h_M1, (inrq_l2i)⟩
theorem sf_Chronicle_goOn_L61 {k0 : Nat} {k1 : Nat} {k2 : Nat} {v1_ : Int} {v2_ : Int} {v3_ : Int} {M : Mem}   (h_M : IM M) (h_v1_ : InR v1_) (h_v2_ : InR v2_) (h_v3_ : InR v3_)  : Ok (fun r => IM r) (t_Chronicle_goOn_L61 k0 k1 k2 M v1_ v2_ v3_) := by
  unfold t_Chronicle_goOn_L61
  refine ok_let (fun q16 e_q16 => ?_)
  have h_q16 : (fun r => IM r) q16 := by rw [e_q16]; exact (sf_WF_put  h_M (h_M _ _) h_v1_ )
  clear e_q16
  refine ok_let (fun q19 e_q19 => ?_)
  have h_q19 : (fun r => IM r) q19 := by rw [e_q19]; exact (sf_WF_put  h_q16 (h_q16 _ _) h_v2_ )
  clear e_q19
  refine ok_let (fun q22 e_q22 => ?_)
  have h_q22 : (fun r => IM r) q22 := by rw [e_q22]; exact (sf_WF_put  h_q19 (h_q19 _ _) h_v3_ )
  clear e_q22
  refine ok_let (fun M25 e_M25 => ?_)
  have h_M25 : IM M25 := by rw [e_M25]; exact IM.setI h_q22 (inr_w32 _)
  clear e_M25
  exact ok_some h_M25
theorem sf_Chronicle_goOn {k0 k1 k2 : Nat} {M : Mem} (hM : IM M) : Ok (fun r => IM r) (t_Chronicle_goOn M k0 k1 k2) := by
  unfold t_Chronicle_goOn
  refine ok_ite (fun _ => sf_Chronicle_goOn_L61 hM (inr_c rfl) (inr_c rfl) (inr_c rfl)) (fun c => ?_)
  refine ok_let (fun q3 e3 => ?_)
  have h3 : IM q3.1 := by rw [e3]; exact hM.setL
  have f3 : q3.1.1 k1 14 = M.1 k1 14 := by rw [e3]; rfl
  refine ok_ite (fun c2 => False.elim (by omega)) (fun _ => ?_)
  refine ok_let (fun q7 e7 => ?_)
  have h7 : IM q7.1 := by rw [e7]; exact h3.setL
  refine ok_let (fun q9 e9 => ?_)
  have h9 : InR q9 := by rw [e9]; exact sf_WF_look h7 inrq_rem
  refine ok_let (fun q11 e11 => ?_)
  have h11 : IM q11 := by rw [e11]; exact sf_WF_put h7 inrq_rem inrq_rem
  refine ok_bind (sf_Scene_pourAnew h11) (fun q13 h13 => ?_)
  exact sf_Chronicle_goOn_L61 h13 inrq_rem inrq_rem h9
theorem sf_WF_years_L73 {x1 : Int} {M : Mem}   (h_M : IM M) (h_x1 : InR x1)  : Ok (fun r => IM r.1 ∧ InR r.2) (t_WF_years_L73 x1 M) := by
  unfold t_WF_years_L73
  exact ok_some ⟨h_M, (h_M _ _)⟩
theorem sf_WF_years_L28 {x1 : Int}   (h_x1 : InR x1) : ∀ (fu : Nat) (M : Mem) (v2_ : Int), IM M → InR v2_ → 2147483648 - v2_ < (fu : Int) → Ok (fun r => IM r.1 ∧ InR r.2) (t_WF_years_L28 x1 fu M v2_) := by
  intro fu
  induction fu with
  | zero => intro M v2_ h_M h_v2_ hf; have r_ := (h_v2_ : InR v2_); unfold InR at r_; exact absurd hf (by omega)
  | succ fu ih =>
    intro M v2_ h_M h_v2_ hf
    rw [t_WF_years_L28]
    have r_v2_ : -2147483648 ≤ v2_ ∧ v2_ ≤ 2147483647 := h_v2_
    refine ok_ite (fun c_1 => ?_) (fun c_1 => ?_)
    · refine ok_ite (fun c_2 => ?_) (fun c_2 => ?_)
      · exact (sf_WF_years_L73  h_M h_x1 )
      · refine ok_let (fun q7 e_q7 => ?_)
        have h_q7 : (fun r => IM r) q7 := by rw [e_q7]; exact (sf_Past_clear  h_M  )
        clear e_q7
        refine ok_let (fun M9 e_M9 => ?_)
        have h_M9 : IM M9 := by rw [e_M9]; exact IM.setI h_q7 (inr_c rfl)
        clear e_M9
        exact (sf_WF_years_L73  h_M9 h_x1 )
    · have f_3 : v2_ ≤ 2147483646 := by have b_ : x1 ≤ 2147483647 := (h_x1).2; omega
      refine ok_bind (Q := fun r => IM r) (sf_Chronicle_goOn  h_M  ) (fun q11 h_q11 => ?_)
      have w_4 : (w32 (v2_ + 1)) = v2_ + (1) := w32_id (by unfold InR; omega)
      exact (ih _ _ h_q11 (inr_w32 _) (by omega))
theorem sf_WF_years {x1 : Int} {M : Mem}   (h_M : IM M) (h_x1 : InR x1)  : Ok (fun r => IM r.1 ∧ InR r.2) (t_WF_years M x1) := by
  unfold t_WF_years
  refine ok_ite (fun c_1 => ?_) (fun c_1 => ?_)
  · exact ok_some ⟨h_M, (inr_c rfl)⟩
  · refine ok_ite (fun c_2 => ?_) (fun c_2 => ?_)
    · exact ok_some ⟨h_M, (inr_c rfl)⟩
    · refine ok_ite (fun c_3 => ?_) (fun c_3 => ?_)
      · exact (sf_WF_years_L28  h_x1 _ _ _ h_M (inr_c rfl) (fu_up (inr_c rfl)))
      · exact ok_some ⟨h_M, (inr_c rfl)⟩
theorem sf_WF_voted {x1 : Int} {x2 : Int} {M : Mem} (h_M : IM M) (h_x1 : InR x1) (h_x2 : InR x2) : (fun r => InR r) (t_WF_voted M x1 x2) := by
  show Pl (fun r => InR r) (t_WF_voted M x1 x2)
  unfold t_WF_voted
  refine pl_ite (fun c_1 => ?_) (fun c_1 => ?_)
  · exact (inr_c rfl)
  · refine pl_ite (fun c_2 => ?_) (fun c_2 => ?_)
    · refine pl_ite (fun c_3 => ?_) (fun c_3 => ?_)
      · refine pl_let (fun q5 e_q5 => ?_)
        have h_q5 : (fun r => InR r) q5 := by rw [e_q5]; exact (sf_WF_look  h_M h_x1 )
        clear e_q5
        exact h_q5
      · refine pl_ite (fun c_4 => ?_) (fun c_4 => ?_)
        · refine pl_let (fun q8 e_q8 => ?_)
          have h_q8 : (fun r => InR r) q8 := by rw [e_q8]; exact (sf_WF_look  h_M h_x1 )
          clear e_q8
          exact h_q8
        · refine pl_ite (fun c_5 => ?_) (fun c_5 => ?_)
          · refine pl_let (fun q11 e_q11 => ?_)
            have h_q11 : (fun r => InR r) q11 := by rw [e_q11]; exact (sf_WF_look  h_M h_x1 )
            clear e_q11
            exact h_q11
          · exact (inr_c rfl)
    · exact (inr_c rfl)
theorem sf_WF_canTry_L36 {x1 : Int} {x2 : Int} {M : Mem} (h_M : IM M) (h_x1 : InR x1) (h_x2 : InR x2) : (fun r => InR r) (t_WF_canTry_L36 x1 x2 M) := by
  show Pl (fun r => InR r) (t_WF_canTry_L36 x1 x2 M)
  unfold t_WF_canTry_L36
  refine pl_ite (fun c_1 => ?_) (fun c_1 => ?_)
  · exact (inr_c rfl)
  · exact (inr_c rfl)
theorem sf_WF_canTry {x1 : Int} {x2 : Int} {M : Mem} (h_M : IM M) (h_x1 : InR x1) (h_x2 : InR x2) : (fun r => InR r) (t_WF_canTry M x1 x2) := by
  show Pl (fun r => InR r) (t_WF_canTry M x1 x2)
  unfold t_WF_canTry
  refine pl_ite (fun c_1 => ?_) (fun c_1 => ?_)
  · exact (sf_WF_canTry_L36  h_M h_x1 h_x2 )
  · refine pl_ite (fun c_2 => ?_) (fun c_2 => ?_)
    · exact (sf_WF_canTry_L36  h_M h_x1 h_x2 )
    · refine pl_ite (fun c_3 => ?_) (fun c_3 => ?_)
      · exact (sf_WF_canTry_L36  h_M h_x1 h_x2 )
      · refine pl_ite (fun c_4 => ?_) (fun c_4 => ?_)
        · refine pl_let (fun q6 e_q6 => ?_)
          have h_q6 : (fun r => InR r) q6 := by rw [e_q6]; exact (sf_Town_hasWard  h_M h_x2 )
          clear e_q6
          exact h_q6
        · refine pl_ite (fun c_5 => ?_) (fun c_5 => ?_)
          · refine pl_let (fun q10 e_q10 => ?_)
            have h_q10 : (fun r => InR r) q10 := by rw [e_q10]; exact (sf_Town_hasThing  h_M h_x2 )
            clear e_q10
            exact h_q10
          · exact (inr_c rfl)
theorem sf_WF_tried_L152 {x1 : Int} {x2 : Int} {x3 : Int} {bk126 : Mem → Int → Int → Option (Mem × Int)} {v3_ : Int} {v4_ : Int} {u6_ : Nat} {v7_ : Int} {M : Mem} {c_bk126 : Int} (hbk126 : ∀ (a0_ : Mem) (a1_ : Int) (a2_ : Int), IM a0_ → InR a1_ → InR a2_ → c_bk126 < a2_ → Ok (fun r => IM r.1 ∧ InR r.2) (bk126 a0_ a1_ a2_)) (h_M : IM M) (h_x1 : InR x1) (h_x2 : InR x2) (h_x3 : InR x3) (h_v3_ : InR v3_) (h_v4_ : InR v4_) (h_v7_ : InR v7_) (g_0 : c_bk126 ≤ v3_ ∧ v3_ ≤ 2147483646) : Ok (fun r => IM r.1 ∧ InR r.2) (t_WF_tried_L152 x1 x2 x3 bk126 M v3_ v4_ u6_ v7_) := by
  unfold t_WF_tried_L152
  have r_v3_ : -2147483648 ≤ v3_ ∧ v3_ ≤ 2147483647 := h_v3_
  refine ok_bind (Q := fun r => IM r.1 ∧ InR r.2) (sf_Scene_beat  h_M h_v7_ ) (fun q22 h_q22 => ?_)
  have w_1 : (w32 (v3_ + 1)) = v3_ + (1) := w32_id (by unfold InR; omega)
  exact hbk126 _ _ _  h_q22.1 (inr_w32 _) (inr_w32 _) (by omega)
theorem sf_WF_tried_L126 {x1 : Int} {x2 : Int} {x3 : Int}   (h_x1 : InR x1) (h_x2 : InR x2) (h_x3 : InR x3) : ∀ (fu : Nat) (M : Mem) (v3_ : Int) (v4_ : Int), IM M → InR v3_ → InR v4_ → 2147483648 - v4_ < (fu : Int) → Ok (fun r => IM r.1 ∧ InR r.2) (t_WF_tried_L126 x1 x2 x3 fu M v3_ v4_) := by
  intro fu
  induction fu with
  | zero => intro M v3_ v4_ h_M h_v3_ h_v4_ hf; have r_ := (h_v4_ : InR v4_); unfold InR at r_; exact absurd hf (by omega)
  | succ fu ih =>
    intro M v3_ v4_ h_M h_v3_ h_v4_ hf
    rw [t_WF_tried_L126]
    have r_v4_ : -2147483648 ≤ v4_ ∧ v4_ ≤ 2147483647 := h_v4_
    refine ok_ite (fun c_1 => ?_) (fun c_1 => ?_)
    · exact ok_some ⟨h_M, h_v3_⟩
    · have f_2 : v4_ ≤ 2147483646 := by have b_ : x3 ≤ 2147483647 := (h_x3).2; omega
      refine ok_ite (fun c_3 => ?_) (fun c_3 => ?_)
      · exact (sf_WF_tried_L152 (c_bk126 := v4_) (fun a0_ a1_ a2_ h0_ h1_ h2_ z_ => ih a0_ a1_ a2_ h0_ h1_ h2_ (by omega)) h_M h_x1 h_x2 h_x3 h_v4_ h_v3_ (inr_c rfl) (by omega))
      · exact (sf_WF_tried_L152 (c_bk126 := v4_) (fun a0_ a1_ a2_ h0_ h1_ h2_ z_ => ih a0_ a1_ a2_ h0_ h1_ h2_ (by omega)) h_M h_x1 h_x2 h_x3 h_v4_ h_v3_ (inr_c rfl) (by omega))
theorem sf_WF_tried_L120 {x1 : Int} {x2 : Int} {x3 : Int} {M : Mem}   (h_M : IM M) (h_x1 : InR x1) (h_x2 : InR x2) (h_x3 : InR x3)  : Ok (fun r => IM r.1 ∧ InR r.2) (t_WF_tried_L120 x1 x2 x3 M) := by
  unfold t_WF_tried_L120
  exact (sf_WF_tried_L126  h_x1 h_x2 h_x3 _ _ _ _ h_M (inr_c rfl) (inr_c rfl) (fu_up (inr_c rfl)))
theorem sf_WF_tried {x1 : Int} {x2 : Int} {x3 : Int} {M : Mem}   (h_M : IM M) (h_x1 : InR x1) (h_x2 : InR x2) (h_x3 : InR x3)  : Ok (fun r => IM r.1 ∧ InR r.2) (t_WF_tried M x1 x2 x3) := by
  unfold t_WF_tried
  refine ok_ite (fun c_1 => ?_) (fun c_1 => ?_)
  · exact ok_some ⟨h_M, (inr_c rfl)⟩
  · refine ok_ite (fun c_2 => ?_) (fun c_2 => ?_)
    · exact ok_some ⟨h_M, (inr_c rfl)⟩
    · refine ok_let (fun q3 e_q3 => ?_)
      have h_q3 : (fun r => InR r) q3 := by rw [e_q3]; exact (sf_WF_canTry  h_M h_x1 h_x2 )
      clear e_q3
      refine ok_ite (fun c_3 => ?_) (fun c_3 => ?_)
      · exact ok_some ⟨h_M, (inr_c rfl)⟩
      · refine ok_let (fun q6 e_q6 => ?_)
        have h_q6 : (fun r => IM r) q6 := by rw [e_q6]; exact (sf_Scene_copy  h_M  )
        clear e_q6
        refine ok_ite (fun c_4 => ?_) (fun c_4 => ?_)
        · refine ok_let (fun M9 e_M9 => ?_)
          have h_M9 : IM M9 := by rw [e_M9]; exact IM.setL h_q6
          clear e_M9
          exact (sf_WF_tried_L120  h_M9 h_x1 h_x2 h_x3 )
        · refine ok_ite (fun c_5 => ?_) (fun c_5 => ?_)
          · exact (sf_WF_tried_L120  h_q6 h_x1 h_x2 h_x3 )
          · refine ok_ite (fun c_6 => ?_) (fun c_6 => ?_)
            · refine ok_let (fun M12 e_M12 => ?_)
              have h_M12 : IM M12 := by rw [e_M12]; exact IM.setL h_q6
              clear e_M12
              exact (sf_WF_tried_L120  h_M12 h_x1 h_x2 h_x3 )
            · refine ok_ite (fun c_7 => ?_) (fun c_7 => ?_)
              · refine ok_let (fun q14 e_q14 => ?_)
                have h_q14 : (fun r => IM r) q14 := by rw [e_q14]; exact (sf_WF_put  h_q6 h_x2 (inr_c rfl) )
                clear e_q14
                exact (sf_WF_tried_L120  h_q14 h_x1 h_x2 h_x3 )
              · refine ok_ite (fun c_8 => ?_) (fun c_8 => ?_)
                · refine ok_let (fun q17 e_q17 => ?_)
                  have h_q17 : (fun r => IM r) q17 := by rw [e_q17]; exact (sf_WF_put  h_q6 h_x2 (inr_c rfl) )
                  clear e_q17
                  exact (sf_WF_tried_L120  h_q17 h_x1 h_x2 h_x3 )
                · exact (sf_WF_tried_L120  h_q6 h_x1 h_x2 h_x3 )
theorem sf_Past_takeBack_L77 {k1 : Nat} {v2_ : Int} {M : Mem} (h_M : IM M) (h_v2_ : InR v2_) : (fun r => IM r.1 ∧ InR r.2) (t_Past_takeBack_L77 k1 M v2_) := by
  show Pl (fun r => IM r.1 ∧ InR r.2) (t_Past_takeBack_L77 k1 M v2_)
  unfold t_Past_takeBack_L77
  refine pl_let (fun M16 e_M16 => ?_)
  have h_M16 : IM M16 := by rw [e_M16]; exact IM.setI h_M h_v2_
  clear e_M16
  refine pl_let (fun M18 e_M18 => ?_)
  have h_M18 : IM M18 := by rw [e_M18]; exact IM.setI h_M16 (inr_w32 _)
  clear e_M18
  exact ⟨h_M18, (inr_c rfl)⟩
theorem sf_Past_takeBack_L53 {k1 : Nat} {M : Mem} (h_M : IM M)  : (fun r => IM r.1 ∧ InR r.2) (t_Past_takeBack_L53 k1 M) := by
  show Pl (fun r => IM r.1 ∧ InR r.2) (t_Past_takeBack_L53 k1 M)
  unfold t_Past_takeBack_L53
  refine pl_ite (fun c_1 => ?_) (fun c_1 => ?_)
  · exact (sf_Past_takeBack_L77  h_M (inr_w32 _) )
  · exact (sf_Past_takeBack_L77  h_M (inr_w32 _) )
theorem sf_Past_takeBack {k1 : Nat} {M : Mem} (h_M : IM M)  : (fun r => IM r.1 ∧ InR r.2) (t_Past_takeBack M k1) := by
  show Pl (fun r => IM r.1 ∧ InR r.2) (t_Past_takeBack M k1)
  unfold t_Past_takeBack
  refine pl_ite (fun c_1 => ?_) (fun c_1 => ?_)
  · exact ⟨h_M, (inr_c rfl)⟩
  · refine pl_ite (fun c_2 => ?_) (fun c_2 => ?_)
    · exact (sf_Past_takeBack_L53  h_M  )
    · refine pl_ite (fun c_3 => ?_) (fun c_3 => ?_)
      · exact (sf_Past_takeBack_L53  h_M  )
      · refine pl_let (fun q11 e_q11 => ?_)
        have h_q11 : (fun r => IM r) q11 := by rw [e_q11]; exact (sf_Scene_copy  h_M  )
        clear e_q11
        exact (sf_Past_takeBack_L53  h_q11  )
theorem sf_WF_undo  {M : Mem} (h_M : IM M)  : (fun r => IM r.1 ∧ InR r.2) (t_WF_undo M) := by
  show Pl (fun r => IM r.1 ∧ InR r.2) (t_WF_undo M)
  unfold t_WF_undo
  refine pl_let (fun q1 e_q1 => ?_)
  have h_q1 : (fun r => IM r.1 ∧ InR r.2) q1 := by rw [e_q1]; exact (sf_Past_takeBack  h_M  )
  clear e_q1
  refine pl_ite (fun c_1 => ?_) (fun c_1 => ?_)
  · exact ⟨h_q1.1, (inr_c rfl)⟩
  · refine pl_let (fun M4 e_M4 => ?_)
    have h_M4 : IM M4 := by rw [e_M4]; exact IM.setI h_q1.1 (inr_c rfl)
    clear e_M4
    exact ⟨h_M4, (h_M4 _ _)⟩
theorem sf_Chronicle_copy {k0 : Nat} {k1 : Nat} {M : Mem} (h_M : IM M)  : (fun r => IM r) (t_Chronicle_copy M k0 k1) := by
  show Pl (fun r => IM r) (t_Chronicle_copy M k0 k1)
  unfold t_Chronicle_copy
  refine pl_let (fun q1 e_q1 => ?_)
  have h_q1 : (fun r => IM r) q1 := by rw [e_q1]; exact (sf_WF_copyRow  h_M  )
  clear e_q1
  refine pl_let (fun q3 e_q3 => ?_)
  have h_q3 : (fun r => IM r) q3 := by rw [e_q3]; exact (sf_WF_copyRow  h_q1  )
  clear e_q3
  refine pl_let (fun q5 e_q5 => ?_)
  have h_q5 : (fun r => IM r) q5 := by rw [e_q5]; exact (sf_WF_copyRow  h_q3  )
  clear e_q5
  refine pl_let (fun M8 e_M8 => ?_)
  have h_M8 : IM M8 := by rw [e_M8]; exact IM.setI h_q5 (h_q5 _ _)
  clear e_M8
  refine pl_let (fun M10 e_M10 => ?_)
  have h_M10 : IM M10 := by rw [e_M10]; exact IM.setI h_M8 (h_M8 _ _)
  clear e_M10
  refine pl_let (fun M11 e_M11 => ?_)
  have h_M11 : IM M11 := by rw [e_M11]; exact IM.setL h_M10
  clear e_M11
  exact h_M11
theorem sf_WF_keep  {M : Mem} (h_M : IM M)  : (fun r => IM r.1 ∧ InR r.2) (t_WF_keep M) := by
  show Pl (fun r => IM r.1 ∧ InR r.2) (t_WF_keep M)
  unfold t_WF_keep
  refine pl_let (fun q1 e_q1 => ?_)
  have h_q1 : (fun r => IM r) q1 := by rw [e_q1]; exact (sf_Scene_copy  h_M  )
  clear e_q1
  refine pl_let (fun q3 e_q3 => ?_)
  have h_q3 : (fun r => IM r) q3 := by rw [e_q3]; exact (sf_Chronicle_copy  h_q1  )
  clear e_q3
  refine pl_let (fun M5 e_M5 => ?_)
  have h_M5 : IM M5 := by rw [e_M5]; exact IM.setI h_q3 (inr_c rfl)
  clear e_M5
  exact ⟨h_M5, (h_M5 _ _)⟩
theorem sf_WF_back  {M : Mem} (h_M : IM M)  : (fun r => IM r.1 ∧ InR r.2) (t_WF_back M) := by
  show Pl (fun r => IM r.1 ∧ InR r.2) (t_WF_back M)
  unfold t_WF_back
  refine pl_ite (fun c_1 => ?_) (fun c_1 => ?_)
  · exact ⟨h_M, (inr_c rfl)⟩
  · refine pl_let (fun q3 e_q3 => ?_)
    have h_q3 : (fun r => IM r) q3 := by rw [e_q3]; exact (sf_Scene_copy  h_M  )
    clear e_q3
    refine pl_let (fun q5 e_q5 => ?_)
    have h_q5 : (fun r => IM r) q5 := by rw [e_q5]; exact (sf_Chronicle_copy  h_q3  )
    clear e_q5
    refine pl_let (fun q7 e_q7 => ?_)
    have h_q7 : (fun r => IM r) q7 := by rw [e_q7]; exact (sf_Past_clear  h_q5  )
    clear e_q7
    refine pl_let (fun M9 e_M9 => ?_)
    have h_M9 : IM M9 := by rw [e_M9]; exact IM.setI h_q7 (inr_c rfl)
    clear e_M9
    exact ⟨h_M9, (h_M9 _ _)⟩
theorem sf_Scene_thingsToGo_L31 {k0 : Nat} {k1 : Nat} {bk4 : Mem → Int → Int → Option (Int)} {v2_ : Int} {v3_ : Int} {M : Mem} {c_bk4 : Int} (hbk4 : ∀ (a0_ : Mem) (a1_ : Int) (a2_ : Int), IM a0_ → InR a1_ → InR a2_ → c_bk4 < a2_ → Ok (fun r => InR r) (bk4 a0_ a1_ a2_)) (h_M : IM M) (h_v2_ : InR v2_) (h_v3_ : InR v3_) (g_0 : c_bk4 ≤ v3_ ∧ v3_ ≤ 2147483646) : Ok (fun r => InR r) (t_Scene_thingsToGo_L31 k0 k1 bk4 M v2_ v3_) := by
  unfold t_Scene_thingsToGo_L31
  have r_v3_ : -2147483648 ≤ v3_ ∧ v3_ ≤ 2147483647 := h_v3_
  have w_1 : (w32 (v3_ + 1)) = v3_ + (1) := w32_id (by unfold InR; omega)
  exact hbk4 _ _ _  h_M h_v2_ (inr_w32 _) (by omega)
theorem sf_Scene_thingsToGo_L4 {k0 : Nat} {k1 : Nat}    : ∀ (fu : Nat) (M : Mem) (v2_ : Int) (v3_ : Int), IM M → InR v2_ → InR v3_ → 2147483648 - v3_ < (fu : Int) → Ok (fun r => InR r) (t_Scene_thingsToGo_L4 k0 k1 fu M v2_ v3_) := by
  intro fu
  induction fu with
  | zero => intro M v2_ v3_ h_M h_v2_ h_v3_ hf; have r_ := (h_v3_ : InR v3_); unfold InR at r_; exact absurd hf (by omega)
  | succ fu ih =>
    intro M v2_ v3_ h_M h_v2_ h_v3_ hf
    rw [t_Scene_thingsToGo_L4]
    have r_v3_ : -2147483648 ≤ v3_ ∧ v3_ ≤ 2147483647 := h_v3_
    refine ok_ite (fun c_1 => ?_) (fun c_1 => ?_)
    · exact ok_some h_v2_
    · have f_2 : v3_ ≤ 2147483646 := by have b_ : (M.1 k1 15) ≤ 2147483647 := ((h_M _ _)).2; omega
      refine ok_let (fun q3 e_q3 => ?_)
      have h_q3 : (fun r => InR r) q3 := by rw [e_q3]; exact (sf_WF_look  h_M h_v3_ )
      clear e_q3
      refine ok_let (fun q5 e_q5 => ?_)
      have h_q5 : (fun r => InR r) q5 := by rw [e_q5]; exact (sf_Scene_nextOf  h_M h_q3 )
      clear e_q5
      refine ok_ite (fun c_3 => ?_) (fun c_3 => ?_)
      · exact (sf_Scene_thingsToGo_L31 (c_bk4 := v3_) (fun a0_ a1_ a2_ h0_ h1_ h2_ z_ => ih a0_ a1_ a2_ h0_ h1_ h2_ (by omega)) h_M h_v2_ h_v3_ (by omega))
      · exact (sf_Scene_thingsToGo_L31 (c_bk4 := v3_) (fun a0_ a1_ a2_ h0_ h1_ h2_ z_ => ih a0_ a1_ a2_ h0_ h1_ h2_ (by omega)) h_M (inr_w32 _) h_v3_ (by omega))
theorem sf_Scene_thingsToGo {k0 : Nat} {k1 : Nat} {M : Mem}   (h_M : IM M)   : Ok (fun r => InR r) (t_Scene_thingsToGo M k0 k1) := by
  unfold t_Scene_thingsToGo
  exact (sf_Scene_thingsToGo_L4   _ _ _ _ h_M (inr_c rfl) (inr_c rfl) (fu_up (inr_c rfl)))
theorem sf_WF_count {x1 : Int} {M : Mem}   (h_M : IM M) (h_x1 : InR x1)  : Ok (fun r => InR r) (t_WF_count M x1) := by
  unfold t_WF_count
  refine ok_ite (fun c_1 => ?_) (fun c_1 => ?_)
  · exact ok_some (h_M _ _)
  · refine ok_ite (fun c_2 => ?_) (fun c_2 => ?_)
    · exact ok_some (h_M _ _)
    · refine ok_ite (fun c_3 => ?_) (fun c_3 => ?_)
      · exact ok_some (h_M _ _)
      · refine ok_ite (fun c_4 => ?_) (fun c_4 => ?_)
        · exact ok_some (h_M _ _)
        · refine ok_ite (fun c_5 => ?_) (fun c_5 => ?_)
          · exact ok_some (h_M _ _)
          · refine ok_ite (fun c_6 => ?_) (fun c_6 => ?_)
            · exact ok_some (h_M _ _)
            · refine ok_ite (fun c_7 => ?_) (fun c_7 => ?_)
              · exact ok_some (h_M _ _)
              · refine ok_ite (fun c_8 => ?_) (fun c_8 => ?_)
                · exact ok_some (h_M _ _)
                · refine ok_ite (fun c_9 => ?_) (fun c_9 => ?_)
                  · refine ok_let (fun q23 e_q23 => ?_)
                    have h_q23 : (fun r => InR r) q23 := by rw [e_q23]; exact (sf_Notes_knownBy  h_M  )
                    clear e_q23
                    exact ok_some h_q23
                  · refine ok_ite (fun c_10 => ?_) (fun c_10 => ?_)
                    · exact ok_some (h_M _ _)
                    · refine ok_ite (fun c_11 => ?_) (fun c_11 => ?_)
                      · refine ok_let (fun q28 e_q28 => ?_)
                        have h_q28 : (fun r => InR r) q28 := by rw [e_q28]; exact (sf_Long_bitCount  h_M  )
                        clear e_q28
                        exact ok_some h_q28
                      · refine ok_ite (fun c_12 => ?_) (fun c_12 => ?_)
                        · refine ok_let (fun q31 e_q31 => ?_)
                          have h_q31 : (fun r => InR r) q31 := by rw [e_q31]; exact (sf_Long_bitCount  h_M  )
                          clear e_q31
                          exact ok_some h_q31
                        · refine ok_ite (fun c_13 => ?_) (fun c_13 => ?_)
                          · refine ok_bind (Q := fun r => InR r) (sf_Scene_thingsToGo  h_M  ) (fun q35 h_q35 => ?_)
                            exact ok_some h_q35
                          · exact ok_some (inr_c rfl)
theorem sf_WF_init  {M : Mem}   (h_M : IM M)   : Ok (fun r => IM r) (t_WF_init M) := by
  unfold t_WF_init
  refine ok_let (fun M1 e_M1 => ?_)
  have h_M1 : IM M1 := by rw [e_M1]; exact IM.setI h_M (inr_c rfl)
  clear e_M1
  refine ok_bind (Q := fun r => IM r) (sf_Town_clear  h_M1  ) (fun q502 h_q502 => ?_)
  refine ok_bind (Q := fun r => IM r) (sf_Town_settle  h_q502  ) (fun q505 h_q505 => ?_)
  refine ok_bind (Q := fun r => IM r) (sf_WF_startAnew  h_q505  ) (fun q507 h_q507 => ?_)
  exact ok_some h_q507
theorem sf_WF_cell {x1 : Int} {x2 : Int} {M : Mem}   (h_M : IM M) (h_x1 : InR x1) (h_x2 : InR x2)  : Ok (fun r => InR r.1 ∧ InR r.2) (t_WF_cell M x1 x2) := by
  unfold t_WF_cell
  refine ok_let (fun q2 e_q2 => ?_)
  have h_q2 : (fun r => InR r) q2 := by rw [e_q2]; exact (sf_Town_hasCell  h_M h_x1 )
  clear e_q2
  refine ok_ite (fun c_1 => ?_) (fun c_1 => ?_)
  · exact ok_some ⟨(inr_c rfl), (inr_c rfl)⟩
  · refine ok_ite (fun c_2 => ?_) (fun c_2 => ?_)
    · refine ok_let (fun q7 e_q7 => ?_)
      have h_q7 : (fun r => InR r) q7 := by rw [e_q7]; exact (sf_Town_ownerOf  h_M h_x1 )
      clear e_q7
      exact ok_some ⟨(inr_c rfl), h_q7⟩
    · refine ok_ite (fun c_3 => ?_) (fun c_3 => ?_)
      · refine ok_let (fun q10 e_q10 => ?_)
        have h_q10 : (fun r => InR r) q10 := by rw [e_q10]; exact (sf_WF_bitOf  h_M h_x1 )
        clear e_q10
        exact ok_some ⟨(inr_c rfl), h_q10⟩
      · refine ok_ite (fun c_4 => ?_) (fun c_4 => ?_)
        · refine ok_let (fun q14 e_q14 => ?_)
          have h_q14 : (fun r => InR r) q14 := by rw [e_q14]; exact (sf_WF_bitOf  h_M h_x1 )
          clear e_q14
          exact ok_some ⟨(inr_c rfl), h_q14⟩
        · refine ok_ite (fun c_5 => ?_) (fun c_5 => ?_)
          · refine ok_let (fun q17 e_q17 => ?_)
            have h_q17 : (fun r => InR r) q17 := by rw [e_q17]; exact (sf_WF_bitOf  h_M h_x1 )
            clear e_q17
            exact ok_some ⟨(inr_c rfl), h_q17⟩
          · refine ok_ite (fun c_6 => ?_) (fun c_6 => ?_)
            · refine ok_let (fun q20 e_q20 => ?_)
              have h_q20 : (fun r => InR r) q20 := by rw [e_q20]; exact (sf_WF_bitOf  h_M h_x1 )
              clear e_q20
              exact ok_some ⟨(inr_c rfl), h_q20⟩
            · refine ok_ite (fun c_7 => ?_) (fun c_7 => ?_)
              · refine ok_bind (Q := fun r => InR r) (sf_Scene_thingIn  h_M h_x1 ) (fun q24 h_q24 => ?_)
                exact ok_some ⟨(inr_c rfl), h_q24⟩
              · refine ok_ite (fun c_8 => ?_) (fun c_8 => ?_)
                · refine ok_let (fun q28 e_q28 => ?_)
                  have h_q28 : (fun r => InR r) q28 := by rw [e_q28]; exact (sf_Scene_nextOf  h_M h_x1 )
                  clear e_q28
                  exact ok_some ⟨(inr_c rfl), h_q28⟩
                · refine ok_ite (fun c_9 => ?_) (fun c_9 => ?_)
                  · refine ok_let (fun q32 e_q32 => ?_)
                    have h_q32 : (fun r => InR r) q32 := by rw [e_q32]; exact (sf_Scene_standsIn  h_M h_x1 )
                    clear e_q32
                    refine ok_ite (fun c_10 => ?_) (fun c_10 => ?_)
                    · exact ok_some ⟨(inr_c rfl), (inr_c rfl)⟩
                    · exact ok_some ⟨(inr_c rfl), (inr_c rfl)⟩
                  · exact ok_some ⟨(inr_c rfl), (inr_c rfl)⟩
