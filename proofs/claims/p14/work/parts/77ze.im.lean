/-! ints in range: the reference -/
theorem im_MO_count {x1 : Int} {M : Mem}  (h_M : IM M) (h_x1 : InR x1) : Post (fun r => IM r.1 ∧ InR r.2) (t_MO_count M x1) := by
  unfold t_MO_count
  refine post_let (fun M1 e_M1 => ?_)
  have h_M1 : IM M1 := by rw [e_M1]; exact IM.setI h_M (inr_c rfl)
  clear e_M1
  refine post_ite (fun c_1 => ?_) (fun c_1 => ?_)
  · exact post_some ⟨h_M1, (h_M1 _ _)⟩
  · refine post_ite (fun c_2 => ?_) (fun c_2 => ?_)
    · exact post_some ⟨h_M1, (h_M1 _ _)⟩
    · refine post_ite (fun c_3 => ?_) (fun c_3 => ?_)
      · exact post_some ⟨h_M1, (h_M1 _ _)⟩
      · refine post_ite (fun c_4 => ?_) (fun c_4 => ?_)
        · exact post_some ⟨h_M1, (h_M1 _ _)⟩
        · refine post_ite (fun c_5 => ?_) (fun c_5 => ?_)
          · exact post_some ⟨h_M1, (h_M1 _ _)⟩
          · refine post_ite (fun c_6 => ?_) (fun c_6 => ?_)
            · exact post_some ⟨h_M1, (h_M1 _ _)⟩
            · refine post_ite (fun c_7 => ?_) (fun c_7 => ?_)
              · exact post_some ⟨h_M1, (h_M1 _ _)⟩
              · refine post_ite (fun c_8 => ?_) (fun c_8 => ?_)
                · exact post_some ⟨h_M1, (h_M1 _ _)⟩
                · refine post_ite (fun c_9 => ?_) (fun c_9 => ?_)
                  · refine post_let (fun q19 e_q19 => ?_)
                    have h_q19 : (fun r => InR r) q19 := by rw [e_q19]; exact (im_MO_knownMany  h_M1 )
                    clear e_q19
                    exact post_some ⟨h_M1, h_q19⟩
                  · refine post_ite (fun c_10 => ?_) (fun c_10 => ?_)
                    · exact post_some ⟨h_M1, (h_M1 _ _)⟩
                    · refine post_ite (fun c_11 => ?_) (fun c_11 => ?_)
                      · refine post_bind (Q := fun r => InR r) (im_MO_bitsOf  h_M1 ) (fun q24 h_q24 => ?_)
                        exact post_some ⟨h_M1, h_q24⟩
                      · refine post_ite (fun c_12 => ?_) (fun c_12 => ?_)
                        · refine post_bind (Q := fun r => InR r) (im_MO_bitsOf  h_M1 ) (fun q27 h_q27 => ?_)
                          exact post_some ⟨h_M1, h_q27⟩
                        · refine post_ite (fun c_13 => ?_) (fun c_13 => ?_)
                          · exact (im_MO_count_L164  h_x1 _ _ _ _ h_M1 (inr_c rfl) (inr_c rfl))
                          · exact post_some ⟨h_M1, (inr_c rfl)⟩
theorem im_MO_init  {M : Mem}  (h_M : IM M)  : Post (fun r => IM r) (t_MO_init M) := by
  unfold t_MO_init
  refine post_let (fun M1 e_M1 => ?_)
  have h_M1 : IM M1 := by rw [e_M1]; exact IM.setI h_M (inr_c rfl)
  clear e_M1
  refine post_let (fun M2 e_M2 => ?_)
  have h_M2 : IM M2 := by rw [e_M2]; exact IM.setI h_M1 (inr_c rfl)
  clear e_M2
  refine post_let (fun M3 e_M3 => ?_)
  have h_M3 : IM M3 := by rw [e_M3]; exact IM.setI h_M2 (inr_c rfl)
  clear e_M3
  refine post_let (fun M4 e_M4 => ?_)
  have h_M4 : IM M4 := by rw [e_M4]; exact IM.setI h_M3 (inr_c rfl)
  clear e_M4
  refine post_let (fun M5 e_M5 => ?_)
  have h_M5 : IM M5 := by rw [e_M5]; exact IM.setI h_M4 (inr_c rfl)
  clear e_M5
  refine post_let (fun M6 e_M6 => ?_)
  have h_M6 : IM M6 := by rw [e_M6]; exact IM.setI h_M5 (inr_c rfl)
  clear e_M6
  refine post_let (fun M7 e_M7 => ?_)
  have h_M7 : IM M7 := by rw [e_M7]; exact IM.setI h_M6 (inr_c rfl)
  clear e_M7
  refine post_let (fun M8 e_M8 => ?_)
  have h_M8 : IM M8 := by rw [e_M8]; exact IM.setI h_M7 (inr_c rfl)
  clear e_M8
  refine post_let (fun M9 e_M9 => ?_)
  have h_M9 : IM M9 := by rw [e_M9]; exact IM.setI h_M8 (inr_c rfl)
  clear e_M9
  refine post_let (fun M10 e_M10 => ?_)
  have h_M10 : IM M10 := by rw [e_M10]; exact IM.setI h_M9 (inr_c rfl)
  clear e_M10
  refine post_let (fun M11 e_M11 => ?_)
  have h_M11 : IM M11 := by rw [e_M11]; exact IM.setI h_M10 (inr_c rfl)
  clear e_M11
  refine post_let (fun M12 e_M12 => ?_)
  have h_M12 : IM M12 := by rw [e_M12]; exact IM.setI h_M11 (inr_c rfl)
  clear e_M12
  refine post_let (fun M13 e_M13 => ?_)
  have h_M13 : IM M13 := by rw [e_M13]; exact IM.setI h_M12 (inr_c rfl)
  clear e_M13
  refine post_let (fun M14 e_M14 => ?_)
  have h_M14 : IM M14 := by rw [e_M14]; exact IM.setI h_M13 (inr_c rfl)
  clear e_M14
  refine post_let (fun M15 e_M15 => ?_)
  have h_M15 : IM M15 := by rw [e_M15]; exact IM.setI h_M14 (inr_c rfl)
  clear e_M15
  refine post_let (fun M16 e_M16 => ?_)
  have h_M16 : IM M16 := by rw [e_M16]; exact IM.setI h_M15 (inr_c rfl)
  clear e_M16
  refine post_let (fun M17 e_M17 => ?_)
  have h_M17 : IM M17 := by rw [e_M17]; exact IM.setI h_M16 (inr_c rfl)
  clear e_M17
  refine post_let (fun M18 e_M18 => ?_)
  have h_M18 : IM M18 := by rw [e_M18]; exact IM.setI h_M17 (inr_c rfl)
  clear e_M18
  refine post_let (fun M19 e_M19 => ?_)
  have h_M19 : IM M19 := by rw [e_M19]; exact IM.setI h_M18 (inr_c rfl)
  clear e_M19
  refine post_let (fun M20 e_M20 => ?_)
  have h_M20 : IM M20 := by rw [e_M20]; exact IM.setI h_M19 (inr_c rfl)
  clear e_M20
  refine post_let (fun M21 e_M21 => ?_)
  have h_M21 : IM M21 := by rw [e_M21]; exact IM.setI h_M20 (inr_c rfl)
  clear e_M21
  refine post_let (fun M22 e_M22 => ?_)
  have h_M22 : IM M22 := by rw [e_M22]; exact IM.setI h_M21 (inr_c rfl)
  clear e_M22
  refine post_bind (Q := fun r => IM r) (im_MO_begins  h_M22 ) (fun q501 h_q501 => ?_)
  exact post_some h_q501
