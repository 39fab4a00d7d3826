section
/-! ints in range: the reference -/
theorem im_MO_negation_B {rc : Nat → Mem → Option Mem} {M : Mem} (hrc : ∀ (i_ : Nat) (M_ : Mem), IM M_ → Post (fun r => IM r) (rc i_ M_)) (h_M : IM M)  : Post (fun r => IM r) (t_MO_negation_B M rc) := by
  unfold t_MO_negation_B
  refine post_let (fun q1 e_q1 => ?_)
  have h_q1 : (fun r => InR r) q1 := by rw [e_q1]; exact (im_MO_isWord  h_M (inr_c rfl))
  clear e_q1
  refine post_ite (fun c_1 => ?_) (fun c_1 => ?_)
  · refine post_bind (Q := fun r => IM r) (hrc _ _ h_M) (fun q4 h_q4 => ?_)
    refine post_ite (fun c_2 => ?_) (fun c_2 => ?_)
    · refine post_ite (fun c_3 => ?_) (fun c_3 => ?_)
      · refine post_ite (fun c_4 => ?_) (fun c_4 => ?_)
        · exact (im_MO_negation_L87 hrc h_q4 )
        · refine post_ite (fun c_5 => ?_) (fun c_5 => ?_)
          · exact (im_MO_negation_L87 hrc h_q4 )
          · refine post_ite (fun c_6 => ?_) (fun c_6 => ?_)
            · exact (im_MO_negation_L87 hrc h_q4 )
            · refine post_ite (fun c_7 => ?_) (fun c_7 => ?_)
              · exact (im_MO_negation_L87 hrc h_q4 )
              · exact post_some h_q4
      · exact post_some h_q4
    · exact post_some h_q4
  · refine post_let (fun q18 e_q18 => ?_)
    have h_q18 : (fun r => IM r) q18 := by rw [e_q18]; exact (im_MO_knot  h_M )
    clear e_q18
    refine post_bind (Q := fun r => IM r) (im_MO_goOn  h_q18 ) (fun q20 h_q20 => ?_)
    refine post_bind (Q := fun r => IM r) (hrc _ _ h_q20) (fun q22 h_q22 => ?_)
    refine post_bind (Q := fun r => IM r) (im_MO_puts  h_q22 (inr_c rfl) (inr_c rfl)) (fun q24 h_q24 => ?_)
    exact post_some h_q24
theorem im_MO_conjunction_L4 {rc : Nat → Mem → Option Mem} (hrc : ∀ (i_ : Nat) (M_ : Mem), IM M_ → Post (fun r => IM r) (rc i_ M_))  : ∀ (fu : Nat) (M : Mem) , IM M → Post (fun r => IM r) (t_MO_conjunction_L4 rc fu M ) := by
  intro fu
  induction fu with
  | zero => intro M  h_M; exact post_none
  | succ fu ih =>
    intro M  h_M
    rw [t_MO_conjunction_L4]
    refine post_let (fun q3 e_q3 => ?_)
    have h_q3 : (fun r => InR r) q3 := by rw [e_q3]; exact (im_MO_isWord  h_M (inr_c rfl))
    clear e_q3
    refine post_ite (fun c_1 => ?_) (fun c_1 => ?_)
    · exact post_some h_M
    · refine post_let (fun q6 e_q6 => ?_)
      have h_q6 : (fun r => IM r) q6 := by rw [e_q6]; exact (im_MO_knot  h_M )
      clear e_q6
      refine post_bind (Q := fun r => IM r) (im_MO_goOn  h_q6 ) (fun q8 h_q8 => ?_)
      refine post_bind (Q := fun r => IM r) (hrc _ _ h_q8) (fun q10 h_q10 => ?_)
      refine post_bind (Q := fun r => IM r) (im_MO_puts  h_q10 (inr_c rfl) (inr_c rfl)) (fun q12 h_q12 => ?_)
      exact (ih _ h_q12 )
theorem im_MO_conjunction_B {rc : Nat → Mem → Option Mem} {M : Mem} (hrc : ∀ (i_ : Nat) (M_ : Mem), IM M_ → Post (fun r => IM r) (rc i_ M_)) (h_M : IM M)  : Post (fun r => IM r) (t_MO_conjunction_B M rc) := by
  unfold t_MO_conjunction_B
  refine post_bind (Q := fun r => IM r) (hrc _ _ h_M) (fun q1 h_q1 => ?_)
  exact (im_MO_conjunction_L4 hrc  _ _ h_q1 )
theorem im_MO_expression_L4 {rc : Nat → Mem → Option Mem} (hrc : ∀ (i_ : Nat) (M_ : Mem), IM M_ → Post (fun r => IM r) (rc i_ M_))  : ∀ (fu : Nat) (M : Mem) , IM M → Post (fun r => IM r) (t_MO_expression_L4 rc fu M ) := by
  intro fu
  induction fu with
  | zero => intro M  h_M; exact post_none
  | succ fu ih =>
    intro M  h_M
    rw [t_MO_expression_L4]
    refine post_let (fun q3 e_q3 => ?_)
    have h_q3 : (fun r => InR r) q3 := by rw [e_q3]; exact (im_MO_isWord  h_M (inr_c rfl))
    clear e_q3
    refine post_ite (fun c_1 => ?_) (fun c_1 => ?_)
    · exact post_some h_M
    · refine post_let (fun q6 e_q6 => ?_)
      have h_q6 : (fun r => IM r) q6 := by rw [e_q6]; exact (im_MO_knot  h_M )
      clear e_q6
      refine post_bind (Q := fun r => IM r) (im_MO_goOn  h_q6 ) (fun q8 h_q8 => ?_)
      refine post_bind (Q := fun r => IM r) (hrc _ _ h_q8) (fun q10 h_q10 => ?_)
      refine post_bind (Q := fun r => IM r) (im_MO_puts  h_q10 (inr_c rfl) (inr_c rfl)) (fun q12 h_q12 => ?_)
      exact (ih _ h_q12 )
theorem im_MO_expression_B {rc : Nat → Mem → Option Mem} {M : Mem} (hrc : ∀ (i_ : Nat) (M_ : Mem), IM M_ → Post (fun r => IM r) (rc i_ M_)) (h_M : IM M)  : Post (fun r => IM r) (t_MO_expression_B M rc) := by
  unfold t_MO_expression_B
  refine post_bind (Q := fun r => IM r) (hrc _ _ h_M) (fun q1 h_q1 => ?_)
  exact (im_MO_expression_L4 hrc  _ _ h_q1 )
theorem im_MO_G : ∀ (d i : Nat) (M : Mem), IM M → Post (fun r => IM r) (t_MO_G d i M) := by
  intro d
  induction d with
  | zero => intro i M h; exact post_none
  | succ d ih =>
    intro i M h
    rw [t_MO_G]
    refine post_ite (fun _ => ?_) (fun _ => ?_)
    · exact im_MO_expression_B (fun i_ M_ h9 => ih i_ M_ h9) h
    refine post_ite (fun _ => ?_) (fun _ => ?_)
    · exact im_MO_conjunction_B (fun i_ M_ h9 => ih i_ M_ h9) h
    refine post_ite (fun _ => ?_) (fun _ => ?_)
    · exact im_MO_negation_B (fun i_ M_ h9 => ih i_ M_ h9) h
    refine post_ite (fun _ => ?_) (fun _ => ?_)
    · exact im_MO_sum_B (fun i_ M_ h9 => ih i_ M_ h9) h
    refine post_ite (fun _ => ?_) (fun _ => ?_)
    · exact im_MO_product_B (fun i_ M_ h9 => ih i_ M_ h9) h
    refine post_ite (fun _ => ?_) (fun _ => ?_)
    · exact im_MO_primary_B (fun i_ M_ h9 => ih i_ M_ h9) h
    exact post_none
theorem im_MO_expression {M : Mem} (h : IM M) : Post (fun r => IM r) (t_MO_expression M) := im_MO_G 200 0 M h
theorem im_MO_conjunction {M : Mem} (h : IM M) : Post (fun r => IM r) (t_MO_conjunction M) := im_MO_G 200 1 M h
theorem im_MO_negation {M : Mem} (h : IM M) : Post (fun r => IM r) (t_MO_negation M) := im_MO_G 200 2 M h
theorem im_MO_sum {M : Mem} (h : IM M) : Post (fun r => IM r) (t_MO_sum M) := im_MO_G 200 3 M h
theorem im_MO_product {M : Mem} (h : IM M) : Post (fun r => IM r) (t_MO_product M) := im_MO_G 200 4 M h
theorem im_MO_primary {M : Mem} (h : IM M) : Post (fun r => IM r) (t_MO_primary M) := im_MO_G 200 5 M h
theorem im_MO_lawLine_L61 {v1_ : Int} {M : Mem}  (h_M : IM M) (h_v1_ : InR v1_) : Post (fun r => IM r) (t_MO_lawLine_L61 M v1_) := by
  unfold t_MO_lawLine_L61
  refine post_ite (fun c_1 => ?_) (fun c_1 => ?_)
  · refine post_let (fun M20 e_M20 => ?_)
    have h_M20 : IM M20 := by rw [e_M20]; exact IM.setI h_M (inrq_or)
    clear e_M20
    refine post_bind (Q := fun r => IM r) (im_MO_token  h_M20 ) (fun q21 h_q21 => ?_)
    refine post_bind (Q := fun r => InR r) (im_MO_fresher  h_q21 (inr_c rfl)) (fun q23 h_q23 => ?_)
    refine post_guard (fun c_2 => ?_)
    refine post_let (fun M26 e_M26 => ?_)
    have h_M26 : IM M26 := by rw [e_M26]; exact IM.setI h_q21 h_q23
    clear e_M26
    refine post_bind (Q := fun r => IM r) (im_MO_expression  h_M26 ) (fun q27 h_q27 => ?_)
    refine post_bind (Q := fun r => InR r) (im_MO_fresher  h_q27 (inr_c rfl)) (fun q29 h_q29 => ?_)
    refine post_guard (fun c_3 => ?_)
    refine post_let (fun M32 e_M32 => ?_)
    have h_M32 : IM M32 := by rw [e_M32]; exact IM.setI h_q27 h_q29
    clear e_M32
    exact post_some h_M32
  · exact post_some h_M
theorem im_MO_lawLine_L30  {M : Mem}  (h_M : IM M)  : Post (fun r => IM r) (t_MO_lawLine_L30 M) := by
  unfold t_MO_lawLine_L30
  refine post_ite (fun c_1 => ?_) (fun c_1 => ?_)
  · refine post_let (fun q12 e_q12 => ?_)
    have h_q12 : (fun r => InR r) q12 := by rw [e_q12]; exact (im_MO_isTold  h_M (inr_w32 _))
    clear e_q12
    refine post_ite (fun c_2 => ?_) (fun c_2 => ?_)
    · exact (im_MO_lawLine_L61  h_M (inr_w32 _))
    · refine post_let (fun q15 e_q15 => ?_)
      have h_q15 : (fun r => IM r) q15 := by rw [e_q15]; exact (im_MO_wrong  h_M (inr_c rfl))
      clear e_q15
      exact (im_MO_lawLine_L61  h_q15 (inr_w32 _))
  · exact (im_MO_lawLine_L61  h_M (inr_w32 _))
theorem im_MO_lawLine_L25  {M : Mem}  (h_M : IM M)  : Post (fun r => IM r) (t_MO_lawLine_L25 M) := by
  unfold t_MO_lawLine_L25
  refine post_let (fun q7 e_q7 => ?_)
  have h_q7 : (fun r => IM r) q7 := by rw [e_q7]; exact (im_MO_wrong  h_M (inr_c rfl))
  clear e_q7
  exact (im_MO_lawLine_L30  h_q7 )
theorem im_MO_lawLine  {M : Mem}  (h_M : IM M)  : Post (fun r => IM r) (t_MO_lawLine M) := by
  unfold t_MO_lawLine
  refine post_ite (fun c_1 => ?_) (fun c_1 => ?_)
  · refine post_ite (fun c_2 => ?_) (fun c_2 => ?_)
    · exact (im_MO_lawLine_L30  h_M )
    · refine post_ite (fun c_3 => ?_) (fun c_3 => ?_)
      · exact (im_MO_lawLine_L30  h_M )
      · exact (im_MO_lawLine_L25  h_M )
  · exact (im_MO_lawLine_L25  h_M )
theorem im_MO_line_L16  {M : Mem}  (h_M : IM M)  : Post (fun r => IM r) (t_MO_line_L16 M) := by
  unfold t_MO_line_L16
  refine post_let (fun q13 e_q13 => ?_)
  have h_q13 : (fun r => IM r) q13 := by rw [e_q13]; exact (im_MO_wrong  h_M (inr_c rfl))
  clear e_q13
  exact post_some h_q13
theorem im_MO_line_L303  {M : Mem}  (h_M : IM M)  : Post (fun r => IM r) (t_MO_line_L303 M) := by
  unfold t_MO_line_L303
  refine post_let (fun M86 e_M86 => ?_)
  have h_M86 : IM M86 := by rw [e_M86]; exact IM.setI h_M (inr_w32 _)
  clear e_M86
  exact post_some h_M86
theorem im_MO_line_L274  {M : Mem}  (h_M : IM M)  : Post (fun r => IM r) (t_MO_line_L274 M) := by
  unfold t_MO_line_L274
  refine post_ite (fun c_1 => ?_) (fun c_1 => ?_)
  · refine post_let (fun q78 e_q78 => ?_)
    have h_q78 : (fun r => InR r) q78 := by rw [e_q78]; exact (im_MO_isSign  h_M (inr_c rfl))
    clear e_q78
    refine post_ite (fun c_2 => ?_) (fun c_2 => ?_)
    · refine post_let (fun q83 e_q83 => ?_)
      have h_q83 : (fun r => IM r) q83 := by rw [e_q83]; exact (im_MO_wrong  h_M (inr_c rfl))
      clear e_q83
      exact (im_MO_line_L303  h_q83 )
    · refine post_bind (Q := fun r => IM r) (im_MO_token  h_M ) (fun q81 h_q81 => ?_)
      exact (im_MO_line_L303  h_q81 )
  · exact post_some h_M
theorem im_MO_line_L110 {v1_ : Int} {M : Mem}  (h_M : IM M) (h_v1_ : InR v1_) : Post (fun r => IM r) (t_MO_line_L110 M v1_) := by
  unfold t_MO_line_L110
  refine post_ite (fun c_1 => ?_) (fun c_1 => ?_)
  · refine post_let (fun M36 e_M36 => ?_)
    have h_M36 : IM M36 := by rw [e_M36]; exact IM.setI h_M (inrq_or)
    clear e_M36
    refine post_bind (Q := fun r => IM r) (im_MO_token  h_M36 ) (fun q37 h_q37 => ?_)
    refine post_ite (fun c_2 => ?_) (fun c_2 => ?_)
    · refine post_bind (Q := fun r => IM r.1 ∧ InR r.2) (im_MO_numeral  h_q37 (inr_c rfl) (inr_c rfl)) (fun q40 h_q40 => ?_)
      refine post_bind (Q := fun r => IM r) (im_MO_reads  h_q40.1 (inr_c rfl) h_q40.2) (fun q42 h_q42 => ?_)
      refine post_bind (Q := fun r => IM r.1 ∧ InR r.2) (im_MO_numeral  h_q42 (inr_c rfl) (inr_c rfl)) (fun q44 h_q44 => ?_)
      refine post_bind (Q := fun r => IM r) (im_MO_reads  h_q44.1 (inr_c rfl) h_q44.2) (fun q46 h_q46 => ?_)
      exact (im_MO_line_L274  h_q46 )
    · refine post_ite (fun c_3 => ?_) (fun c_3 => ?_)
      · refine post_bind (Q := fun r => InR r) (im_MO_fresher  h_q37 (inr_c rfl)) (fun q49 h_q49 => ?_)
        refine post_bind (Q := fun r => IM r) (im_MO_wardLine  h_q37 (inr_w32 _)) (fun q51 h_q51 => ?_)
        exact (im_MO_line_L274  h_q51 )
      · refine post_ite (fun c_4 => ?_) (fun c_4 => ?_)
        · refine post_bind (Q := fun r => IM r) (im_MO_partLine  h_q37 ) (fun q54 h_q54 => ?_)
          exact (im_MO_line_L274  h_q54 )
        · refine post_ite (fun c_5 => ?_) (fun c_5 => ?_)
          · refine post_bind (Q := fun r => IM r) (im_MO_wallLine  h_q37 ) (fun q57 h_q57 => ?_)
            exact (im_MO_line_L274  h_q57 )
          · refine post_ite (fun c_6 => ?_) (fun c_6 => ?_)
            · refine post_bind (Q := fun r => IM r) (im_MO_stairLine  h_q37 ) (fun q60 h_q60 => ?_)
              exact (im_MO_line_L274  h_q60 )
            · refine post_ite (fun c_7 => ?_) (fun c_7 => ?_)
              · refine post_bind (Q := fun r => InR r) (im_MO_fresher  h_q37 (inr_c rfl)) (fun q63 h_q63 => ?_)
                refine post_bind (Q := fun r => IM r) (im_MO_thingLine  h_q37 (inr_w32 _)) (fun q65 h_q65 => ?_)
                exact (im_MO_line_L274  h_q65 )
              · refine post_ite (fun c_8 => ?_) (fun c_8 => ?_)
                · refine post_bind (Q := fun r => IM r.1 ∧ InR r.2) (im_MO_numeral  h_q37 (inr_c rfl) (inr_c rfl)) (fun q68 h_q68 => ?_)
                  refine post_bind (Q := fun r => IM r) (im_MO_reads  h_q68.1 (inr_c rfl) h_q68.2) (fun q70 h_q70 => ?_)
                  exact (im_MO_line_L274  h_q70 )
                · refine post_bind (Q := fun r => IM r) (im_MO_lawLine  h_q37 ) (fun q72 h_q72 => ?_)
                  exact (im_MO_line_L274  h_q72 )
  · exact post_some h_M
theorem im_MO_line_L105 {v1_ : Int} {M : Mem}  (h_M : IM M) (h_v1_ : InR v1_) : Post (fun r => IM r) (t_MO_line_L105 M v1_) := by
  unfold t_MO_line_L105
  refine post_let (fun q74 e_q74 => ?_)
  have h_q74 : (fun r => IM r) q74 := by rw [e_q74]; exact (im_MO_wrong  h_M (inr_c rfl))
  clear e_q74
  exact (im_MO_line_L110  h_q74 h_v1_)
theorem im_MO_line_L69 {v1_ : Int} {M : Mem}  (h_M : IM M) (h_v1_ : InR v1_) : Post (fun r => IM r) (t_MO_line_L69 M v1_) := by
  unfold t_MO_line_L69
  refine post_ite (fun c_1 => ?_) (fun c_1 => ?_)
  · refine post_let (fun q21 e_q21 => ?_)
    have h_q21 : (fun r => InR r) q21 := by rw [e_q21]; exact (im_MO_isTold  h_M (inr_c rfl))
    clear e_q21
    refine post_ite (fun c_2 => ?_) (fun c_2 => ?_)
    · refine post_let (fun q24 e_q24 => ?_)
      have h_q24 : (fun r => InR r) q24 := by rw [e_q24]; exact (im_MO_isTold  h_M (inr_c rfl))
      clear e_q24
      refine post_ite (fun c_3 => ?_) (fun c_3 => ?_)
      · refine post_let (fun q27 e_q27 => ?_)
        have h_q27 : (fun r => InR r) q27 := by rw [e_q27]; exact (im_MO_isTold  h_M (inr_c rfl))
        clear e_q27
        refine post_ite (fun c_4 => ?_) (fun c_4 => ?_)
        · refine post_let (fun q30 e_q30 => ?_)
          have h_q30 : (fun r => InR r) q30 := by rw [e_q30]; exact (im_MO_isTold  h_M (inr_c rfl))
          clear e_q30
          refine post_ite (fun c_5 => ?_) (fun c_5 => ?_)
          · exact (im_MO_line_L110  h_M h_v1_)
          · exact (im_MO_line_L105  h_M h_v1_)
        · exact (im_MO_line_L105  h_M h_v1_)
      · exact (im_MO_line_L105  h_M h_v1_)
    · exact (im_MO_line_L105  h_M h_v1_)
  · exact (im_MO_line_L110  h_M h_v1_)
theorem im_MO_line_L53 {v1_ : Int} {M : Mem}  (h_M : IM M) (h_v1_ : InR v1_) : Post (fun r => IM r) (t_MO_line_L53 M v1_) := by
  unfold t_MO_line_L53
  refine post_let (fun q15 e_q15 => ?_)
  have h_q15 : (fun r => InR r) q15 := by rw [e_q15]; exact (im_MO_isTold  h_M h_v1_)
  clear e_q15
  refine post_ite (fun c_1 => ?_) (fun c_1 => ?_)
  · exact (im_MO_line_L69  h_M h_v1_)
  · refine post_let (fun q18 e_q18 => ?_)
    have h_q18 : (fun r => IM r) q18 := by rw [e_q18]; exact (im_MO_wrong  h_M (inr_c rfl))
    clear e_q18
    exact (im_MO_line_L110  h_q18 h_v1_)
theorem im_MO_line  {M : Mem}  (h_M : IM M)  : Post (fun r => IM r) (t_MO_line M) := by
  unfold t_MO_line
  refine post_ite (fun c_1 => ?_) (fun c_1 => ?_)
  · refine post_ite (fun c_2 => ?_) (fun c_2 => ?_)
    · refine post_bind (Q := fun r => InR r) (im_MO_isFull  h_M (h_M _ _)) (fun q6 h_q6 => ?_)
      refine post_ite (fun c_3 => ?_) (fun c_3 => ?_)
      · refine post_ite (fun c_4 => ?_) (fun c_4 => ?_)
        · exact (im_MO_line_L53  h_M (h_M _ _))
        · refine post_ite (fun c_5 => ?_) (fun c_5 => ?_)
          · exact (im_MO_line_L53  h_M (h_M _ _))
          · exact (im_MO_line_L69  h_M (h_M _ _))
      · refine post_let (fun q11 e_q11 => ?_)
        have h_q11 : (fun r => IM r) q11 := by rw [e_q11]; exact (im_MO_wrong  h_M (inr_c rfl))
        clear e_q11
        exact (im_MO_line_L110  h_q11 (h_M _ _))
    · exact (im_MO_line_L16  h_M )
  · exact (im_MO_line_L16  h_M )
theorem im_MO_half_L7 {r1 : Nat} {N1 : Nat}   : ∀ (fu : Nat) (M : Mem) (v1_ : Int) (v2_ : Int), IM M → InR v1_ → InR v2_ → Post (fun r => IM r) (t_MO_half_L7 r1 N1 fu M v1_ v2_) := by
  intro fu
  induction fu with
  | zero => intro M v1_ v2_ h_M h_v1_ h_v2_; exact post_none
  | succ fu ih =>
    intro M v1_ v2_ h_M h_v1_ h_v2_
    rw [t_MO_half_L7]
    refine post_ite (fun c_1 => ?_) (fun c_1 => ?_)
    · exact post_some h_M
    · refine post_guard (fun c_2 => ?_)
      refine post_guard (fun c_3 => ?_)
      refine post_let (fun M5 e_M5 => ?_)
      have h_M5 : IM M5 := by rw [e_M5]; exact IM.setI h_M (h_M _ _)
      clear e_M5
      exact (ih _ _ _ h_M5 h_v1_ (inr_w32 _))
theorem im_MO_half {r1 : Nat} {N1 : Nat} {M : Mem}  (h_M : IM M)  : Post (fun r => IM r) (t_MO_half M r1 N1) := by
  unfold t_MO_half
  exact (im_MO_half_L7   _ _ _ _ h_M (inrq_div) (inr_c rfl))
theorem im_MO_text_L69 {x1 : Int} {bk47 : Mem → Int → Option (Mem × Int)} {v1_ : Int} {v3_ : Int} {v4_ : Int} {M : Mem} (hbk47 : ∀ (a0_ : Mem) (a1_ : Int), IM a0_ → InR a1_ → Post (fun r => IM r.1 ∧ InR r.2) (bk47 a0_ a1_)) (h_M : IM M) (h_x1 : InR x1) (h_v1_ : InR v1_) (h_v3_ : InR v3_) (h_v4_ : InR v4_) : Post (fun r => IM r.1 ∧ InR r.2) (t_MO_text_L69 x1 bk47 M v1_ v3_ v4_) := by
  unfold t_MO_text_L69
  refine post_bind (Q := fun r => IM r) (im_MO_reads  h_M h_v3_ h_v4_) (fun q20 h_q20 => ?_)
  exact hbk47 _ _  h_q20 (inr_w32 _)
theorem im_MO_text_L64 {x1 : Int} {bk47 : Mem → Int → Option (Mem × Int)} {v1_ : Int} {v3_ : Int} {M : Mem} (hbk47 : ∀ (a0_ : Mem) (a1_ : Int), IM a0_ → InR a1_ → Post (fun r => IM r.1 ∧ InR r.2) (bk47 a0_ a1_)) (h_M : IM M) (h_x1 : InR x1) (h_v1_ : InR v1_) (h_v3_ : InR v3_) : Post (fun r => IM r.1 ∧ InR r.2) (t_MO_text_L64 x1 bk47 M v1_ v3_) := by
  unfold t_MO_text_L64
  exact (im_MO_text_L69 hbk47 h_M h_x1 h_v1_ h_v3_ (inr_c rfl))
theorem im_MO_text_L257 {x1 : Int}  (h_x1 : InR x1) : ∀ (fu : Nat) (M : Mem) (v1_ : Int), IM M → InR v1_ → Post (fun r => IM r.1 ∧ InR r.2) (t_MO_text_L257 x1 fu M v1_) := by
  intro fu
  induction fu with
  | zero => intro M v1_ h_M h_v1_; exact post_none
  | succ fu ih =>
    intro M v1_ h_M h_v1_
    rw [t_MO_text_L257]
    refine post_ite (fun c_1 => ?_) (fun c_1 => ?_)
    · refine post_bind (Q := fun r => IM r) (im_MO_half  h_M ) (fun q56 h_q56 => ?_)
      refine post_bind (Q := fun r => IM r) (im_MO_half  h_q56 ) (fun q58 h_q58 => ?_)
      refine post_bind (Q := fun r => IM r) (im_MO_half  h_q58 ) (fun q60 h_q60 => ?_)
      refine post_bind (Q := fun r => IM r) (im_MO_half  h_q60 ) (fun q62 h_q62 => ?_)
      refine post_bind (Q := fun r => IM r) (im_MO_half  h_q62 ) (fun q64 h_q64 => ?_)
      refine post_bind (Q := fun r => IM r) (im_MO_half  h_q64 ) (fun q66 h_q66 => ?_)
      refine post_bind (Q := fun r => IM r) (im_MO_half  h_q66 ) (fun q68 h_q68 => ?_)
      refine post_let (fun M70 e_M70 => ?_)
      have h_M70 : IM M70 := by rw [e_M70]; exact IM.setI h_q68 (inr_c rfl)
      clear e_M70
      refine post_let (fun M71 e_M71 => ?_)
      have h_M71 : IM M71 := by rw [e_M71]; exact IM.setI h_M70 (inr_c rfl)
      clear e_M71
      refine post_let (fun M72 e_M72 => ?_)
      have h_M72 : IM M72 := by rw [e_M72]; exact IM.setI h_M71 (inr_c rfl)
      clear e_M72
      refine post_let (fun M73 e_M73 => ?_)
      have h_M73 : IM M73 := by rw [e_M73]; exact IM.setI h_M72 (inr_c rfl)
      clear e_M73
      refine post_bind (Q := fun r => IM r) (im_MO_begins  h_M73 ) (fun q74 h_q74 => ?_)
      exact post_some ⟨h_q74, (h_q74 _ _)⟩
    · refine post_guard (fun c_2 => ?_)
      refine post_guard (fun c_3 => ?_)
      refine post_let (fun M80 e_M80 => ?_)
      have h_M80 : IM M80 := by rw [e_M80]; exact IM.setI h_M (h_M _ _)
      clear e_M80
      refine post_guard (fun c_4 => ?_)
      refine post_guard (fun c_5 => ?_)
      refine post_let (fun M84 e_M84 => ?_)
      have h_M84 : IM M84 := by rw [e_M84]; exact IM.setI h_M80 (h_M80 _ _)
      clear e_M84
      exact (ih _ _ h_M84 (inr_w32 _))
theorem im_MO_text_L195 {x1 : Int} {M : Mem}  (h_M : IM M) (h_x1 : InR x1) : Post (fun r => IM r.1 ∧ InR r.2) (t_MO_text_L195 x1 M) := by
  unfold t_MO_text_L195
  refine post_let (fun M40 e_M40 => ?_)
  have h_M40 : IM M40 := by rw [e_M40]; exact IM.setI h_M (h_M _ _)
  clear e_M40
  refine post_let (fun M42 e_M42 => ?_)
  have h_M42 : IM M42 := by rw [e_M42]; exact IM.setI h_M40 (h_M40 _ _)
  clear e_M42
  refine post_ite (fun c_1 => ?_) (fun c_1 => ?_)
  · refine post_bind (Q := fun r => IM r) (im_MO_half  h_M42 ) (fun q45 h_q45 => ?_)
    refine post_bind (Q := fun r => IM r) (im_MO_half  h_q45 ) (fun q47 h_q47 => ?_)
    refine post_bind (Q := fun r => IM r) (im_MO_half  h_q47 ) (fun q49 h_q49 => ?_)
    refine post_bind (Q := fun r => IM r) (im_MO_half  h_q49 ) (fun q51 h_q51 => ?_)
    refine post_bind (Q := fun r => IM r) (im_MO_half  h_q51 ) (fun q53 h_q53 => ?_)
    exact (im_MO_text_L257  h_x1 _ _ _ h_q53 (inr_c rfl))
  · exact post_some ⟨h_M42, (inr_c rfl)⟩
theorem im_MO_text_L173 {x1 : Int}  (h_x1 : InR x1) : ∀ (fu : Nat) (M : Mem) , IM M → Post (fun r => IM r.1 ∧ InR r.2) (t_MO_text_L173 x1 fu M ) := by
  intro fu
  induction fu with
  | zero => intro M  h_M; exact post_none
  | succ fu ih =>
    intro M  h_M
    rw [t_MO_text_L173]
    refine post_ite (fun c_1 => ?_) (fun c_1 => ?_)
    · refine post_ite (fun c_2 => ?_) (fun c_2 => ?_)
      · exact (im_MO_text_L195  h_M h_x1)
      · refine post_bind (Q := fun r => IM r) (im_MO_line  h_M ) (fun q37 h_q37 => ?_)
        exact (ih _ h_q37 )
    · exact (im_MO_text_L195  h_M h_x1)
theorem im_MO_text_L124 {x1 : Int}  (h_x1 : InR x1) : ∀ (fu : Nat) (M : Mem) (v1_ : Int), IM M → InR v1_ → Post (fun r => IM r.1 ∧ InR r.2) (t_MO_text_L124 x1 fu M v1_) := by
  intro fu
  induction fu with
  | zero => intro M v1_ h_M h_v1_; exact post_none
  | succ fu ih =>
    intro M v1_ h_M h_v1_
    rw [t_MO_text_L124]
    refine post_ite (fun c_1 => ?_) (fun c_1 => ?_)
    · refine post_let (fun M23 e_M23 => ?_)
      have h_M23 : IM M23 := by rw [e_M23]; exact IM.setI h_M (inr_c rfl)
      clear e_M23
      refine post_let (fun M24 e_M24 => ?_)
      have h_M24 : IM M24 := by rw [e_M24]; exact IM.setI h_M23 (inr_c rfl)
      clear e_M24
      refine post_let (fun M25 e_M25 => ?_)
      have h_M25 : IM M25 := by rw [e_M25]; exact IM.setI h_M24 (inr_c rfl)
      clear e_M25
      refine post_let (fun M26 e_M26 => ?_)
      have h_M26 : IM M26 := by rw [e_M26]; exact IM.setI h_M25 (inr_c rfl)
      clear e_M26
      refine post_bind (Q := fun r => IM r) (im_MO_token  h_M26 ) (fun q27 h_q27 => ?_)
      exact (im_MO_text_L173  h_x1 _ _ h_q27 )
    · refine post_guard (fun c_2 => ?_)
      refine post_let (fun M30 e_M30 => ?_)
      have h_M30 : IM M30 := by rw [e_M30]; exact IM.setI h_M (inr_c rfl)
      clear e_M30
      refine post_guard (fun c_3 => ?_)
      refine post_let (fun M32 e_M32 => ?_)
      have h_M32 : IM M32 := by rw [e_M32]; exact IM.setI h_M30 (inr_c rfl)
      clear e_M32
      exact (ih _ _ h_M32 (inr_w32 _))
theorem im_MO_text_L80 {x1 : Int}  (h_x1 : InR x1) : ∀ (fu : Nat) (M : Mem) (v1_ : Int), IM M → InR v1_ → Post (fun r => IM r.1 ∧ InR r.2) (t_MO_text_L80 x1 fu M v1_) := by
  intro fu
  induction fu with
  | zero => intro M v1_ h_M h_v1_; exact post_none
  | succ fu ih =>
    intro M v1_ h_M h_v1_
    rw [t_MO_text_L80]
    refine post_ite (fun c_1 => ?_) (fun c_1 => ?_)
    · exact (im_MO_text_L124  h_x1 _ _ _ h_M (inr_c rfl))
    · refine post_guard (fun c_2 => ?_)
      refine post_let (fun M15 e_M15 => ?_)
      have h_M15 : IM M15 := by rw [e_M15]; exact IM.setI h_M (inr_c rfl)
      clear e_M15
      refine post_guard (fun c_3 => ?_)
      refine post_let (fun M17 e_M17 => ?_)
      have h_M17 : IM M17 := by rw [e_M17]; exact IM.setI h_M15 (inr_c rfl)
      clear e_M17
      refine post_guard (fun c_4 => ?_)
      refine post_let (fun M19 e_M19 => ?_)
      have h_M19 : IM M19 := by rw [e_M19]; exact IM.setI h_M17 (inr_c rfl)
      clear e_M19
      exact (ih _ _ h_M19 (inr_w32 _))
theorem im_MO_text_L47 {x1 : Int}  (h_x1 : InR x1) : ∀ (fu : Nat) (M : Mem) (v1_ : Int), IM M → InR v1_ → Post (fun r => IM r.1 ∧ InR r.2) (t_MO_text_L47 x1 fu M v1_) := by
  intro fu
  induction fu with
  | zero => intro M v1_ h_M h_v1_; exact post_none
  | succ fu ih =>
    intro M v1_ h_M h_v1_
    rw [t_MO_text_L47]
    refine post_ite (fun c_1 => ?_) (fun c_1 => ?_)
    · exact (im_MO_text_L80  h_x1 _ _ _ h_M (inr_c rfl))
    · refine post_ite (fun c_2 => ?_) (fun c_2 => ?_)
      · exact (im_MO_text_L64 (fun a0_ a1_ h0_ h1_ => ih a0_ a1_ h0_ h1_) h_M h_x1 h_v1_ h_v1_)
      · refine post_ite (fun c_3 => ?_) (fun c_3 => ?_)
        · exact (im_MO_text_L64 (fun a0_ a1_ h0_ h1_ => ih a0_ a1_ h0_ h1_) h_M h_x1 h_v1_ h_v1_)
        · exact (im_MO_text_L69 (fun a0_ a1_ h0_ h1_ => ih a0_ a1_ h0_ h1_) h_M h_x1 h_v1_ h_v1_ (inr_c rfl))
theorem im_MO_text {x1 : Int} {M : Mem}  (h_M : IM M) (h_x1 : InR x1) : Post (fun r => IM r.1 ∧ InR r.2) (t_MO_text M x1) := by
  unfold t_MO_text
  refine post_let (fun M1 e_M1 => ?_)
  have h_M1 : IM M1 := by rw [e_M1]; exact IM.setI h_M (inr_c rfl)
  clear e_M1
  refine post_ite (fun c_1 => ?_) (fun c_1 => ?_)
  · exact post_some ⟨h_M1, (inr_c rfl)⟩
  · refine post_ite (fun c_2 => ?_) (fun c_2 => ?_)
    · refine post_let (fun M5 e_M5 => ?_)
      have h_M5 : IM M5 := by rw [e_M5]; exact IM.setI h_M1 h_x1
      clear e_M5
      refine post_let (fun M6 e_M6 => ?_)
      have h_M6 : IM M6 := by rw [e_M6]; exact IM.setI h_M5 (inr_c rfl)
      clear e_M6
      refine post_let (fun M7 e_M7 => ?_)
      have h_M7 : IM M7 := by rw [e_M7]; exact IM.setI h_M6 (inr_c rfl)
      clear e_M7
      refine post_let (fun M8 e_M8 => ?_)
      have h_M8 : IM M8 := by rw [e_M8]; exact IM.setI h_M7 (inr_c rfl)
      clear e_M8
      refine post_let (fun M9 e_M9 => ?_)
      have h_M9 : IM M9 := by rw [e_M9]; exact IM.setI h_M8 (inr_c rfl)
      clear e_M9
      exact (im_MO_text_L47  h_x1 _ _ _ h_M9 (inr_c rfl))
    · exact post_some ⟨h_M1, (inr_c rfl)⟩
theorem im_MO_fault {x1 : Int} {M : Mem} (h_M : IM M) (h_x1 : InR x1) : (fun r => IM r.1 ∧ InR r.2) (t_MO_fault M x1) := by
  show Pl (fun r => IM r.1 ∧ InR r.2) (t_MO_fault M x1)
  unfold t_MO_fault
  refine pl_let (fun M1 e_M1 => ?_)
  have h_M1 : IM M1 := by rw [e_M1]; exact IM.setI h_M (inr_c rfl)
  clear e_M1
  refine pl_ite (fun c_1 => ?_) (fun c_1 => ?_)
  · exact ⟨h_M1, (h_M1 _ _)⟩
  · refine pl_ite (fun c_2 => ?_) (fun c_2 => ?_)
    · exact ⟨h_M1, (h_M1 _ _)⟩
    · exact ⟨h_M1, (inr_c rfl)⟩
theorem im_MO_named {x1 : Int} {x2 : Int} {M : Mem}  (h_M : IM M) (h_x1 : InR x1) (h_x2 : InR x2) : Post (fun r => IM r.1 ∧ InR r.2) (t_MO_named M x1 x2) := by
  unfold t_MO_named
  refine post_let (fun M1 e_M1 => ?_)
  have h_M1 : IM M1 := by rw [e_M1]; exact IM.setI h_M (inr_c rfl)
  clear e_M1
  refine post_ite (fun c_1 => ?_) (fun c_1 => ?_)
  · refine post_bind (Q := fun r => InR r) (im_MO_found  h_M1 (inr_c rfl) (h_M1 _ _) h_x2) (fun q8 h_q8 => ?_)
    exact post_some ⟨h_M1, h_q8⟩
  · refine post_ite (fun c_2 => ?_) (fun c_2 => ?_)
    · refine post_bind (Q := fun r => InR r) (im_MO_found  h_M1 (inr_c rfl) (h_M1 _ _) h_x2) (fun q5 h_q5 => ?_)
      exact post_some ⟨h_M1, h_q5⟩
    · exact post_some ⟨h_M1, (inr_c rfl)⟩
theorem im_MO_copies_L95 {x1 : Int} {x2 : Int}  (h_x1 : InR x1) (h_x2 : InR x2) : ∀ (fu : Nat) (M : Mem) (v3_ : Int), IM M → InR v3_ → Post (fun r => IM r) (t_MO_copies_L95 x1 x2 fu M v3_) := by
  intro fu
  induction fu with
  | zero => intro M v3_ h_M h_v3_; exact post_none
  | succ fu ih =>
    intro M v3_ h_M h_v3_
    rw [t_MO_copies_L95]
    refine post_ite (fun c_1 => ?_) (fun c_1 => ?_)
    · exact post_some h_M
    · refine post_guard (fun c_2 => ?_)
      refine post_guard (fun c_3 => ?_)
      refine post_let (fun M28 e_M28 => ?_)
      have h_M28 : IM M28 := by rw [e_M28]; exact IM.setI h_M (h_M _ _)
      clear e_M28
      refine post_guard (fun c_4 => ?_)
      refine post_guard (fun c_5 => ?_)
      refine post_let (fun M32 e_M32 => ?_)
      have h_M32 : IM M32 := by rw [e_M32]; exact IM.setI h_M28 (h_M28 _ _)
      clear e_M32
      refine post_guard (fun c_6 => ?_)
      refine post_guard (fun c_7 => ?_)
      refine post_let (fun M36 e_M36 => ?_)
      have h_M36 : IM M36 := by rw [e_M36]; exact IM.setI h_M32 (h_M32 _ _)
      clear e_M36
      exact (ih _ _ h_M36 (inr_w32 _))
theorem im_MO_copies_L62 {x1 : Int} {x2 : Int}  (h_x1 : InR x1) (h_x2 : InR x2) : ∀ (fu : Nat) (M : Mem) (v3_ : Int), IM M → InR v3_ → Post (fun r => IM r) (t_MO_copies_L62 x1 x2 fu M v3_) := by
  intro fu
  induction fu with
  | zero => intro M v3_ h_M h_v3_; exact post_none
  | succ fu ih =>
    intro M v3_ h_M h_v3_
    rw [t_MO_copies_L62]
    refine post_ite (fun c_1 => ?_) (fun c_1 => ?_)
    · exact (im_MO_copies_L95  h_x1 h_x2 _ _ _ h_M (inr_c rfl))
    · refine post_guard (fun c_2 => ?_)
      refine post_guard (fun c_3 => ?_)
      refine post_let (fun M23 e_M23 => ?_)
      have h_M23 : IM M23 := by rw [e_M23]; exact IM.setI h_M (h_M _ _)
      clear e_M23
      exact (ih _ _ h_M23 (inr_w32 _))
theorem im_MO_copies {x1 : Int} {x2 : Int} {M : Mem}  (h_M : IM M) (h_x1 : InR x1) (h_x2 : InR x2) : Post (fun r => IM r) (t_MO_copies M x1 x2) := by
  unfold t_MO_copies
  refine post_guard (fun c_1 => ?_)
  refine post_guard (fun c_2 => ?_)
  refine post_let (fun M4 e_M4 => ?_)
  have h_M4 : IM M4 := by rw [e_M4]; exact IM.setI h_M (h_M _ _)
  clear e_M4
  refine post_guard (fun c_3 => ?_)
  refine post_guard (fun c_4 => ?_)
  refine post_let (fun M8 e_M8 => ?_)
  have h_M8 : IM M8 := by rw [e_M8]; exact IM.setI h_M4 (h_M4 _ _)
  clear e_M8
  refine post_guard (fun c_5 => ?_)
  refine post_guard (fun c_6 => ?_)
  refine post_let (fun M12 e_M12 => ?_)
  have h_M12 : IM M12 := by rw [e_M12]; exact IM.setI h_M8 (h_M8 _ _)
  clear e_M12
  refine post_guard (fun c_7 => ?_)
  refine post_guard (fun c_8 => ?_)
  refine post_let (fun M15 e_M15 => ?_)
  have h_M15 : IM M15 := by rw [e_M15]; exact IM.setL h_M12
  clear e_M15
  refine post_guard (fun c_9 => ?_)
  refine post_guard (fun c_10 => ?_)
  refine post_let (fun M18 e_M18 => ?_)
  have h_M18 : IM M18 := by rw [e_M18]; exact IM.setL h_M15
  clear e_M18
  exact (im_MO_copies_L62  h_x1 h_x2 _ _ _ h_M18 (inr_c rfl))
theorem im_MO_copiesLog_L2 {x1 : Int} {x2 : Int}  (h_x1 : InR x1) (h_x2 : InR x2) : ∀ (fu : Nat) (M : Mem) (v3_ : Int), IM M → InR v3_ → Post (fun r => IM r) (t_MO_copiesLog_L2 x1 x2 fu M v3_) := by
  intro fu
  induction fu with
  | zero => intro M v3_ h_M h_v3_; exact post_none
  | succ fu ih =>
    intro M v3_ h_M h_v3_
    rw [t_MO_copiesLog_L2]
    refine post_ite (fun c_1 => ?_) (fun c_1 => ?_)
    · exact post_some h_M
    · refine post_guard (fun c_2 => ?_)
      refine post_guard (fun c_3 => ?_)
      refine post_let (fun M5 e_M5 => ?_)
      have h_M5 : IM M5 := by rw [e_M5]; exact IM.setI h_M (h_M _ _)
      clear e_M5
      refine post_guard (fun c_4 => ?_)
      refine post_guard (fun c_5 => ?_)
      refine post_let (fun M9 e_M9 => ?_)
      have h_M9 : IM M9 := by rw [e_M9]; exact IM.setI h_M5 (h_M5 _ _)
      clear e_M9
      refine post_guard (fun c_6 => ?_)
      refine post_guard (fun c_7 => ?_)
      refine post_let (fun M13 e_M13 => ?_)
      have h_M13 : IM M13 := by rw [e_M13]; exact IM.setI h_M9 (h_M9 _ _)
      clear e_M13
      exact (ih _ _ h_M13 (inr_w32 _))
theorem im_MO_copiesLog {x1 : Int} {x2 : Int} {M : Mem}  (h_M : IM M) (h_x1 : InR x1) (h_x2 : InR x2) : Post (fun r => IM r) (t_MO_copiesLog M x1 x2) := by
  unfold t_MO_copiesLog
  exact (im_MO_copiesLog_L2  h_x1 h_x2 _ _ _ h_M (inr_c rfl))
theorem im_MO_cells  {M : Mem} (h_M : IM M)  : (fun r => InR r) (t_MO_cells M) := by
  show Pl (fun r => InR r) (t_MO_cells M)
  unfold t_MO_cells
  exact (inr_w32 _)
theorem im_MO_isCell {x1 : Int} {M : Mem} (h_M : IM M) (h_x1 : InR x1) : (fun r => InR r) (t_MO_isCell M x1) := by
  show Pl (fun r => InR r) (t_MO_isCell M x1)
  unfold t_MO_isCell
  refine pl_ite (fun c_1 => ?_) (fun c_1 => ?_)
  · exact (inr_c rfl)
  · refine pl_let (fun q2 e_q2 => ?_)
    have h_q2 : (fun r => InR r) q2 := by rw [e_q2]; exact (im_MO_cells  h_M )
    clear e_q2
    refine pl_ite (fun c_2 => ?_) (fun c_2 => ?_)
    · exact (inr_c rfl)
    · exact (inr_c rfl)
theorem im_MO_isOpen {x1 : Int} {M : Mem}  (h_M : IM M) (h_x1 : InR x1) : Post (fun r => InR r) (t_MO_isOpen M x1) := by
  unfold t_MO_isOpen
  refine post_let (fun q1 e_q1 => ?_)
  have h_q1 : (fun r => InR r) q1 := by rw [e_q1]; exact (im_MO_isCell  h_M h_x1)
  clear e_q1
  refine post_ite (fun c_1 => ?_) (fun c_1 => ?_)
  · exact post_some (inr_c rfl)
  · refine post_guard (fun c_2 => ?_)
    refine post_ite (fun c_3 => ?_) (fun c_3 => ?_)
    · exact post_some (inr_c rfl)
    · exact post_some (inr_c rfl)
theorem im_MO_isWard {x1 : Int} {M : Mem} (h_M : IM M) (h_x1 : InR x1) : (fun r => InR r) (t_MO_isWard M x1) := by
  show Pl (fun r => InR r) (t_MO_isWard M x1)
  unfold t_MO_isWard
  refine pl_ite (fun c_1 => ?_) (fun c_1 => ?_)
  · exact (inr_c rfl)
  · refine pl_ite (fun c_2 => ?_) (fun c_2 => ?_)
    · exact (inr_c rfl)
    · exact (inr_c rfl)
theorem im_MO_isThing {x1 : Int} {M : Mem} (h_M : IM M) (h_x1 : InR x1) : (fun r => InR r) (t_MO_isThing M x1) := by
  show Pl (fun r => InR r) (t_MO_isThing M x1)
  unfold t_MO_isThing
  refine pl_ite (fun c_1 => ?_) (fun c_1 => ?_)
  · exact (inr_c rfl)
  · refine pl_ite (fun c_2 => ?_) (fun c_2 => ?_)
    · exact (inr_c rfl)
    · exact (inr_c rfl)
theorem im_MO_beside_L62 {x1 : Int} {x2 : Int} {v1_ : Int} {v2_ : Int} {v3_ : Int} {M : Mem}  (h_M : IM M) (h_x1 : InR x1) (h_x2 : InR x2) (h_v1_ : InR v1_) (h_v2_ : InR v2_) (h_v3_ : InR v3_) : Post (fun r => InR r) (t_MO_beside_L62 x1 x2 M v1_ v2_ v3_) := by
  unfold t_MO_beside_L62
  refine post_ite (fun c_1 => ?_) (fun c_1 => ?_)
  · exact post_some (inr_c rfl)
  · refine post_ite (fun c_2 => ?_) (fun c_2 => ?_)
    · exact post_some (inr_c rfl)
    · refine post_ite (fun c_3 => ?_) (fun c_3 => ?_)
      · exact post_some (inr_c rfl)
      · refine post_ite (fun c_4 => ?_) (fun c_4 => ?_)
        · exact post_some (inr_w32 _)
        · exact post_some (inr_c rfl)
theorem im_MO_beside_L34 {x1 : Int} {x2 : Int} {v3_ : Int} {v4_ : Int} {M : Mem}  (h_M : IM M) (h_x1 : InR x1) (h_x2 : InR x2) (h_v3_ : InR v3_) (h_v4_ : InR v4_) : Post (fun r => InR r) (t_MO_beside_L34 x1 x2 M v3_ v4_) := by
  unfold t_MO_beside_L34
  refine post_ite (fun c_1 => ?_) (fun c_1 => ?_)
  · exact post_none
  · refine post_ite (fun c_2 => ?_) (fun c_2 => ?_)
    · exact (im_MO_beside_L62  h_M h_x1 h_x2 (inr_w32 _) (inrq_div) (inr_c rfl))
    · refine post_ite (fun c_3 => ?_) (fun c_3 => ?_)
      · exact (im_MO_beside_L62  h_M h_x1 h_x2 (inr_w32 _) (inrq_div) (inr_c rfl))
      · exact (im_MO_beside_L62  h_M h_x1 h_x2 (inr_w32 _) (inrq_div) (inr_c rfl))
theorem im_MO_beside {x1 : Int} {x2 : Int} {M : Mem}  (h_M : IM M) (h_x1 : InR x1) (h_x2 : InR x2) : Post (fun r => InR r) (t_MO_beside M x1 x2) := by
  unfold t_MO_beside
  refine post_ite (fun c_1 => ?_) (fun c_1 => ?_)
  · exact post_some (inr_c rfl)
  · refine post_ite (fun c_2 => ?_) (fun c_2 => ?_)
    · exact post_none
    · refine post_ite (fun c_3 => ?_) (fun c_3 => ?_)
      · exact (im_MO_beside_L34  h_M h_x1 h_x2 (inrq_rem) (inr_c rfl))
      · refine post_ite (fun c_4 => ?_) (fun c_4 => ?_)
        · exact (im_MO_beside_L34  h_M h_x1 h_x2 (inrq_rem) (inr_c rfl))
        · exact (im_MO_beside_L34  h_M h_x1 h_x2 (inrq_rem) (inr_c rfl))
theorem im_MO_downOf_L34 {x1 : Int} {x2 : Int} {v2_ : Int} {M : Mem}  (h_M : IM M) (h_x1 : InR x1) (h_x2 : InR x2) (h_v2_ : InR v2_) : Post (fun r => InR r) (t_MO_downOf_L34 x1 x2 M v2_) := by
  unfold t_MO_downOf_L34
  refine post_guard (fun c_1 => ?_)
  exact post_some (h_M _ _)
theorem im_MO_downOf {x1 : Int} {x2 : Int} {M : Mem}  (h_M : IM M) (h_x1 : InR x1) (h_x2 : InR x2) : Post (fun r => InR r) (t_MO_downOf M x1 x2) := by
  unfold t_MO_downOf
  refine post_guard (fun c_1 => ?_)
  refine post_ite (fun c_2 => ?_) (fun c_2 => ?_)
  · exact post_some (inr_c rfl)
  · refine post_ite (fun c_3 => ?_) (fun c_3 => ?_)
    · refine post_ite (fun c_4 => ?_) (fun c_4 => ?_)
      · exact post_some (inr_c rfl)
      · exact (im_MO_downOf_L34  h_M h_x1 h_x2 (inr_w32 _))
    · exact (im_MO_downOf_L34  h_M h_x1 h_x2 (inr_w32 _))
theorem im_MO_nextOf_L24 {x1 : Int} {x2 : Int} {M : Mem}  (h_M : IM M) (h_x1 : InR x1) (h_x2 : InR x2) : Post (fun r => InR r) (t_MO_nextOf_L24 x1 x2 M) := by
  unfold t_MO_nextOf_L24
  refine post_bind (Q := fun r => InR r) (im_MO_downOf  h_M h_x1 h_x2) (fun q5 h_q5 => ?_)
  refine post_bind (Q := fun r => InR r) (im_MO_beside  h_M h_x2 h_q5) (fun q7 h_q7 => ?_)
  refine post_ite (fun c_1 => ?_) (fun c_1 => ?_)
  · exact post_some (inr_c rfl)
  · refine post_ite (fun c_2 => ?_) (fun c_2 => ?_)
    · exact post_some h_q7
    · refine post_guard (fun c_3 => ?_)
      refine post_ite (fun c_4 => ?_) (fun c_4 => ?_)
      · exact post_some h_q7
      · exact post_some (inr_c rfl)
theorem im_MO_nextOf {x1 : Int} {x2 : Int} {M : Mem}  (h_M : IM M) (h_x1 : InR x1) (h_x2 : InR x2) : Post (fun r => InR r) (t_MO_nextOf M x1 x2) := by
  unfold t_MO_nextOf
  refine post_ite (fun c_1 => ?_) (fun c_1 => ?_)
  · exact (im_MO_nextOf_L24  h_M h_x1 h_x2)
  · refine post_guard (fun c_2 => ?_)
    refine post_ite (fun c_3 => ?_) (fun c_3 => ?_)
    · exact post_some (inr_c rfl)
    · exact (im_MO_nextOf_L24  h_M h_x1 h_x2)
theorem im_MO_isLine {x1 : Int} {x2 : Int} {M : Mem}  (h_M : IM M) (h_x1 : InR x1) (h_x2 : InR x2) : Post (fun r => InR r) (t_MO_isLine M x1 x2) := by
  unfold t_MO_isLine
  refine post_guard (fun c_1 => ?_)
  refine post_guard (fun c_2 => ?_)
  refine post_ite (fun c_3 => ?_) (fun c_3 => ?_)
  · exact post_some (inr_c rfl)
  · exact post_some (inr_c rfl)
theorem im_MO_thingIn_L46 {x1 : Int} {x2 : Int} {bk2 : Mem → Int → Option (Int)} {v3_ : Int} {M : Mem} (hbk2 : ∀ (a0_ : Mem) (a1_ : Int), IM a0_ → InR a1_ → Post (fun r => InR r) (bk2 a0_ a1_)) (h_M : IM M) (h_x1 : InR x1) (h_x2 : InR x2) (h_v3_ : InR v3_) : Post (fun r => InR r) (t_MO_thingIn_L46 x1 x2 bk2 M v3_) := by
  unfold t_MO_thingIn_L46
  exact hbk2 _ _  h_M (inr_w32 _)
theorem im_MO_thingIn_L2 {x1 : Int} {x2 : Int}  (h_x1 : InR x1) (h_x2 : InR x2) : ∀ (fu : Nat) (M : Mem) (v3_ : Int), IM M → InR v3_ → Post (fun r => InR r) (t_MO_thingIn_L2 x1 x2 fu M v3_) := by
  intro fu
  induction fu with
  | zero => intro M v3_ h_M h_v3_; exact post_none
  | succ fu ih =>
    intro M v3_ h_M h_v3_
    rw [t_MO_thingIn_L2]
    refine post_ite (fun c_1 => ?_) (fun c_1 => ?_)
    · exact post_some (inr_c rfl)
    · refine post_guard (fun c_2 => ?_)
      refine post_ite (fun c_3 => ?_) (fun c_3 => ?_)
      · refine post_ite (fun c_4 => ?_) (fun c_4 => ?_)
        · refine post_ite (fun c_5 => ?_) (fun c_5 => ?_)
          · exact (im_MO_thingIn_L46 (fun a0_ a1_ h0_ h1_ => ih a0_ a1_ h0_ h1_) h_M h_x1 h_x2 h_v3_)
          · exact post_some h_v3_
        · exact post_some h_v3_
      · exact (im_MO_thingIn_L46 (fun a0_ a1_ h0_ h1_ => ih a0_ a1_ h0_ h1_) h_M h_x1 h_x2 h_v3_)
theorem im_MO_thingIn {x1 : Int} {x2 : Int} {M : Mem}  (h_M : IM M) (h_x1 : InR x1) (h_x2 : InR x2) : Post (fun r => InR r) (t_MO_thingIn M x1 x2) := by
  unfold t_MO_thingIn
  exact (im_MO_thingIn_L2  h_x1 h_x2 _ _ _ h_M (inr_c rfl))
theorem im_MO_goesFrom_L113 {x1 : Int} {x2 : Int} {bk41 : Mem → Int → Int → Option (Mem)} {v2_ : Int} {v3_ : Int} {M : Mem} (hbk41 : ∀ (a0_ : Mem) (a1_ : Int) (a2_ : Int), IM a0_ → InR a1_ → InR a2_ → Post (fun r => IM r) (bk41 a0_ a1_ a2_)) (h_M : IM M) (h_x1 : InR x1) (h_x2 : InR x2) (h_v2_ : InR v2_) (h_v3_ : InR v3_) : Post (fun r => IM r) (t_MO_goesFrom_L113 x1 x2 bk41 M v2_ v3_) := by
  unfold t_MO_goesFrom_L113
  refine post_guard (fun c_1 => ?_)
  refine post_ite (fun c_2 => ?_) (fun c_2 => ?_)
  · exact hbk41 _ _ _  h_M h_v3_ (inr_w32 _)
  · refine post_guard (fun c_3 => ?_)
    refine post_let (fun M27 e_M27 => ?_)
    have h_M27 : IM M27 := by rw [e_M27]; exact IM.setI h_M (h_M _ _)
    clear e_M27
    refine post_guard (fun c_4 => ?_)
    refine post_let (fun M30 e_M30 => ?_)
    have h_M30 : IM M30 := by rw [e_M30]; exact IM.setI h_M27 (inr_w32 _)
    clear e_M30
    refine post_let (fun M31 e_M31 => ?_)
    have h_M31 : IM M31 := by rw [e_M31]; exact IM.setI h_M30 h_v3_
    clear e_M31
    exact post_some h_M31
theorem im_MO_goesFrom_L103 {x1 : Int} {x2 : Int} {bk41 : Mem → Int → Int → Option (Mem)} {v2_ : Int} {v3_ : Int} {M : Mem} (hbk41 : ∀ (a0_ : Mem) (a1_ : Int) (a2_ : Int), IM a0_ → InR a1_ → InR a2_ → Post (fun r => IM r) (bk41 a0_ a1_ a2_)) (h_M : IM M) (h_x1 : InR x1) (h_x2 : InR x2) (h_v2_ : InR v2_) (h_v3_ : InR v3_) : Post (fun r => IM r) (t_MO_goesFrom_L103 x1 x2 bk41 M v2_ v3_) := by
  unfold t_MO_goesFrom_L103
  refine post_let (fun M33 e_M33 => ?_)
  have h_M33 : IM M33 := by rw [e_M33]; exact IM.setI h_M (inr_w32 _)
  clear e_M33
  exact (im_MO_goesFrom_L113 hbk41 h_M33 h_x1 h_x2 h_v2_ h_v3_)
theorem im_MO_goesFrom_L41 {x1 : Int} {x2 : Int}  (h_x1 : InR x1) (h_x2 : InR x2) : ∀ (fu : Nat) (M : Mem) (v2_ : Int) (v3_ : Int), IM M → InR v2_ → InR v3_ → Post (fun r => IM r) (t_MO_goesFrom_L41 x1 x2 fu M v2_ v3_) := by
  intro fu
  induction fu with
  | zero => intro M v2_ v3_ h_M h_v2_ h_v3_; exact post_none
  | succ fu ih =>
    intro M v2_ v3_ h_M h_v2_ h_v3_
    rw [t_MO_goesFrom_L41]
    refine post_guard (fun c_1 => ?_)
    refine post_let (fun M8 e_M8 => ?_)
    have h_M8 : IM M8 := by rw [e_M8]; exact IM.setI h_M h_v3_
    clear e_M8
    refine post_bind (Q := fun r => InR r) (im_MO_nextOf  h_M8 h_x1 h_v2_) (fun q9 h_q9 => ?_)
    refine post_ite (fun c_2 => ?_) (fun c_2 => ?_)
    · refine post_let (fun M20 e_M20 => ?_)
      have h_M20 : IM M20 := by rw [e_M20]; exact IM.setI h_M8 h_v3_
      clear e_M20
      refine post_let (fun M21 e_M21 => ?_)
      have h_M21 : IM M21 := by rw [e_M21]; exact IM.setI h_M20 h_v2_
      clear e_M21
      exact post_some h_M21
    · refine post_bind (Q := fun r => InR r) (im_MO_isLine  h_M8 h_v2_ h_q9) (fun q12 h_q12 => ?_)
      refine post_ite (fun c_3 => ?_) (fun c_3 => ?_)
      · exact (im_MO_goesFrom_L113 (fun a0_ a1_ a2_ h0_ h1_ h2_ => ih a0_ a1_ a2_ h0_ h1_ h2_) h_M8 h_x1 h_x2 h_v3_ h_q9)
      · refine post_ite (fun c_4 => ?_) (fun c_4 => ?_)
        · refine post_guard (fun c_5 => ?_)
          refine post_let (fun M19 e_M19 => ?_)
          have h_M19 : IM M19 := by rw [e_M19]; exact IM.setI h_M8 (h_M8 _ _)
          clear e_M19
          exact (im_MO_goesFrom_L103 (fun a0_ a1_ a2_ h0_ h1_ h2_ => ih a0_ a1_ a2_ h0_ h1_ h2_) h_M19 h_x1 h_x2 h_v3_ h_q9)
        · exact (im_MO_goesFrom_L103 (fun a0_ a1_ a2_ h0_ h1_ h2_ => ih a0_ a1_ a2_ h0_ h1_ h2_) h_M8 h_x1 h_x2 h_v3_ h_q9)
theorem im_MO_goesFrom_L2 {x1 : Int} {x2 : Int}  (h_x1 : InR x1) (h_x2 : InR x2) : ∀ (fu : Nat) (M : Mem) (v3_ : Int), IM M → InR v3_ → Post (fun r => IM r) (t_MO_goesFrom_L2 x1 x2 fu M v3_) := by
  intro fu
  induction fu with
  | zero => intro M v3_ h_M h_v3_; exact post_none
  | succ fu ih =>
    intro M v3_ h_M h_v3_
    rw [t_MO_goesFrom_L2]
    refine post_ite (fun c_1 => ?_) (fun c_1 => ?_)
    · refine post_let (fun M2 e_M2 => ?_)
      have h_M2 : IM M2 := by rw [e_M2]; exact IM.setI h_M (inr_c rfl)
      clear e_M2
      refine post_let (fun M3 e_M3 => ?_)
      have h_M3 : IM M3 := by rw [e_M3]; exact IM.setI h_M2 (inr_c rfl)
      clear e_M3
      refine post_let (fun M4 e_M4 => ?_)
      have h_M4 : IM M4 := by rw [e_M4]; exact IM.setI h_M3 (inr_c rfl)
      clear e_M4
      exact (im_MO_goesFrom_L41  h_x1 h_x2 _ _ _ _ h_M4 h_x2 (inr_c rfl))
    · refine post_guard (fun c_2 => ?_)
      refine post_let (fun M6 e_M6 => ?_)
      have h_M6 : IM M6 := by rw [e_M6]; exact IM.setI h_M (inr_c rfl)
      clear e_M6
      exact (ih _ _ h_M6 (inr_w32 _))
theorem im_MO_goesFrom {x1 : Int} {x2 : Int} {M : Mem}  (h_M : IM M) (h_x1 : InR x1) (h_x2 : InR x2) : Post (fun r => IM r) (t_MO_goesFrom M x1 x2) := by
  unfold t_MO_goesFrom
  exact (im_MO_goesFrom_L2  h_x1 h_x2 _ _ _ h_M (inr_c rfl))
theorem im_MO_stands {x1 : Int} {M : Mem}  (h_M : IM M) (h_x1 : InR x1) : Post (fun r => InR r) (t_MO_stands M x1) := by
  unfold t_MO_stands
  refine post_guard (fun c_1 => ?_)
  refine post_ite (fun c_2 => ?_) (fun c_2 => ?_)
  · refine post_guard (fun c_3 => ?_)
    refine post_ite (fun c_4 => ?_) (fun c_4 => ?_)
    · refine post_bind (Q := fun r => InR r) (im_MO_downOf  h_M (inr_c rfl) h_x1) (fun q7 h_q7 => ?_)
      refine post_ite (fun c_5 => ?_) (fun c_5 => ?_)
      · exact post_some (inr_c rfl)
      · refine post_bind (Q := fun r => InR r) (im_MO_beside  h_M h_x1 h_q7) (fun q10 h_q10 => ?_)
        refine post_ite (fun c_6 => ?_) (fun c_6 => ?_)
        · exact post_some (inr_c rfl)
        · refine post_guard (fun c_7 => ?_)
          refine post_ite (fun c_8 => ?_) (fun c_8 => ?_)
          · exact post_some (inr_c rfl)
          · exact post_some (inr_c rfl)
    · exact post_some (inr_c rfl)
  · exact post_some (inr_c rfl)
theorem im_MO_cell_L28 {x1 : Int} {x2 : Int} {v4_ : Int} {M : Mem}  (h_M : IM M) (h_x1 : InR x1) (h_x2 : InR x2) (h_v4_ : InR v4_) : Post (fun r => IM r.1 ∧ InR r.2) (t_MO_cell_L28 x1 x2 M v4_) := by
  unfold t_MO_cell_L28
  refine post_let (fun M6 e_M6 => ?_)
  have h_M6 : IM M6 := by rw [e_M6]; exact IM.setI h_M h_v4_
  clear e_M6
  refine post_ite (fun c_1 => ?_) (fun c_1 => ?_)
  · refine post_ite (fun c_2 => ?_) (fun c_2 => ?_)
    · refine post_guard (fun c_3 => ?_)
      exact post_some ⟨h_M6, (inr_w32 _)⟩
    · refine post_ite (fun c_4 => ?_) (fun c_4 => ?_)
      · refine post_guard (fun c_5 => ?_)
        refine post_ite (fun c_6 => ?_) (fun c_6 => ?_)
        · exact post_some ⟨h_M6, (inr_c rfl)⟩
        · exact post_some ⟨h_M6, (inr_c rfl)⟩
      · refine post_ite (fun c_7 => ?_) (fun c_7 => ?_)
        · refine post_guard (fun c_8 => ?_)
          refine post_ite (fun c_9 => ?_) (fun c_9 => ?_)
          · exact post_some ⟨h_M6, (inr_c rfl)⟩
          · exact post_some ⟨h_M6, (inr_c rfl)⟩
        · refine post_ite (fun c_10 => ?_) (fun c_10 => ?_)
          · exact post_some ⟨h_M6, (inrq_l2i)⟩
          · refine post_ite (fun c_11 => ?_) (fun c_11 => ?_)
            · exact post_some ⟨h_M6, (inrq_l2i)⟩
            · refine post_ite (fun c_12 => ?_) (fun c_12 => ?_)
              · refine post_bind (Q := fun r => InR r) (im_MO_thingIn  h_M6 (inr_c rfl) h_x1) (fun q23 h_q23 => ?_)
                exact post_some ⟨h_M6, h_q23⟩
              · refine post_ite (fun c_13 => ?_) (fun c_13 => ?_)
                · refine post_guard (fun c_14 => ?_)
                  refine post_ite (fun c_15 => ?_) (fun c_15 => ?_)
                  · refine post_bind (Q := fun r => InR r) (im_MO_nextOf  h_M6 (inr_c rfl) h_x1) (fun q29 h_q29 => ?_)
                    exact post_some ⟨h_M6, h_q29⟩
                  · exact post_some ⟨h_M6, (inr_c rfl)⟩
                · refine post_bind (Q := fun r => InR r) (im_MO_stands  h_M6 h_x1) (fun q31 h_q31 => ?_)
                  refine post_ite (fun c_16 => ?_) (fun c_16 => ?_)
                  · exact post_some ⟨h_M6, (inr_c rfl)⟩
                  · exact post_some ⟨h_M6, (inr_c rfl)⟩
  · exact post_some ⟨h_M6, (inr_c rfl)⟩
theorem im_MO_cell_L23 {x1 : Int} {x2 : Int} {M : Mem}  (h_M : IM M) (h_x1 : InR x1) (h_x2 : InR x2) : Post (fun r => IM r.1 ∧ InR r.2) (t_MO_cell_L23 x1 x2 M) := by
  unfold t_MO_cell_L23
  exact (im_MO_cell_L28  h_M h_x1 h_x2 (inr_c rfl))
theorem im_MO_cell {x1 : Int} {x2 : Int} {M : Mem}  (h_M : IM M) (h_x1 : InR x1) (h_x2 : InR x2) : Post (fun r => IM r.1 ∧ InR r.2) (t_MO_cell M x1 x2) := by
  unfold t_MO_cell
  refine post_let (fun q1 e_q1 => ?_)
  have h_q1 : (fun r => InR r) q1 := by rw [e_q1]; exact (im_MO_isCell  h_M h_x1)
  clear e_q1
  refine post_ite (fun c_1 => ?_) (fun c_1 => ?_)
  · exact (im_MO_cell_L28  h_M h_x1 h_x2 (inr_c rfl))
  · refine post_ite (fun c_2 => ?_) (fun c_2 => ?_)
    · exact (im_MO_cell_L23  h_M h_x1 h_x2)
    · refine post_ite (fun c_3 => ?_) (fun c_3 => ?_)
      · exact (im_MO_cell_L28  h_M h_x1 h_x2 (inr_c rfl))
      · exact (im_MO_cell_L23  h_M h_x1 h_x2)
theorem im_MO_sizeOf_L30 {x1 : Int} {bk4 : Mem → Int → Int → Option (Int)} {v2_ : Int} {v3_ : Int} {v4_ : Int} {M : Mem} (hbk4 : ∀ (a0_ : Mem) (a1_ : Int) (a2_ : Int), IM a0_ → InR a1_ → InR a2_ → Post (fun r => InR r) (bk4 a0_ a1_ a2_)) (h_M : IM M) (h_x1 : InR x1) (h_v2_ : InR v2_) (h_v3_ : InR v3_) (h_v4_ : InR v4_) : Post (fun r => InR r) (t_MO_sizeOf_L30 x1 bk4 M v2_ v3_ v4_) := by
  unfold t_MO_sizeOf_L30
  exact hbk4 _ _ _  h_M (inr_w32 _) (inr_w32 _)
theorem im_MO_sizeOf_L4 {x1 : Int}  (h_x1 : InR x1) : ∀ (fu : Nat) (M : Mem) (v2_ : Int) (v3_ : Int), IM M → InR v2_ → InR v3_ → Post (fun r => InR r) (t_MO_sizeOf_L4 x1 fu M v2_ v3_) := by
  intro fu
  induction fu with
  | zero => intro M v2_ v3_ h_M h_v2_ h_v3_; exact post_none
  | succ fu ih =>
    intro M v2_ v3_ h_M h_v2_ h_v3_
    rw [t_MO_sizeOf_L4]
    refine post_let (fun q1 e_q1 => ?_)
    have h_q1 : (fun r => InR r) q1 := by rw [e_q1]; exact (im_MO_cells  h_M )
    clear e_q1
    refine post_ite (fun c_1 => ?_) (fun c_1 => ?_)
    · exact post_some h_v2_
    · refine post_guard (fun c_2 => ?_)
      refine post_ite (fun c_3 => ?_) (fun c_3 => ?_)
      · exact (im_MO_sizeOf_L30 (fun a0_ a1_ a2_ h0_ h1_ h2_ => ih a0_ a1_ a2_ h0_ h1_ h2_) h_M h_x1 h_v3_ h_v2_ (inr_c rfl))
      · exact (im_MO_sizeOf_L30 (fun a0_ a1_ a2_ h0_ h1_ h2_ => ih a0_ a1_ a2_ h0_ h1_ h2_) h_M h_x1 h_v3_ h_v2_ (inr_c rfl))
theorem im_MO_sizeOf {x1 : Int} {M : Mem}  (h_M : IM M) (h_x1 : InR x1) : Post (fun r => InR r) (t_MO_sizeOf M x1) := by
  unfold t_MO_sizeOf
  exact (im_MO_sizeOf_L4  h_x1 _ _ _ _ h_M (inr_c rfl) (inr_c rfl))
theorem im_MO_callsJoy_L97 {x1 : Int} {x2 : Int} {bk11 : Mem → Int → Int → Int → Int → Option (Mem)} {v3_ : Int} {v4_ : Int} {v5_ : Int} {v6_ : Int} {M : Mem} (hbk11 : ∀ (a0_ : Mem) (a1_ : Int) (a2_ : Int) (a3_ : Int) (a4_ : Int), IM a0_ → InR a1_ → InR a2_ → InR a3_ → InR a4_ → Post (fun r => IM r) (bk11 a0_ a1_ a2_ a3_ a4_)) (h_M : IM M) (h_x1 : InR x1) (h_x2 : InR x2) (h_v3_ : InR v3_) (h_v4_ : InR v4_) (h_v5_ : InR v5_) (h_v6_ : InR v6_) : Post (fun r => IM r) (t_MO_callsJoy_L97 x1 x2 bk11 M v3_ v4_ v5_ v6_) := by
  unfold t_MO_callsJoy_L97
  exact hbk11 _ _ _ _ _  h_M h_v3_ h_v4_ h_v5_ (inr_w32 _)
theorem im_MO_callsJoy_L94 {x1 : Int} {x2 : Int} {bk11 : Mem → Int → Int → Int → Int → Option (Mem)} {v3_ : Int} {v4_ : Int} {v5_ : Int} {v6_ : Int} {v7_ : Int} {M : Mem} (hbk11 : ∀ (a0_ : Mem) (a1_ : Int) (a2_ : Int) (a3_ : Int) (a4_ : Int), IM a0_ → InR a1_ → InR a2_ → InR a3_ → InR a4_ → Post (fun r => IM r) (bk11 a0_ a1_ a2_ a3_ a4_)) (h_M : IM M) (h_x1 : InR x1) (h_x2 : InR x2) (h_v3_ : InR v3_) (h_v4_ : InR v4_) (h_v5_ : InR v5_) (h_v6_ : InR v6_) (h_v7_ : InR v7_) : Post (fun r => IM r) (t_MO_callsJoy_L94 x1 x2 bk11 M v3_ v4_ v5_ v6_ v7_) := by
  unfold t_MO_callsJoy_L94
  exact (im_MO_callsJoy_L97 hbk11 h_M h_x1 h_x2 h_v3_ h_v4_ (inr_w32 _) h_v5_)
theorem im_MO_callsJoy_L11 {x1 : Int} {x2 : Int}  (h_x1 : InR x1) (h_x2 : InR x2) : ∀ (fu : Nat) (M : Mem) (v3_ : Int) (v4_ : Int) (v5_ : Int) (v6_ : Int), IM M → InR v3_ → InR v4_ → InR v5_ → InR v6_ → Post (fun r => IM r) (t_MO_callsJoy_L11 x1 x2 fu M v3_ v4_ v5_ v6_) := by
  intro fu
  induction fu with
  | zero => intro M v3_ v4_ v5_ v6_ h_M h_v3_ h_v4_ h_v5_ h_v6_; exact post_none
  | succ fu ih =>
    intro M v3_ v4_ v5_ v6_ h_M h_v3_ h_v4_ h_v5_ h_v6_
    rw [t_MO_callsJoy_L11]
    refine post_ite (fun c_1 => ?_) (fun c_1 => ?_)
    · refine post_guard (fun c_2 => ?_)
      refine post_let (fun M5 e_M5 => ?_)
      have h_M5 : IM M5 := by rw [e_M5]; exact IM.setL h_M
      clear e_M5
      refine post_bind (Q := fun r => InR r) (im_MO_sizeOf  h_M5 h_x2) (fun q6 h_q6 => ?_)
      refine post_let (fun M8 e_M8 => ?_)
      have h_M8 : IM M8 := by rw [e_M8]; exact IM.setL h_M5
      clear e_M8
      refine post_let (fun M9 e_M9 => ?_)
      have h_M9 : IM M9 := by rw [e_M9]; exact IM.setL h_M8
      clear e_M9
      refine post_let (fun M10 e_M10 => ?_)
      have h_M10 : IM M10 := by rw [e_M10]; exact IM.setL h_M9
      clear e_M10
      refine post_let (fun M11 e_M11 => ?_)
      have h_M11 : IM M11 := by rw [e_M11]; exact IM.setL h_M10
      clear e_M11
      refine post_let (fun M12 e_M12 => ?_)
      have h_M12 : IM M12 := by rw [e_M12]; exact IM.setL h_M11
      clear e_M12
      refine post_guard (fun c_3 => ?_)
      refine post_let (fun M15 e_M15 => ?_)
      have h_M15 : IM M15 := by rw [e_M15]; exact IM.setL h_M12
      clear e_M15
      exact post_some h_M15
    · refine post_guard (fun c_4 => ?_)
      refine post_bind (Q := fun r => IM r) (im_MO_goesFrom  h_M h_x1 (h_M _ _)) (fun q18 h_q18 => ?_)
      refine post_ite (fun c_5 => ?_) (fun c_5 => ?_)
      · exact (im_MO_callsJoy_L97 (fun a0_ a1_ a2_ a3_ a4_ h0_ h1_ h2_ h3_ h4_ => ih a0_ a1_ a2_ a3_ a4_ h0_ h1_ h2_ h3_ h4_) h_q18 h_x1 h_x2 h_v3_ h_v4_ h_v5_ h_v6_)
      · refine post_guard (fun c_6 => ?_)
        refine post_ite (fun c_7 => ?_) (fun c_7 => ?_)
        · refine post_guard (fun c_8 => ?_)
          refine post_ite (fun c_9 => ?_) (fun c_9 => ?_)
          · exact (im_MO_callsJoy_L94 (fun a0_ a1_ a2_ a3_ a4_ h0_ h1_ h2_ h3_ h4_ => ih a0_ a1_ a2_ a3_ a4_ h0_ h1_ h2_ h3_ h4_) h_q18 h_x1 h_x2 (inr_w32 _) (inr_w32 _) h_v6_ h_v5_ (inr_c rfl))
          · exact (im_MO_callsJoy_L94 (fun a0_ a1_ a2_ a3_ a4_ h0_ h1_ h2_ h3_ h4_ => ih a0_ a1_ a2_ a3_ a4_ h0_ h1_ h2_ h3_ h4_) h_q18 h_x1 h_x2 (inr_w32 _) (inr_w32 _) h_v6_ h_v5_ (inr_c rfl))
        · exact (im_MO_callsJoy_L97 (fun a0_ a1_ a2_ a3_ a4_ h0_ h1_ h2_ h3_ h4_ => ih a0_ a1_ a2_ a3_ a4_ h0_ h1_ h2_ h3_ h4_) h_q18 h_x1 h_x2 h_v3_ h_v4_ h_v5_ h_v6_)
theorem im_MO_callsJoy {x1 : Int} {x2 : Int} {M : Mem}  (h_M : IM M) (h_x1 : InR x1) (h_x2 : InR x2) : Post (fun r => IM r) (t_MO_callsJoy M x1 x2) := by
  unfold t_MO_callsJoy
  exact (im_MO_callsJoy_L11  h_x1 h_x2 _ _ _ _ _ _ h_M (inr_c rfl) (inr_c rfl) (inr_c rfl) (inr_c rfl))
theorem im_MO_hasLaw {x1 : Int} {M : Mem}  (h_M : IM M) (h_x1 : InR x1) : Post (fun r => InR r) (t_MO_hasLaw M x1) := by
  unfold t_MO_hasLaw
  refine post_guard (fun c_1 => ?_)
  refine post_guard (fun c_2 => ?_)
  refine post_ite (fun c_3 => ?_) (fun c_3 => ?_)
  · exact post_some (inr_c rfl)
  · exact post_some (inr_c rfl)
theorem im_MO_works_L40 {x1 : Int} {v1_ : Int} {v2_ : Int} {M : Mem}  (h_M : IM M) (h_x1 : InR x1) (h_v1_ : InR v1_) (h_v2_ : InR v2_) : Post (fun r => IM r.1 ∧ InR r.2) (t_MO_works_L40 x1 M v1_ v2_) := by
  unfold t_MO_works_L40
  refine post_let (fun q56 _ => ?_)
  refine post_guard (fun c_1 => ?_)
  refine post_let (fun M59 e_M59 => ?_)
  have h_M59 : IM M59 := by rw [e_M59]; exact IM.setL h_M
  clear e_M59
  exact post_some ⟨h_M59, (inr_c rfl)⟩
theorem im_MO_works_L407 {x1 : Int} {v1_ : Int64} {M : Mem}  (h_M : IM M) (h_x1 : InR x1) : Post (fun r => IM r.1 ∧ InR r.2) (t_MO_works_L407 x1 M v1_) := by
  unfold t_MO_works_L407
  refine post_guard (fun c_1 => ?_)
  refine post_let (fun M37 e_M37 => ?_)
  have h_M37 : IM M37 := by rw [e_M37]; exact IM.setL h_M
  clear e_M37
  refine post_ite (fun c_2 => ?_) (fun c_2 => ?_)
  · exact post_some ⟨h_M37, (inr_c rfl)⟩
  · refine post_ite (fun c_3 => ?_) (fun c_3 => ?_)
    · exact post_some ⟨h_M37, (inr_c rfl)⟩
    · exact post_some ⟨h_M37, (inr_c rfl)⟩
theorem im_MO_works_L212 {x1 : Int} {v1_ : Int64} {v2_ : Int64} {M : Mem}  (h_M : IM M) (h_x1 : InR x1) : Post (fun r => IM r.1 ∧ InR r.2) (t_MO_works_L212 x1 M v1_ v2_) := by
  unfold t_MO_works_L212
  exact (im_MO_works_L407  h_M h_x1)
theorem im_MO_works_L250 {x1 : Int} {v1_ : Int} {M : Mem}  (h_M : IM M) (h_x1 : InR x1) (h_v1_ : InR v1_) : Post (fun r => IM r.1 ∧ InR r.2) (t_MO_works_L250 x1 M v1_) := by
  unfold t_MO_works_L250
  refine post_let (fun q40 _ => ?_)
  exact (im_MO_works_L407  h_M h_x1)
theorem im_MO_works_L270 {x1 : Int} {v1_ : Int} {M : Mem}  (h_M : IM M) (h_x1 : InR x1) (h_v1_ : InR v1_) : Post (fun r => IM r.1 ∧ InR r.2) (t_MO_works_L270 x1 M v1_) := by
  unfold t_MO_works_L270
  refine post_let (fun q44 _ => ?_)
  exact (im_MO_works_L407  h_M h_x1)
theorem im_MO_works_L290 {x1 : Int} {v1_ : Int} {M : Mem}  (h_M : IM M) (h_x1 : InR x1) (h_v1_ : InR v1_) : Post (fun r => IM r.1 ∧ InR r.2) (t_MO_works_L290 x1 M v1_) := by
  unfold t_MO_works_L290
  refine post_let (fun q42 _ => ?_)
  exact (im_MO_works_L407  h_M h_x1)
theorem im_MO_works_L310 {x1 : Int} {v1_ : Int} {M : Mem}  (h_M : IM M) (h_x1 : InR x1) (h_v1_ : InR v1_) : Post (fun r => IM r.1 ∧ InR r.2) (t_MO_works_L310 x1 M v1_) := by
  unfold t_MO_works_L310
  refine post_let (fun q46 _ => ?_)
  exact (im_MO_works_L407  h_M h_x1)
theorem im_MO_works_L330 {x1 : Int} {v1_ : Int} {M : Mem}  (h_M : IM M) (h_x1 : InR x1) (h_v1_ : InR v1_) : Post (fun r => IM r.1 ∧ InR r.2) (t_MO_works_L330 x1 M v1_) := by
  unfold t_MO_works_L330
  refine post_let (fun q50 _ => ?_)
  exact (im_MO_works_L407  h_M h_x1)
theorem im_MO_works_L350 {x1 : Int} {v1_ : Int} {M : Mem}  (h_M : IM M) (h_x1 : InR x1) (h_v1_ : InR v1_) : Post (fun r => IM r.1 ∧ InR r.2) (t_MO_works_L350 x1 M v1_) := by
  unfold t_MO_works_L350
  refine post_let (fun q48 _ => ?_)
  exact (im_MO_works_L407  h_M h_x1)
theorem im_MO_works_L376 {x1 : Int} {v1_ : Int} {M : Mem}  (h_M : IM M) (h_x1 : InR x1) (h_v1_ : InR v1_) : Post (fun r => IM r.1 ∧ InR r.2) (t_MO_works_L376 x1 M v1_) := by
  unfold t_MO_works_L376
  refine post_let (fun q52 _ => ?_)
  exact (im_MO_works_L407  h_M h_x1)
theorem im_MO_works_L375 {x1 : Int} {M : Mem}  (h_M : IM M) (h_x1 : InR x1) : Post (fun r => IM r.1 ∧ InR r.2) (t_MO_works_L375 x1 M) := by
  unfold t_MO_works_L375
  exact (im_MO_works_L376  h_M h_x1 (inr_c rfl))
theorem im_MO_works_L402 {x1 : Int} {v1_ : Int} {M : Mem}  (h_M : IM M) (h_x1 : InR x1) (h_v1_ : InR v1_) : Post (fun r => IM r.1 ∧ InR r.2) (t_MO_works_L402 x1 M v1_) := by
  unfold t_MO_works_L402
  refine post_let (fun q54 _ => ?_)
  exact (im_MO_works_L407  h_M h_x1)
end
