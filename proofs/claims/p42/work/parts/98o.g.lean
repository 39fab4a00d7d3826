section
/-! ===== the reference: no place without a fault (printed by wip/gen2/qm.py) ===== -/
def QM (M : Mem) : Prop := M.1 191 24 = 0 → M.1 191 25 = -1
theorem QM.setI {M : Mem} {k : Nat} {j v : Int} (h : QM M) (hd : ¬ (k = 191 ∧ (j = 24 ∨ j = 25))) : QM (setI M k j v) := by
  unfold QM
  rw [sI_ne (by omega), sI_ne (by omega)]
  exact h
theorem QM.setL {M : Mem} {k : Nat} {j : Int} {v : Int64} (h : QM M) : QM (setL M k j v) := h
theorem qm_MO_wrong {x1 : Int} {M : Mem} (h_M : QM M) (h_x1 : x1 ≠ 0) : (fun r => QM r) (t_MO_wrong M x1) := by
  show QM (t_MO_wrong M x1)
  unfold t_MO_wrong
  by_cases c : M.1 191 24 = 0
  · rw [if_pos c]
    simp (config := { proj := false }) only [qlet]
    intro z
    rw [sI_ne (by omega), sI_self] at z
    exact absurd z h_x1
  · rw [if_neg c]; exact h_M
theorem qm_MO_here  {M : Mem}  (h_M : QM M)  : Post (fun _ => True) (t_MO_here M) := by
  unfold t_MO_here
  refine post_ite (fun c_1 => ?_) (fun c_1 => ?_)
  · exact post_some True.intro
  · refine post_guard (fun c_2 => ?_)
    exact post_some True.intro
theorem qm_MO_isSmall {x1 : Int} {M : Mem} (h_M : QM M) (h_x1 : True) : (fun _ => True) (t_MO_isSmall M x1) := by
  show Pl (fun _ => True) (t_MO_isSmall M x1)
  unfold t_MO_isSmall
  refine pl_ite (fun c_1 => ?_) (fun c_1 => ?_)
  · exact True.intro
  · refine pl_ite (fun c_2 => ?_) (fun c_2 => ?_)
    · exact True.intro
    · exact True.intro
theorem qm_MO_isDigit {x1 : Int} {M : Mem} (h_M : QM M) (h_x1 : True) : (fun _ => True) (t_MO_isDigit M x1) := by
  show Pl (fun _ => True) (t_MO_isDigit M x1)
  unfold t_MO_isDigit
  refine pl_ite (fun c_1 => ?_) (fun c_1 => ?_)
  · exact True.intro
  · refine pl_ite (fun c_2 => ?_) (fun c_2 => ?_)
    · exact True.intro
    · exact True.intro
theorem qm_MO_word_L97 {bk4 : Mem → Int → Int → Option (Int)} (hbk4 : ∀ (a0_ : Mem) (a1_ : Int) (a2_ : Int), QM a0_ → True → True → Post (fun _ => True) (bk4 a0_ a1_ a2_))  : ∀ (fu : Nat) (M : Mem) (v1_ : Int) (v2_ : Int), QM M → True → True → Post (fun _ => True) (t_MO_word_L97 bk4 fu M v1_ v2_) := by
  intro fu
  induction fu with
  | zero => intro M v1_ v2_ h_M h_v1_ h_v2_; exact post_none
  | succ fu ih =>
    intro M v1_ v2_ h_M h_v1_ h_v2_
    rw [t_MO_word_L97]
    refine post_guard (fun c_1 => ?_)
    refine post_ite (fun c_2 => ?_) (fun c_2 => ?_)
    · exact hbk4 _ _ _  h_M True.intro True.intro
    · exact (ih _ _ _ h_M True.intro True.intro)
theorem qm_MO_word_L69 {bk4 : Mem → Int → Int → Option (Int)} {v1_ : Int} {v2_ : Int} {v3_ : Int} {M : Mem} (hbk4 : ∀ (a0_ : Mem) (a1_ : Int) (a2_ : Int), QM a0_ → True → True → Post (fun _ => True) (bk4 a0_ a1_ a2_)) (h_M : QM M) (h_v1_ : True) (h_v2_ : True) (h_v3_ : True) : Post (fun _ => True) (t_MO_word_L69 bk4 M v1_ v2_ v3_) := by
  unfold t_MO_word_L69
  refine post_guard (fun c_1 => ?_)
  refine post_ite (fun c_2 => ?_) (fun c_2 => ?_)
  · refine post_ite (fun c_3 => ?_) (fun c_3 => ?_)
    · exact post_some True.intro
    · exact (qm_MO_word_L97 hbk4  _ _ _ _ h_M True.intro True.intro)
  · exact (qm_MO_word_L97 hbk4  _ _ _ _ h_M True.intro True.intro)
theorem qm_MO_word_L15 {bk4 : Mem → Int → Int → Option (Int)} (hbk4 : ∀ (a0_ : Mem) (a1_ : Int) (a2_ : Int), QM a0_ → True → True → Post (fun _ => True) (bk4 a0_ a1_ a2_))  : ∀ (fu : Nat) (M : Mem) (v1_ : Int) (v2_ : Int) (v3_ : Int), QM M → True → True → True → Post (fun _ => True) (t_MO_word_L15 bk4 fu M v1_ v2_ v3_) := by
  intro fu
  induction fu with
  | zero => intro M v1_ v2_ v3_ h_M h_v1_ h_v2_ h_v3_; exact post_none
  | succ fu ih =>
    intro M v1_ v2_ v3_ h_M h_v1_ h_v2_ h_v3_
    rw [t_MO_word_L15]
    refine post_guard (fun c_1 => ?_)
    refine post_ite (fun c_2 => ?_) (fun c_2 => ?_)
    · exact (qm_MO_word_L69 hbk4 h_M True.intro True.intro True.intro)
    · refine post_ite (fun c_3 => ?_) (fun c_3 => ?_)
      · exact (qm_MO_word_L69 hbk4 h_M True.intro True.intro True.intro)
      · refine post_guard (fun c_4 => ?_)
        refine post_guard (fun c_5 => ?_)
        refine post_ite (fun c_6 => ?_) (fun c_6 => ?_)
        · exact (ih _ _ _ _ h_M True.intro True.intro True.intro)
        · exact (qm_MO_word_L69 hbk4 h_M True.intro True.intro True.intro)
theorem qm_MO_word_L4    : ∀ (fu : Nat) (M : Mem) (v1_ : Int) (v2_ : Int), QM M → True → True → Post (fun _ => True) (t_MO_word_L4  fu M v1_ v2_) := by
  intro fu
  induction fu with
  | zero => intro M v1_ v2_ h_M h_v1_ h_v2_; exact post_none
  | succ fu ih =>
    intro M v1_ v2_ h_M h_v1_ h_v2_
    rw [t_MO_word_L4]
    refine post_ite (fun c_1 => ?_) (fun c_1 => ?_)
    · exact post_some True.intro
    · exact (qm_MO_word_L15 (fun a0_ a1_ a2_ h0_ h1_ h2_ => ih a0_ a1_ a2_ h0_ h1_ h2_)  _ _ _ _ _ h_M True.intro True.intro True.intro)
theorem qm_MO_word  {M : Mem}  (h_M : QM M)  : Post (fun _ => True) (t_MO_word M) := by
  unfold t_MO_word
  exact (qm_MO_word_L4   _ _ _ _ h_M True.intro True.intro)
theorem qm_MO_name_L53 {bk7 : Mem → Int → Option (Mem)} {v1_ : Int} {v3_ : Int} {v4_ : Int} {M : Mem} (hbk7 : ∀ (a0_ : Mem) (a1_ : Int), QM a0_ → True → Post (fun r => QM r) (bk7 a0_ a1_)) (h_M : QM M) (h_v1_ : True) (h_v3_ : True) (h_v4_ : True) : Post (fun r => QM r) (t_MO_name_L53 bk7 M v1_ v3_ v4_) := by
  unfold t_MO_name_L53
  refine post_let (fun M10 e_M10 => ?_)
  have h_M10 : QM M10 := by rw [e_M10]; exact QM.setI h_M (by omega)
  clear e_M10
  exact hbk7 _ _  h_M10 True.intro
theorem qm_MO_name_L7    : ∀ (fu : Nat) (M : Mem) (v1_ : Int), QM M → True → Post (fun r => QM r) (t_MO_name_L7  fu M v1_) := by
  intro fu
  induction fu with
  | zero => intro M v1_ h_M h_v1_; exact post_none
  | succ fu ih =>
    intro M v1_ h_M h_v1_
    rw [t_MO_name_L7]
    refine post_ite (fun c_1 => ?_) (fun c_1 => ?_)
    · exact post_some h_M
    · refine post_ite (fun c_2 => ?_) (fun c_2 => ?_)
      · exact (qm_MO_name_L53 (fun a0_ a1_ h0_ h1_ => ih a0_ a1_ h0_ h1_) h_M True.intro True.intro True.intro)
      · refine post_guard (fun c_3 => ?_)
        exact (qm_MO_name_L53 (fun a0_ a1_ h0_ h1_ => ih a0_ a1_ h0_ h1_) h_M True.intro True.intro True.intro)
theorem qm_MO_name  {M : Mem}  (h_M : QM M)  : Post (fun r => QM r) (t_MO_name M) := by
  unfold t_MO_name
  refine post_let (fun M1 e_M1 => ?_)
  have h_M1 : QM M1 := by rw [e_M1]; exact QM.setI h_M (by omega)
  clear e_M1
  exact (qm_MO_name_L7   _ _ _ h_M1 True.intro)
theorem qm_MO_sign_L150 {x1 : Int} {M : Mem}  (h_M : QM M) (h_x1 : True) : Post (fun r => QM r) (t_MO_sign_L150 x1 M) := by
  unfold t_MO_sign_L150
  refine post_ite (fun c_1 => ?_) (fun c_1 => ?_)
  · exact post_some h_M
  · refine post_let (fun M33 e_M33 => ?_)
    have h_M33 : QM M33 := by rw [e_M33]; exact QM.setI h_M (by omega)
    clear e_M33
    exact post_some h_M33
theorem qm_MO_sign_L128 {x1 : Int} {M : Mem}  (h_M : QM M) (h_x1 : True) : Post (fun r => QM r) (t_MO_sign_L128 x1 M) := by
  unfold t_MO_sign_L128
  refine post_ite (fun c_1 => ?_) (fun c_1 => ?_)
  · refine post_bind (Q := fun _ => True) (qm_MO_here  h_M ) (fun q26 h_q26 => ?_)
    refine post_ite (fun c_2 => ?_) (fun c_2 => ?_)
    · refine post_let (fun M29 e_M29 => ?_)
      have h_M29 : QM M29 := by rw [e_M29]; exact QM.setI h_M (by omega)
      clear e_M29
      exact (qm_MO_sign_L150  h_M29 True.intro)
    · exact (qm_MO_sign_L150  h_M True.intro)
  · exact (qm_MO_sign_L150  h_M True.intro)
theorem qm_MO_sign_L106 {x1 : Int} {M : Mem}  (h_M : QM M) (h_x1 : True) : Post (fun r => QM r) (t_MO_sign_L106 x1 M) := by
  unfold t_MO_sign_L106
  refine post_ite (fun c_1 => ?_) (fun c_1 => ?_)
  · refine post_bind (Q := fun _ => True) (qm_MO_here  h_M ) (fun q21 h_q21 => ?_)
    refine post_ite (fun c_2 => ?_) (fun c_2 => ?_)
    · refine post_let (fun M24 e_M24 => ?_)
      have h_M24 : QM M24 := by rw [e_M24]; exact QM.setI h_M (by omega)
      clear e_M24
      exact (qm_MO_sign_L128  h_M24 True.intro)
    · exact (qm_MO_sign_L128  h_M True.intro)
  · exact (qm_MO_sign_L128  h_M True.intro)
theorem qm_MO_sign_L76 {x1 : Int} {v3_ : Int} {M : Mem}  (h_M : QM M) (h_x1 : True) (h_v3_ : True) : Post (fun r => QM r) (t_MO_sign_L76 x1 M v3_) := by
  unfold t_MO_sign_L76
  refine post_let (fun M13 e_M13 => ?_)
  have h_M13 : QM M13 := by rw [e_M13]; exact QM.setI h_M (by omega)
  clear e_M13
  refine post_let (fun M14 e_M14 => ?_)
  have h_M14 : QM M14 := by rw [e_M14]; exact QM.setI h_M13 (by omega)
  clear e_M14
  refine post_ite (fun c_1 => ?_) (fun c_1 => ?_)
  · refine post_bind (Q := fun _ => True) (qm_MO_here  h_M14 ) (fun q16 h_q16 => ?_)
    refine post_ite (fun c_2 => ?_) (fun c_2 => ?_)
    · refine post_let (fun M19 e_M19 => ?_)
      have h_M19 : QM M19 := by rw [e_M19]; exact QM.setI h_M14 (by omega)
      clear e_M19
      exact (qm_MO_sign_L106  h_M19 True.intro)
    · exact (qm_MO_sign_L106  h_M14 True.intro)
  · exact (qm_MO_sign_L106  h_M14 True.intro)
theorem qm_MO_sign_L71 {x1 : Int} {M : Mem}  (h_M : QM M) (h_x1 : True) : Post (fun r => QM r) (t_MO_sign_L71 x1 M) := by
  unfold t_MO_sign_L71
  exact (qm_MO_sign_L76  h_M True.intro True.intro)
theorem qm_MO_sign {x1 : Int} {M : Mem}  (h_M : QM M) (h_x1 : True) : Post (fun r => QM r) (t_MO_sign M x1) := by
  unfold t_MO_sign
  refine post_let (fun M2 e_M2 => ?_)
  have h_M2 : QM M2 := by rw [e_M2]; exact QM.setI h_M (by omega)
  clear e_M2
  refine post_ite (fun c_1 => ?_) (fun c_1 => ?_)
  · exact (qm_MO_sign_L71  h_M2 True.intro)
  · refine post_ite (fun c_2 => ?_) (fun c_2 => ?_)
    · exact (qm_MO_sign_L71  h_M2 True.intro)
    · refine post_ite (fun c_3 => ?_) (fun c_3 => ?_)
      · exact (qm_MO_sign_L71  h_M2 True.intro)
      · refine post_ite (fun c_4 => ?_) (fun c_4 => ?_)
        · exact (qm_MO_sign_L71  h_M2 True.intro)
        · refine post_ite (fun c_5 => ?_) (fun c_5 => ?_)
          · exact (qm_MO_sign_L71  h_M2 True.intro)
          · refine post_ite (fun c_6 => ?_) (fun c_6 => ?_)
            · exact (qm_MO_sign_L71  h_M2 True.intro)
            · refine post_ite (fun c_7 => ?_) (fun c_7 => ?_)
              · exact (qm_MO_sign_L71  h_M2 True.intro)
              · refine post_ite (fun c_8 => ?_) (fun c_8 => ?_)
                · exact (qm_MO_sign_L71  h_M2 True.intro)
                · refine post_ite (fun c_9 => ?_) (fun c_9 => ?_)
                  · exact (qm_MO_sign_L71  h_M2 True.intro)
                  · refine post_ite (fun c_10 => ?_) (fun c_10 => ?_)
                    · exact (qm_MO_sign_L71  h_M2 True.intro)
                    · exact (qm_MO_sign_L76  h_M2 True.intro True.intro)
theorem qm_MO_token_L18 {bk0 : Mem → Option (Mem)} {M : Mem} (hbk0 : ∀ (a0_ : Mem), QM a0_ → Post (fun r => QM r) (bk0 a0_)) (h_M : QM M)  : Post (fun r => QM r) (t_MO_token_L18 bk0 M) := by
  unfold t_MO_token_L18
  refine post_let (fun M24 e_M24 => ?_)
  have h_M24 : QM M24 := by rw [e_M24]; exact QM.setI h_M (by omega)
  clear e_M24
  exact hbk0 _  h_M24
theorem qm_MO_token_L127 {v2_ : Int} {M : Mem}  (h_M : QM M) (h_v2_ : True) : Post (fun r => QM r) (t_MO_token_L127 M v2_) := by
  unfold t_MO_token_L127
  refine post_let (fun M54 e_M54 => ?_)
  have h_M54 : QM M54 := by rw [e_M54]; exact QM.setI h_M (by omega)
  clear e_M54
  refine post_ite (fun c_1 => ?_) (fun c_1 => ?_)
  · refine post_bind (Q := fun r => QM r) (qm_MO_name  h_M54 ) (fun q57 h_q57 => ?_)
    exact post_some h_q57
  · exact post_some h_M54
theorem qm_MO_token_L64    : ∀ (fu : Nat) (M : Mem) , QM M → Post (fun r => QM r) (t_MO_token_L64  fu M ) := by
  intro fu
  induction fu with
  | zero => intro M  h_M; exact post_none
  | succ fu ih =>
    intro M  h_M
    rw [t_MO_token_L64]
    refine post_bind (Q := fun _ => True) (qm_MO_here  h_M ) (fun q36 h_q36 => ?_)
    refine post_let (fun q38 e_q38 => ?_)
    have h_q38 : True := True.intro
    clear e_q38
    refine post_ite (fun c_1 => ?_) (fun c_1 => ?_)
    · refine post_bind (Q := fun _ => True) (qm_MO_word  h_M ) (fun q41 h_q41 => ?_)
      refine post_let (fun M43 e_M43 => ?_)
      have h_M43 : QM M43 := by rw [e_M43]; exact QM.setI h_M (by omega)
      clear e_M43
      refine post_ite (fun c_2 => ?_) (fun c_2 => ?_)
      · refine post_ite (fun c_3 => ?_) (fun c_3 => ?_)
        · exact (qm_MO_token_L127  h_M43 True.intro)
        · exact (qm_MO_token_L127  h_M43 True.intro)
      · exact (qm_MO_token_L127  h_M43 True.intro)
    · refine post_let (fun M50 e_M50 => ?_)
      have h_M50 : QM M50 := by rw [e_M50]; exact QM.setI h_M (by omega)
      clear e_M50
      exact (ih _ h_M50 )
theorem qm_MO_token_L204 {bk162 : Mem → Option (Mem)} {v2_ : Int} {M : Mem} (hbk162 : ∀ (a0_ : Mem), QM a0_ → Post (fun r => QM r) (bk162 a0_)) (h_M : QM M) (h_v2_ : True) : Post (fun r => QM r) (t_MO_token_L204 bk162 M v2_) := by
  unfold t_MO_token_L204
  refine post_let (fun M51 e_M51 => ?_)
  have h_M51 : QM M51 := by rw [e_M51]; exact QM.setI h_M (by omega)
  clear e_M51
  refine post_let (fun M53 e_M53 => ?_)
  have h_M53 : QM M53 := by rw [e_M53]; exact QM.setI h_M51 (by omega)
  clear e_M53
  exact hbk162 _  h_M53
theorem qm_MO_token_L162    : ∀ (fu : Nat) (M : Mem) , QM M → Post (fun r => QM r) (t_MO_token_L162  fu M ) := by
  intro fu
  induction fu with
  | zero => intro M  h_M; exact post_none
  | succ fu ih =>
    intro M  h_M
    rw [t_MO_token_L162]
    refine post_bind (Q := fun _ => True) (qm_MO_here  h_M ) (fun q25 h_q25 => ?_)
    refine post_let (fun q27 e_q27 => ?_)
    have h_q27 : True := True.intro
    clear e_q27
    refine post_ite (fun c_1 => ?_) (fun c_1 => ?_)
    · exact post_some h_M
    · refine post_ite (fun c_2 => ?_) (fun c_2 => ?_)
      · refine post_bind (Q := fun _ => True) (qm_MO_here  h_M ) (fun q33 h_q33 => ?_)
        exact (qm_MO_token_L204 (fun a0_ h0_ => ih a0_ h0_) h_M True.intro)
      · exact (qm_MO_token_L204 (fun a0_ h0_ => ih a0_ h0_) h_M True.intro)
theorem qm_MO_token_L0    : ∀ (fu : Nat) (M : Mem) , QM M → Post (fun r => QM r) (t_MO_token_L0  fu M ) := by
  intro fu
  induction fu with
  | zero => intro M  h_M; exact post_none
  | succ fu ih =>
    intro M  h_M
    rw [t_MO_token_L0]
    refine post_bind (Q := fun _ => True) (qm_MO_here  h_M ) (fun q1 h_q1 => ?_)
    refine post_ite (fun c_1 => ?_) (fun c_1 => ?_)
    · exact (qm_MO_token_L18 (fun a0_ h0_ => ih a0_ h0_) h_M )
    · refine post_bind (Q := fun _ => True) (qm_MO_here  h_M ) (fun q4 h_q4 => ?_)
      refine post_ite (fun c_2 => ?_) (fun c_2 => ?_)
      · exact (qm_MO_token_L18 (fun a0_ h0_ => ih a0_ h0_) h_M )
      · refine post_let (fun M8 e_M8 => ?_)
        have h_M8 : QM M8 := by rw [e_M8]; exact QM.setI h_M (by omega)
        clear e_M8
        refine post_bind (Q := fun _ => True) (qm_MO_here  h_M8 ) (fun q9 h_q9 => ?_)
        refine post_ite (fun c_3 => ?_) (fun c_3 => ?_)
        · refine post_let (fun M22 e_M22 => ?_)
          have h_M22 : QM M22 := by rw [e_M22]; exact QM.setI h_M8 (by omega)
          clear e_M22
          exact post_some h_M22
        · refine post_let (fun q12 e_q12 => ?_)
          have h_q12 : True := True.intro
          clear e_q12
          refine post_ite (fun c_4 => ?_) (fun c_4 => ?_)
          · refine post_let (fun q15 e_q15 => ?_)
            have h_q15 : True := True.intro
            clear e_q15
            refine post_ite (fun c_5 => ?_) (fun c_5 => ?_)
            · refine post_bind (Q := fun r => QM r) (qm_MO_sign  h_M8 True.intro) (fun q18 h_q18 => ?_)
              exact post_some h_q18
            · refine post_let (fun M20 e_M20 => ?_)
              have h_M20 : QM M20 := by rw [e_M20]; exact QM.setI h_M8 (by omega)
              clear e_M20
              refine post_let (fun M21 e_M21 => ?_)
              have h_M21 : QM M21 := by rw [e_M21]; exact QM.setI h_M20 (by omega)
              clear e_M21
              exact (qm_MO_token_L162   _ _ h_M21 )
          · exact (qm_MO_token_L64   _ _ h_M8 )
theorem qm_MO_token  {M : Mem}  (h_M : QM M)  : Post (fun r => QM r) (t_MO_token M) := by
  unfold t_MO_token
  exact (qm_MO_token_L0   _ _ h_M )
theorem qm_MO_isWord {x1 : Int} {M : Mem} (h_M : QM M) (h_x1 : True) : (fun _ => True) (t_MO_isWord M x1) := by
  show Pl (fun _ => True) (t_MO_isWord M x1)
  unfold t_MO_isWord
  refine pl_ite (fun c_1 => ?_) (fun c_1 => ?_)
  · refine pl_ite (fun c_2 => ?_) (fun c_2 => ?_)
    · refine pl_ite (fun c_3 => ?_) (fun c_3 => ?_)
      · exact True.intro
      · exact True.intro
    · exact True.intro
  · exact True.intro
theorem qm_MO_isSign {x1 : Int} {M : Mem} (h_M : QM M) (h_x1 : True) : (fun _ => True) (t_MO_isSign M x1) := by
  show Pl (fun _ => True) (t_MO_isSign M x1)
  unfold t_MO_isSign
  refine pl_ite (fun c_1 => ?_) (fun c_1 => ?_)
  · refine pl_ite (fun c_2 => ?_) (fun c_2 => ?_)
    · refine pl_ite (fun c_3 => ?_) (fun c_3 => ?_)
      · exact True.intro
      · exact True.intro
    · exact True.intro
  · exact True.intro
theorem qm_MO_goOn  {M : Mem}  (h_M : QM M)  : Post (fun r => QM r) (t_MO_goOn M) := by
  unfold t_MO_goOn
  refine post_ite (fun c_1 => ?_) (fun c_1 => ?_)
  · refine post_bind (Q := fun r => QM r) (qm_MO_token  h_M ) (fun q3 h_q3 => ?_)
    exact post_some h_q3
  · exact post_some h_M
theorem qm_MO_numeralAtHand_L46 {x1 : Int} {x2 : Int} {M : Mem} (h_M : QM M) (h_x1 : True) (h_x2 : True) : (fun r => QM r.1) (t_MO_numeralAtHand_L46 x1 x2 M) := by
  show Pl (fun r => QM r.1) (t_MO_numeralAtHand_L46 x1 x2 M)
  unfold t_MO_numeralAtHand_L46
  refine pl_ite (fun c_1 => ?_) (fun c_1 => ?_)
  · exact h_M
  · exact h_M
theorem qm_MO_numeralAtHand_L41 {x1 : Int} {x2 : Int} {M : Mem} (h_M : QM M) (h_x1 : True) (h_x2 : True) : (fun r => QM r.1) (t_MO_numeralAtHand_L41 x1 x2 M) := by
  show Pl (fun r => QM r.1) (t_MO_numeralAtHand_L41 x1 x2 M)
  unfold t_MO_numeralAtHand_L41
  refine pl_let (fun q11 e_q11 => ?_)
  have h_q11 : (fun r => QM r) q11 := by rw [e_q11]; exact (qm_MO_wrong  h_M (by decide))
  clear e_q11
  exact (qm_MO_numeralAtHand_L46  h_q11 True.intro True.intro)
theorem qm_MO_numeralAtHand {x1 : Int} {x2 : Int} {M : Mem} (h_M : QM M) (h_x1 : True) (h_x2 : True) : (fun r => QM r.1) (t_MO_numeralAtHand M x1 x2) := by
  show Pl (fun r => QM r.1) (t_MO_numeralAtHand M x1 x2)
  unfold t_MO_numeralAtHand
  refine pl_ite (fun c_1 => ?_) (fun c_1 => ?_)
  · refine pl_ite (fun c_2 => ?_) (fun c_2 => ?_)
    · refine pl_ite (fun c_3 => ?_) (fun c_3 => ?_)
      · exact (qm_MO_numeralAtHand_L41  h_M True.intro True.intro)
      · refine pl_ite (fun c_4 => ?_) (fun c_4 => ?_)
        · exact (qm_MO_numeralAtHand_L46  h_M True.intro True.intro)
        · exact (qm_MO_numeralAtHand_L41  h_M True.intro True.intro)
    · refine pl_let (fun q9 e_q9 => ?_)
      have h_q9 : (fun r => QM r) q9 := by rw [e_q9]; exact (qm_MO_wrong  h_M (by decide))
      clear e_q9
      exact (qm_MO_numeralAtHand_L46  h_q9 True.intro True.intro)
  · exact h_M
theorem qm_MO_numeral {x1 : Int} {x2 : Int} {M : Mem}  (h_M : QM M) (h_x1 : True) (h_x2 : True) : Post (fun r => QM r.1) (t_MO_numeral M x1 x2) := by
  unfold t_MO_numeral
  refine post_let (fun q1 e_q1 => ?_)
  have h_q1 : (fun r => QM r.1) q1 := by rw [e_q1]; exact (qm_MO_numeralAtHand  h_M True.intro True.intro)
  clear e_q1
  refine post_bind (Q := fun r => QM r) (qm_MO_goOn  h_q1 ) (fun q3 h_q3 => ?_)
  exact post_some h_q3
theorem qm_MO_found_L3 {r1 : Nat} {N1 : Nat} {x2 : Int} {x3 : Int} {x4 : Int}  (h_x2 : True) (h_x3 : True) (h_x4 : True) : ∀ (fu : Nat) (M : Mem) (v4_ : Int), QM M → True → Post (fun _ => True) (t_MO_found_L3 r1 N1 x2 x3 x4 fu M v4_) := by
  intro fu
  induction fu with
  | zero => intro M v4_ h_M h_v4_; exact post_none
  | succ fu ih =>
    intro M v4_ h_M h_v4_
    rw [t_MO_found_L3]
    refine post_ite (fun c_1 => ?_) (fun c_1 => ?_)
    · exact post_some True.intro
    · refine post_guard (fun c_2 => ?_)
      refine post_ite (fun c_3 => ?_) (fun c_3 => ?_)
      · exact post_some True.intro
      · exact (ih _ _ h_M True.intro)
theorem qm_MO_found {r1 : Nat} {N1 : Nat} {x2 : Int} {x3 : Int} {x4 : Int} {M : Mem}  (h_M : QM M) (h_x2 : True) (h_x3 : True) (h_x4 : True) : Post (fun _ => True) (t_MO_found M r1 N1 x2 x3 x4) := by
  unfold t_MO_found
  exact (qm_MO_found_L3  True.intro True.intro True.intro _ _ _ h_M True.intro)
theorem qm_MO_fresh_L44 {r1 : Nat} {N1 : Nat} {x2 : Int} {x3 : Int} {M : Mem}  (h_M : QM M) (h_x2 : True) (h_x3 : True) : Post (fun r => QM r.1) (t_MO_fresh_L44 r1 N1 x2 x3 M) := by
  unfold t_MO_fresh_L44
  refine post_ite (fun c_1 => ?_) (fun c_1 => ?_)
  · refine post_bind (Q := fun r => QM r) (qm_MO_token  h_M ) (fun q16 h_q16 => ?_)
    exact post_some h_q16
  · exact post_some h_M
theorem qm_MO_fresh {r1 : Nat} {N1 : Nat} {x2 : Int} {x3 : Int} {M : Mem}  (h_M : QM M) (h_x2 : True) (h_x3 : True) : Post (fun r => QM r.1) (t_MO_fresh M r1 N1 x2 x3) := by
  unfold t_MO_fresh
  refine post_ite (fun c_1 => ?_) (fun c_1 => ?_)
  · refine post_ite (fun c_2 => ?_) (fun c_2 => ?_)
    · refine post_bind (Q := fun _ => True) (qm_MO_found  h_M True.intro True.intro True.intro) (fun q6 h_q6 => ?_)
      refine post_ite (fun c_3 => ?_) (fun c_3 => ?_)
      · exact (qm_MO_fresh_L44  h_M True.intro True.intro)
      · refine post_let (fun q9 e_q9 => ?_)
        have h_q9 : (fun r => QM r) q9 := by rw [e_q9]; exact (qm_MO_wrong  h_M (by decide))
        clear e_q9
        exact (qm_MO_fresh_L44  h_q9 True.intro True.intro)
    · refine post_let (fun q11 e_q11 => ?_)
      have h_q11 : (fun r => QM r) q11 := by rw [e_q11]; exact (qm_MO_wrong  h_M (by decide))
      clear e_q11
      exact (qm_MO_fresh_L44  h_q11 True.intro True.intro)
  · exact post_some h_M
theorem qm_MO_fresher {x1 : Int} {M : Mem}  (h_M : QM M) (h_x1 : True) : Post (fun _ => True) (t_MO_fresher M x1) := by
  unfold t_MO_fresher
  refine post_guard (fun c_1 => ?_)
  exact post_some True.intro
theorem qm_MO_cellAtHand  {M : Mem}  (h_M : QM M)  : Post (fun r => QM r.1) (t_MO_cellAtHand M) := by
  unfold t_MO_cellAtHand
  refine post_bind (Q := fun _ => True) (qm_MO_fresher  h_M True.intro) (fun q1 h_q1 => ?_)
  refine post_bind (Q := fun r => QM r.1) (qm_MO_numeral  h_M True.intro True.intro) (fun q3 h_q3 => ?_)
  refine post_bind (Q := fun _ => True) (qm_MO_fresher  h_q3 True.intro) (fun q5 h_q5 => ?_)
  refine post_let (fun q7 e_q7 => ?_)
  have h_q7 : (fun r => QM r.1) q7 := by rw [e_q7]; exact (qm_MO_numeralAtHand  h_q3 True.intro True.intro)
  clear e_q7
  refine post_bind (Q := fun _ => True) (qm_MO_fresher  h_q7 True.intro) (fun q9 h_q9 => ?_)
  exact post_some h_q7
theorem qm_MO_reads {x1 : Int} {x2 : Int} {M : Mem}  (h_M : QM M) (h_x1 : True) (h_x2 : True) : Post (fun r => QM r) (t_MO_reads M x1 x2) := by
  unfold t_MO_reads
  refine post_guard (fun c_1 => ?_)
  refine post_let (fun M2 e_M2 => ?_)
  have h_M2 : QM M2 := by rw [e_M2]; exact QM.setI h_M (by omega)
  clear e_M2
  exact post_some h_M2
theorem qm_MO_isFull_L59 {x1 : Int} {M : Mem}  (h_M : QM M) (h_x1 : True) : Post (fun _ => True) (t_MO_isFull_L59 x1 M) := by
  unfold t_MO_isFull_L59
  refine post_ite (fun c_1 => ?_) (fun c_1 => ?_)
  · refine post_bind (Q := fun _ => True) (qm_MO_fresher  h_M True.intro) (fun q18 h_q18 => ?_)
    refine post_ite (fun c_2 => ?_) (fun c_2 => ?_)
    · exact post_some True.intro
    · exact post_some True.intro
  · exact post_some True.intro
theorem qm_MO_isFull_L44 {x1 : Int} {M : Mem}  (h_M : QM M) (h_x1 : True) : Post (fun _ => True) (t_MO_isFull_L44 x1 M) := by
  unfold t_MO_isFull_L44
  refine post_ite (fun c_1 => ?_) (fun c_1 => ?_)
  · refine post_bind (Q := fun _ => True) (qm_MO_fresher  h_M True.intro) (fun q14 h_q14 => ?_)
    refine post_ite (fun c_2 => ?_) (fun c_2 => ?_)
    · exact post_some True.intro
    · exact (qm_MO_isFull_L59  h_M True.intro)
  · exact (qm_MO_isFull_L59  h_M True.intro)
theorem qm_MO_isFull_L29 {x1 : Int} {M : Mem}  (h_M : QM M) (h_x1 : True) : Post (fun _ => True) (t_MO_isFull_L29 x1 M) := by
  unfold t_MO_isFull_L29
  refine post_ite (fun c_1 => ?_) (fun c_1 => ?_)
  · refine post_bind (Q := fun _ => True) (qm_MO_fresher  h_M True.intro) (fun q10 h_q10 => ?_)
    refine post_ite (fun c_2 => ?_) (fun c_2 => ?_)
    · exact post_some True.intro
    · exact (qm_MO_isFull_L44  h_M True.intro)
  · exact (qm_MO_isFull_L44  h_M True.intro)
theorem qm_MO_isFull_L14 {x1 : Int} {M : Mem}  (h_M : QM M) (h_x1 : True) : Post (fun _ => True) (t_MO_isFull_L14 x1 M) := by
  unfold t_MO_isFull_L14
  refine post_ite (fun c_1 => ?_) (fun c_1 => ?_)
  · refine post_bind (Q := fun _ => True) (qm_MO_fresher  h_M True.intro) (fun q6 h_q6 => ?_)
    refine post_ite (fun c_2 => ?_) (fun c_2 => ?_)
    · exact post_some True.intro
    · exact (qm_MO_isFull_L29  h_M True.intro)
  · exact (qm_MO_isFull_L29  h_M True.intro)
theorem qm_MO_isFull {x1 : Int} {M : Mem}  (h_M : QM M) (h_x1 : True) : Post (fun _ => True) (t_MO_isFull M x1) := by
  unfold t_MO_isFull
  refine post_ite (fun c_1 => ?_) (fun c_1 => ?_)
  · refine post_bind (Q := fun _ => True) (qm_MO_fresher  h_M True.intro) (fun q2 h_q2 => ?_)
    refine post_ite (fun c_2 => ?_) (fun c_2 => ?_)
    · exact post_some True.intro
    · exact (qm_MO_isFull_L14  h_M True.intro)
  · exact (qm_MO_isFull_L14  h_M True.intro)
theorem qm_MO_isTold {x1 : Int} {M : Mem} (h_M : QM M) (h_x1 : True) : (fun _ => True) (t_MO_isTold M x1) := by
  show Pl (fun _ => True) (t_MO_isTold M x1)
  unfold t_MO_isTold
  refine pl_ite (fun c_1 => ?_) (fun c_1 => ?_)
  · exact True.intro
  · exact True.intro
theorem qm_MO_wardLine_L57 {x1 : Int} {M : Mem}  (h_M : QM M) (h_x1 : True) : Post (fun r => QM r) (t_MO_wardLine_L57 x1 M) := by
  unfold t_MO_wardLine_L57
  refine post_ite (fun c_1 => ?_) (fun c_1 => ?_)
  · refine post_guard (fun c_2 => ?_)
    refine post_let (fun M19 e_M19 => ?_)
    have h_M19 : QM M19 := by rw [e_M19]; exact QM.setI h_M (by omega)
    clear e_M19
    refine post_bind (Q := fun r => QM r) (qm_MO_token  h_M19 ) (fun q20 h_q20 => ?_)
    refine post_bind (Q := fun r => QM r.1) (qm_MO_numeral  h_q20 True.intro True.intro) (fun q22 h_q22 => ?_)
    refine post_guard (fun c_3 => ?_)
    refine post_let (fun M25 e_M25 => ?_)
    have h_M25 : QM M25 := by rw [e_M25]; exact QM.setI h_q22 (by omega)
    clear e_M25
    refine post_bind (Q := fun _ => True) (qm_MO_fresher  h_M25 True.intro) (fun q26 h_q26 => ?_)
    refine post_bind (Q := fun r => QM r) (qm_MO_reads  h_M25 True.intro True.intro) (fun q28 h_q28 => ?_)
    exact post_some h_q28
  · exact post_some h_M
theorem qm_MO_wardLine_L52 {x1 : Int} {M : Mem}  (h_M : QM M) (h_x1 : True) : Post (fun r => QM r) (t_MO_wardLine_L52 x1 M) := by
  unfold t_MO_wardLine_L52
  refine post_let (fun q30 e_q30 => ?_)
  have h_q30 : (fun r => QM r) q30 := by rw [e_q30]; exact (qm_MO_wrong  h_M (by decide))
  clear e_q30
  exact (qm_MO_wardLine_L57  h_q30 True.intro)
theorem qm_MO_wardLine {x1 : Int} {M : Mem}  (h_M : QM M) (h_x1 : True) : Post (fun r => QM r) (t_MO_wardLine M x1) := by
  unfold t_MO_wardLine
  refine post_bind (Q := fun _ => True) (qm_MO_fresher  h_M True.intro) (fun q1 h_q1 => ?_)
  refine post_bind (Q := fun r => QM r.1) (qm_MO_fresh  h_M True.intro True.intro) (fun q3 h_q3 => ?_)
  refine post_guard (fun c_1 => ?_)
  refine post_let (fun M6 e_M6 => ?_)
  have h_M6 : QM M6 := by rw [e_M6]; exact QM.setI h_q3 (by omega)
  clear e_M6
  refine post_ite (fun c_2 => ?_) (fun c_2 => ?_)
  · refine post_ite (fun c_3 => ?_) (fun c_3 => ?_)
    · refine post_ite (fun c_4 => ?_) (fun c_4 => ?_)
      · exact (qm_MO_wardLine_L52  h_M6 True.intro)
      · refine post_ite (fun c_5 => ?_) (fun c_5 => ?_)
        · exact (qm_MO_wardLine_L57  h_M6 True.intro)
        · exact (qm_MO_wardLine_L52  h_M6 True.intro)
    · exact (qm_MO_wardLine_L52  h_M6 True.intro)
  · exact (qm_MO_wardLine_L57  h_M6 True.intro)
theorem qm_MO_partLine_L147 {bk137 : Mem → Int → Int → Int → Int → Int → Option (Mem)} (hbk137 : ∀ (a0_ : Mem) (a1_ : Int) (a2_ : Int) (a3_ : Int) (a4_ : Int) (a5_ : Int), QM a0_ → True → True → True → True → True → Post (fun r => QM r) (bk137 a0_ a1_ a2_ a3_ a4_ a5_))  : ∀ (fu : Nat) (M : Mem) (v1_ : Int) (v2_ : Int) (v3_ : Int) (v4_ : Int) (v5_ : Int) (v6_ : Int), QM M → True → True → True → True → True → True → Post (fun r => QM r) (t_MO_partLine_L147 bk137 fu M v1_ v2_ v3_ v4_ v5_ v6_) := by
  intro fu
  induction fu with
  | zero => intro M v1_ v2_ v3_ v4_ v5_ v6_ h_M h_v1_ h_v2_ h_v3_ h_v4_ h_v5_ h_v6_; exact post_none
  | succ fu ih =>
    intro M v1_ v2_ v3_ v4_ v5_ v6_ h_M h_v1_ h_v2_ h_v3_ h_v4_ h_v5_ h_v6_
    rw [t_MO_partLine_L147]
    refine post_ite (fun c_1 => ?_) (fun c_1 => ?_)
    · exact hbk137 _ _ _ _ _ _  h_M True.intro True.intro True.intro True.intro True.intro
    · refine post_bind (Q := fun _ => True) (qm_MO_fresher  h_M True.intro) (fun q46 h_q46 => ?_)
      refine post_guard (fun c_2 => ?_)
      refine post_let (fun M49 e_M49 => ?_)
      have h_M49 : QM M49 := by rw [e_M49]; exact QM.setI h_M (by omega)
      clear e_M49
      exact (ih _ _ _ _ _ _ _ h_M49 True.intro True.intro True.intro True.intro True.intro True.intro)
theorem qm_MO_partLine_L137    : ∀ (fu : Nat) (M : Mem) (v1_ : Int) (v2_ : Int) (v3_ : Int) (v4_ : Int) (v5_ : Int), QM M → True → True → True → True → True → Post (fun r => QM r) (t_MO_partLine_L137  fu M v1_ v2_ v3_ v4_ v5_) := by
  intro fu
  induction fu with
  | zero => intro M v1_ v2_ v3_ v4_ v5_ h_M h_v1_ h_v2_ h_v3_ h_v4_ h_v5_; exact post_none
  | succ fu ih =>
    intro M v1_ v2_ v3_ v4_ v5_ h_M h_v1_ h_v2_ h_v3_ h_v4_ h_v5_
    rw [t_MO_partLine_L137]
    refine post_ite (fun c_1 => ?_) (fun c_1 => ?_)
    · refine post_bind (Q := fun _ => True) (qm_MO_fresher  h_M True.intro) (fun q41 h_q41 => ?_)
      refine post_bind (Q := fun r => QM r) (qm_MO_reads  h_M True.intro True.intro) (fun q43 h_q43 => ?_)
      exact post_some h_q43
    · exact (qm_MO_partLine_L147 (fun a0_ a1_ a2_ a3_ a4_ a5_ h0_ h1_ h2_ h3_ h4_ h5_ => ih a0_ a1_ a2_ a3_ a4_ a5_ h0_ h1_ h2_ h3_ h4_ h5_)  _ _ _ _ _ _ _ _ h_M True.intro True.intro True.intro True.intro True.intro True.intro)
theorem qm_MO_partLine_L42  {M : Mem}  (h_M : QM M)  : Post (fun r => QM r) (t_MO_partLine_L42 M) := by
  unfold t_MO_partLine_L42
  refine post_ite (fun c_1 => ?_) (fun c_1 => ?_)
  · refine post_bind (Q := fun _ => True) (qm_MO_fresher  h_M True.intro) (fun q15 h_q15 => ?_)
    refine post_bind (Q := fun _ => True) (qm_MO_found  h_M True.intro True.intro True.intro) (fun q18 h_q18 => ?_)
    refine post_bind (Q := fun r => QM r) (qm_MO_token  h_M ) (fun q20 h_q20 => ?_)
    refine post_bind (Q := fun _ => True) (qm_MO_fresher  h_q20 True.intro) (fun q22 h_q22 => ?_)
    refine post_bind (Q := fun r => QM r.1) (qm_MO_numeral  h_q20 True.intro True.intro) (fun q24 h_q24 => ?_)
    refine post_bind (Q := fun _ => True) (qm_MO_fresher  h_q24 True.intro) (fun q26 h_q26 => ?_)
    refine post_bind (Q := fun r => QM r.1) (qm_MO_numeral  h_q24 True.intro True.intro) (fun q28 h_q28 => ?_)
    refine post_bind (Q := fun _ => True) (qm_MO_fresher  h_q28 True.intro) (fun q30 h_q30 => ?_)
    refine post_bind (Q := fun r => QM r.1) (qm_MO_numeral  h_q28 True.intro True.intro) (fun q32 h_q32 => ?_)
    refine post_bind (Q := fun _ => True) (qm_MO_fresher  h_q32 True.intro) (fun q34 h_q34 => ?_)
    refine post_bind (Q := fun r => QM r.1) (qm_MO_numeral  h_q32 True.intro True.intro) (fun q36 h_q36 => ?_)
    refine post_ite (fun c_2 => ?_) (fun c_2 => ?_)
    · exact (qm_MO_partLine_L137   _ _ _ _ _ _ _ h_q36 True.intro True.intro True.intro True.intro True.intro)
    · exact post_some h_q36
  · exact post_some h_M
theorem qm_MO_partLine  {M : Mem}  (h_M : QM M)  : Post (fun r => QM r) (t_MO_partLine M) := by
  unfold t_MO_partLine
  refine post_ite (fun c_1 => ?_) (fun c_1 => ?_)
  · refine post_bind (Q := fun _ => True) (qm_MO_fresher  h_M True.intro) (fun q3 h_q3 => ?_)
    refine post_bind (Q := fun _ => True) (qm_MO_found  h_M True.intro True.intro True.intro) (fun q6 h_q6 => ?_)
    refine post_ite (fun c_2 => ?_) (fun c_2 => ?_)
    · refine post_let (fun q9 e_q9 => ?_)
      have h_q9 : (fun r => QM r) q9 := by rw [e_q9]; exact (qm_MO_wrong  h_M (by decide))
      clear e_q9
      exact (qm_MO_partLine_L42  h_q9 )
    · exact (qm_MO_partLine_L42  h_M )
  · refine post_let (fun q11 e_q11 => ?_)
    have h_q11 : (fun r => QM r) q11 := by rw [e_q11]; exact (qm_MO_wrong  h_M (by decide))
    clear e_q11
    exact (qm_MO_partLine_L42  h_q11 )
theorem qm_MO_hasThing_L2 {x1 : Int}  (h_x1 : True) : ∀ (fu : Nat) (M : Mem) (v2_ : Int), QM M → True → Post (fun _ => True) (t_MO_hasThing_L2 x1 fu M v2_) := by
  intro fu
  induction fu with
  | zero => intro M v2_ h_M h_v2_; exact post_none
  | succ fu ih =>
    intro M v2_ h_M h_v2_
    rw [t_MO_hasThing_L2]
    refine post_bind (Q := fun _ => True) (qm_MO_fresher  h_M True.intro) (fun q1 h_q1 => ?_)
    refine post_ite (fun c_1 => ?_) (fun c_1 => ?_)
    · exact post_some True.intro
    · refine post_guard (fun c_2 => ?_)
      refine post_ite (fun c_3 => ?_) (fun c_3 => ?_)
      · exact post_some True.intro
      · exact (ih _ _ h_M True.intro)
theorem qm_MO_hasThing {x1 : Int} {M : Mem}  (h_M : QM M) (h_x1 : True) : Post (fun _ => True) (t_MO_hasThing M x1) := by
  unfold t_MO_hasThing
  exact (qm_MO_hasThing_L2  True.intro _ _ _ h_M True.intro)
theorem qm_MO_wallLine_L61 {v1_ : Int} {M : Mem}  (h_M : QM M) (h_v1_ : True) : Post (fun r => QM r) (t_MO_wallLine_L61 M v1_) := by
  unfold t_MO_wallLine_L61
  refine post_ite (fun c_1 => ?_) (fun c_1 => ?_)
  · refine post_guard (fun c_2 => ?_)
    refine post_let (fun M21 e_M21 => ?_)
    have h_M21 : QM M21 := by rw [e_M21]; exact QM.setI h_M (by omega)
    clear e_M21
    refine post_bind (Q := fun _ => True) (qm_MO_fresher  h_M21 True.intro) (fun q22 h_q22 => ?_)
    refine post_bind (Q := fun r => QM r) (qm_MO_reads  h_M21 True.intro True.intro) (fun q24 h_q24 => ?_)
    refine post_bind (Q := fun r => QM r) (qm_MO_token  h_q24 ) (fun q26 h_q26 => ?_)
    exact post_some h_q26
  · exact post_some h_M
theorem qm_MO_wallLine_L56 {v1_ : Int} {M : Mem}  (h_M : QM M) (h_v1_ : True) : Post (fun r => QM r) (t_MO_wallLine_L56 M v1_) := by
  unfold t_MO_wallLine_L56
  refine post_let (fun q28 e_q28 => ?_)
  have h_q28 : (fun r => QM r) q28 := by rw [e_q28]; exact (qm_MO_wrong  h_M (by decide))
  clear e_q28
  exact (qm_MO_wallLine_L61  h_q28 True.intro)
theorem qm_MO_wallLine_L29 {v1_ : Int} {M : Mem}  (h_M : QM M) (h_v1_ : True) : Post (fun r => QM r) (t_MO_wallLine_L29 M v1_) := by
  unfold t_MO_wallLine_L29
  refine post_ite (fun c_1 => ?_) (fun c_1 => ?_)
  · refine post_guard (fun c_2 => ?_)
    refine post_ite (fun c_3 => ?_) (fun c_3 => ?_)
    · refine post_bind (Q := fun _ => True) (qm_MO_hasThing  h_M True.intro) (fun q15 h_q15 => ?_)
      refine post_ite (fun c_4 => ?_) (fun c_4 => ?_)
      · exact (qm_MO_wallLine_L61  h_M True.intro)
      · exact (qm_MO_wallLine_L56  h_M True.intro)
    · exact (qm_MO_wallLine_L56  h_M True.intro)
  · exact (qm_MO_wallLine_L61  h_M True.intro)
theorem qm_MO_wallLine  {M : Mem}  (h_M : QM M)  : Post (fun r => QM r) (t_MO_wallLine M) := by
  unfold t_MO_wallLine
  refine post_bind (Q := fun r => QM r.1) (qm_MO_cellAtHand  h_M ) (fun q1 h_q1 => ?_)
  refine post_ite (fun c_1 => ?_) (fun c_1 => ?_)
  · refine post_guard (fun c_2 => ?_)
    refine post_ite (fun c_3 => ?_) (fun c_3 => ?_)
    · exact (qm_MO_wallLine_L29  h_q1 True.intro)
    · refine post_let (fun q8 e_q8 => ?_)
      have h_q8 : (fun r => QM r) q8 := by rw [e_q8]; exact (qm_MO_wrong  h_q1 (by decide))
      clear e_q8
      exact (qm_MO_wallLine_L29  h_q8 True.intro)
  · exact (qm_MO_wallLine_L29  h_q1 True.intro)
theorem qm_MO_stairLine_L53 {v1_ : Int} {M : Mem}  (h_M : QM M) (h_v1_ : True) : Post (fun r => QM r) (t_MO_stairLine_L53 M v1_) := by
  unfold t_MO_stairLine_L53
  refine post_ite (fun c_1 => ?_) (fun c_1 => ?_)
  · refine post_guard (fun c_2 => ?_)
    refine post_let (fun M20 e_M20 => ?_)
    have h_M20 : QM M20 := by rw [e_M20]; exact QM.setI h_M (by omega)
    clear e_M20
    refine post_bind (Q := fun _ => True) (qm_MO_fresher  h_M20 True.intro) (fun q21 h_q21 => ?_)
    refine post_bind (Q := fun r => QM r) (qm_MO_reads  h_M20 True.intro True.intro) (fun q23 h_q23 => ?_)
    refine post_bind (Q := fun r => QM r) (qm_MO_token  h_q23 ) (fun q25 h_q25 => ?_)
    exact post_some h_q25
  · exact post_some h_M
theorem qm_MO_stairLine_L29 {v1_ : Int} {M : Mem}  (h_M : QM M) (h_v1_ : True) : Post (fun r => QM r) (t_MO_stairLine_L29 M v1_) := by
  unfold t_MO_stairLine_L29
  refine post_ite (fun c_1 => ?_) (fun c_1 => ?_)
  · refine post_guard (fun c_2 => ?_)
    refine post_ite (fun c_3 => ?_) (fun c_3 => ?_)
    · exact (qm_MO_stairLine_L53  h_M True.intro)
    · refine post_let (fun q15 e_q15 => ?_)
      have h_q15 : (fun r => QM r) q15 := by rw [e_q15]; exact (qm_MO_wrong  h_M (by decide))
      clear e_q15
      exact (qm_MO_stairLine_L53  h_q15 True.intro)
  · exact (qm_MO_stairLine_L53  h_M True.intro)
theorem qm_MO_stairLine  {M : Mem}  (h_M : QM M)  : Post (fun r => QM r) (t_MO_stairLine M) := by
  unfold t_MO_stairLine
  refine post_bind (Q := fun r => QM r.1) (qm_MO_cellAtHand  h_M ) (fun q1 h_q1 => ?_)
  refine post_ite (fun c_1 => ?_) (fun c_1 => ?_)
  · refine post_guard (fun c_2 => ?_)
    refine post_ite (fun c_3 => ?_) (fun c_3 => ?_)
    · exact (qm_MO_stairLine_L29  h_q1 True.intro)
    · refine post_let (fun q8 e_q8 => ?_)
      have h_q8 : (fun r => QM r) q8 := by rw [e_q8]; exact (qm_MO_wrong  h_q1 (by decide))
      clear e_q8
      exact (qm_MO_stairLine_L29  h_q8 True.intro)
  · exact (qm_MO_stairLine_L29  h_q1 True.intro)
theorem qm_MO_thingLine_L72 {x1 : Int} {v2_ : Int} {M : Mem}  (h_M : QM M) (h_x1 : True) (h_v2_ : True) : Post (fun r => QM r) (t_MO_thingLine_L72 x1 M v2_) := by
  unfold t_MO_thingLine_L72
  refine post_ite (fun c_1 => ?_) (fun c_1 => ?_)
  · refine post_guard (fun c_2 => ?_)
    refine post_let (fun M24 e_M24 => ?_)
    have h_M24 : QM M24 := by rw [e_M24]; exact QM.setI h_M (by omega)
    clear e_M24
    refine post_bind (Q := fun _ => True) (qm_MO_fresher  h_M24 True.intro) (fun q25 h_q25 => ?_)
    refine post_bind (Q := fun r => QM r) (qm_MO_reads  h_M24 True.intro True.intro) (fun q27 h_q27 => ?_)
    refine post_bind (Q := fun r => QM r) (qm_MO_token  h_q27 ) (fun q29 h_q29 => ?_)
    exact post_some h_q29
  · exact post_some h_M
theorem qm_MO_thingLine_L67 {x1 : Int} {v2_ : Int} {M : Mem}  (h_M : QM M) (h_x1 : True) (h_v2_ : True) : Post (fun r => QM r) (t_MO_thingLine_L67 x1 M v2_) := by
  unfold t_MO_thingLine_L67
  refine post_let (fun q31 e_q31 => ?_)
  have h_q31 : (fun r => QM r) q31 := by rw [e_q31]; exact (qm_MO_wrong  h_M (by decide))
  clear e_q31
  exact (qm_MO_thingLine_L72  h_q31 True.intro True.intro)
theorem qm_MO_thingLine {x1 : Int} {M : Mem}  (h_M : QM M) (h_x1 : True) : Post (fun r => QM r) (t_MO_thingLine M x1) := by
  unfold t_MO_thingLine
  refine post_bind (Q := fun _ => True) (qm_MO_fresher  h_M True.intro) (fun q1 h_q1 => ?_)
  refine post_bind (Q := fun r => QM r.1) (qm_MO_fresh  h_M True.intro True.intro) (fun q3 h_q3 => ?_)
  refine post_guard (fun c_1 => ?_)
  refine post_let (fun M6 e_M6 => ?_)
  have h_M6 : QM M6 := by rw [e_M6]; exact QM.setI h_q3 (by omega)
  clear e_M6
  refine post_bind (Q := fun r => QM r.1) (qm_MO_numeral  h_M6 True.intro True.intro) (fun q7 h_q7 => ?_)
  refine post_guard (fun c_2 => ?_)
  refine post_let (fun M10 e_M10 => ?_)
  have h_M10 : QM M10 := by rw [e_M10]; exact QM.setI h_q7 (by omega)
  clear e_M10
  refine post_bind (Q := fun r => QM r.1) (qm_MO_cellAtHand  h_M10 ) (fun q11 h_q11 => ?_)
  refine post_ite (fun c_3 => ?_) (fun c_3 => ?_)
  · refine post_guard (fun c_4 => ?_)
    refine post_ite (fun c_5 => ?_) (fun c_5 => ?_)
    · refine post_bind (Q := fun _ => True) (qm_MO_hasThing  h_q11 True.intro) (fun q18 h_q18 => ?_)
      refine post_ite (fun c_6 => ?_) (fun c_6 => ?_)
      · exact (qm_MO_thingLine_L72  h_q11 True.intro True.intro)
      · exact (qm_MO_thingLine_L67  h_q11 True.intro True.intro)
    · exact (qm_MO_thingLine_L67  h_q11 True.intro True.intro)
  · exact (qm_MO_thingLine_L72  h_q11 True.intro True.intro)
theorem qm_MO_knot  {M : Mem} (h_M : QM M)  : (fun r => QM r) (t_MO_knot M) := by
  show Pl (fun r => QM r) (t_MO_knot M)
  unfold t_MO_knot
  refine pl_ite (fun c_1 => ?_) (fun c_1 => ?_)
  · refine pl_ite (fun c_2 => ?_) (fun c_2 => ?_)
    · refine pl_let (fun q7 e_q7 => ?_)
      have h_q7 : (fun r => QM r) q7 := by rw [e_q7]; exact (qm_MO_wrong  h_M (by decide))
      clear e_q7
      exact h_q7
    · refine pl_let (fun M6 e_M6 => ?_)
      have h_M6 : QM M6 := by rw [e_M6]; exact QM.setI h_M (by omega)
      clear e_M6
      exact h_M6
  · exact h_M
theorem qm_MO_puts {x1 : Int} {x2 : Int} {M : Mem}  (h_M : QM M) (h_x1 : True) (h_x2 : True) : Post (fun r => QM r) (t_MO_puts M x1 x2) := by
  unfold t_MO_puts
  refine post_ite (fun c_1 => ?_) (fun c_1 => ?_)
  · refine post_bind (Q := fun _ => True) (qm_MO_fresher  h_M True.intro) (fun q3 h_q3 => ?_)
    refine post_guard (fun c_2 => ?_)
    refine post_let (fun M6 e_M6 => ?_)
    have h_M6 : QM M6 := by rw [e_M6]; exact QM.setI h_M (by omega)
    clear e_M6
    refine post_bind (Q := fun _ => True) (qm_MO_fresher  h_M6 True.intro) (fun q7 h_q7 => ?_)
    refine post_guard (fun c_3 => ?_)
    refine post_let (fun M10 e_M10 => ?_)
    have h_M10 : QM M10 := by rw [e_M10]; exact QM.setI h_M6 (by omega)
    clear e_M10
    refine post_bind (Q := fun _ => True) (qm_MO_fresher  h_M10 True.intro) (fun q11 h_q11 => ?_)
    refine post_bind (Q := fun r => QM r) (qm_MO_reads  h_M10 True.intro True.intro) (fun q13 h_q13 => ?_)
    exact post_some h_q13
  · exact post_some h_M
theorem qm_MO_primary_L78 {rc : Nat → Mem → Option Mem} {M : Mem} (hrc : ∀ (i_ : Nat) (M_ : Mem), QM M_ → Post (fun r => QM r) (rc i_ M_)) (h_M : QM M)  : Post (fun r => QM r) (t_MO_primary_L78 rc M) := by
  unfold t_MO_primary_L78
  refine post_ite (fun c_1 => ?_) (fun c_1 => ?_)
  · refine post_let (fun M43 e_M43 => ?_)
    have h_M43 : QM M43 := by rw [e_M43]; exact QM.setI h_M (by omega)
    clear e_M43
    refine post_bind (Q := fun r => QM r) (qm_MO_token  h_M43 ) (fun q44 h_q44 => ?_)
    exact post_some h_q44
  · exact post_some h_M
theorem qm_MO_primary_L31 {rc : Nat → Mem → Option Mem} {M : Mem} (hrc : ∀ (i_ : Nat) (M_ : Mem), QM M_ → Post (fun r => QM r) (rc i_ M_)) (h_M : QM M)  : Post (fun r => QM r) (t_MO_primary_L31 rc M) := by
  unfold t_MO_primary_L31
  refine post_ite (fun c_1 => ?_) (fun c_1 => ?_)
  · refine post_let (fun M20 e_M20 => ?_)
    have h_M20 : QM M20 := by rw [e_M20]; exact QM.setI h_M (by omega)
    clear e_M20
    refine post_bind (Q := fun r => QM r) (qm_MO_token  h_M20 ) (fun q21 h_q21 => ?_)
    refine post_bind (Q := fun r => QM r) (hrc _ _ h_q21) (fun q23 h_q23 => ?_)
    refine post_ite (fun c_2 => ?_) (fun c_2 => ?_)
    · refine post_let (fun q27 e_q27 => ?_)
      have h_q27 : True := True.intro
      clear e_q27
      refine post_ite (fun c_3 => ?_) (fun c_3 => ?_)
      · refine post_let (fun q30 e_q30 => ?_)
        have h_q30 : (fun r => QM r) q30 := by rw [e_q30]; exact (qm_MO_wrong  h_q23 (by decide))
        clear e_q30
        exact (qm_MO_primary_L78 hrc h_q30 )
      · exact (qm_MO_primary_L78 hrc h_q23 )
    · exact (qm_MO_primary_L78 hrc h_q23 )
  · exact post_some h_M
theorem qm_MO_primary_L194 {rc : Nat → Mem → Option Mem} {v2_ : Int} {v3_ : Int} {M : Mem} (hrc : ∀ (i_ : Nat) (M_ : Mem), QM M_ → Post (fun r => QM r) (rc i_ M_)) (h_M : QM M) (h_v2_ : True) (h_v3_ : True) : Post (fun r => QM r) (t_MO_primary_L194 rc M v2_ v3_) := by
  unfold t_MO_primary_L194
  refine post_bind (Q := fun r => QM r) (qm_MO_puts  h_M True.intro True.intro) (fun q51 h_q51 => ?_)
  refine post_bind (Q := fun r => QM r) (qm_MO_goOn  h_q51 ) (fun q53 h_q53 => ?_)
  exact post_some h_q53
theorem qm_MO_primary_L176 {rc : Nat → Mem → Option Mem} {v1_ : Int} {v3_ : Int} {M : Mem} (hrc : ∀ (i_ : Nat) (M_ : Mem), QM M_ → Post (fun r => QM r) (rc i_ M_)) (h_M : QM M) (h_v1_ : True) (h_v3_ : True) : Post (fun r => QM r) (t_MO_primary_L176 rc M v1_ v3_) := by
  unfold t_MO_primary_L176
  refine post_ite (fun c_1 => ?_) (fun c_1 => ?_)
  · exact (qm_MO_primary_L194 hrc h_M True.intro True.intro)
  · exact (qm_MO_primary_L194 hrc h_M True.intro True.intro)
theorem qm_MO_primary_L162 {rc : Nat → Mem → Option Mem} {v1_ : Int} {M : Mem} (hrc : ∀ (i_ : Nat) (M_ : Mem), QM M_ → Post (fun r => QM r) (rc i_ M_)) (h_M : QM M) (h_v1_ : True) : Post (fun r => QM r) (t_MO_primary_L162 rc M v1_) := by
  unfold t_MO_primary_L162
  refine post_let (fun q37 e_q37 => ?_)
  have h_q37 : (fun r => QM r) q37 := by rw [e_q37]; exact (qm_MO_knot  h_M )
  clear e_q37
  refine post_ite (fun c_1 => ?_) (fun c_1 => ?_)
  · exact (qm_MO_primary_L176 hrc h_q37 True.intro True.intro)
  · exact (qm_MO_primary_L176 hrc h_q37 True.intro True.intro)
theorem qm_MO_primary_L157 {rc : Nat → Mem → Option Mem} {v1_ : Int} {M : Mem} (hrc : ∀ (i_ : Nat) (M_ : Mem), QM M_ → Post (fun r => QM r) (rc i_ M_)) (h_M : QM M) (h_v1_ : True) : Post (fun r => QM r) (t_MO_primary_L157 rc M v1_) := by
  unfold t_MO_primary_L157
  refine post_let (fun q46 e_q46 => ?_)
  have h_q46 : (fun r => QM r) q46 := by rw [e_q46]; exact (qm_MO_wrong  h_M (by decide))
  clear e_q46
  exact (qm_MO_primary_L162 hrc h_q46 True.intro)
theorem qm_MO_primary_L137 {rc : Nat → Mem → Option Mem} {v1_ : Int} {M : Mem} (hrc : ∀ (i_ : Nat) (M_ : Mem), QM M_ → Post (fun r => QM r) (rc i_ M_)) (h_M : QM M) (h_v1_ : True) : Post (fun r => QM r) (t_MO_primary_L137 rc M v1_) := by
  unfold t_MO_primary_L137
  refine post_ite (fun c_1 => ?_) (fun c_1 => ?_)
  · refine post_ite (fun c_2 => ?_) (fun c_2 => ?_)
    · refine post_ite (fun c_3 => ?_) (fun c_3 => ?_)
      · exact (qm_MO_primary_L162 hrc h_M True.intro)
      · exact (qm_MO_primary_L157 hrc h_M True.intro)
    · exact (qm_MO_primary_L157 hrc h_M True.intro)
  · exact (qm_MO_primary_L162 hrc h_M True.intro)
theorem qm_MO_primary_L114 {rc : Nat → Mem → Option Mem} {v1_ : Int} {M : Mem} (hrc : ∀ (i_ : Nat) (M_ : Mem), QM M_ → Post (fun r => QM r) (rc i_ M_)) (h_M : QM M) (h_v1_ : True) : Post (fun r => QM r) (t_MO_primary_L114 rc M v1_) := by
  unfold t_MO_primary_L114
  refine post_ite (fun c_1 => ?_) (fun c_1 => ?_)
  · exact (qm_MO_primary_L137 hrc h_M True.intro)
  · refine post_ite (fun c_2 => ?_) (fun c_2 => ?_)
    · exact (qm_MO_primary_L137 hrc h_M True.intro)
    · refine post_let (fun q15 e_q15 => ?_)
      have h_q15 : (fun r => QM r) q15 := by rw [e_q15]; exact (qm_MO_wrong  h_M (by decide))
      clear e_q15
      exact (qm_MO_primary_L162 hrc h_q15 True.intro)
theorem qm_MO_primary_B {rc : Nat → Mem → Option Mem} {M : Mem} (hrc : ∀ (i_ : Nat) (M_ : Mem), QM M_ → Post (fun r => QM r) (rc i_ M_)) (h_M : QM M)  : Post (fun r => QM r) (t_MO_primary_B M rc) := by
  unfold t_MO_primary_B
  refine post_ite (fun c_1 => ?_) (fun c_1 => ?_)
  · refine post_let (fun q3 e_q3 => ?_)
    have h_q3 : True := True.intro
    clear e_q3
    refine post_ite (fun c_2 => ?_) (fun c_2 => ?_)
    · refine post_ite (fun c_3 => ?_) (fun c_3 => ?_)
      · exact (qm_MO_primary_L114 hrc h_M True.intro)
      · exact (qm_MO_primary_L114 hrc h_M True.intro)
    · refine post_ite (fun c_4 => ?_) (fun c_4 => ?_)
      · refine post_let (fun q10 e_q10 => ?_)
        have h_q10 : (fun r => QM r) q10 := by rw [e_q10]; exact (qm_MO_wrong  h_M (by decide))
        clear e_q10
        exact (qm_MO_primary_L31 hrc h_q10 )
      · exact (qm_MO_primary_L31 hrc h_M )
  · exact post_some h_M
theorem qm_MO_product_L22 {rc : Nat → Mem → Option Mem} {bk4 : Mem → Option (Mem)} {M : Mem} (hrc : ∀ (i_ : Nat) (M_ : Mem), QM M_ → Post (fun r => QM r) (rc i_ M_)) (hbk4 : ∀ (a0_ : Mem), QM a0_ → Post (fun r => QM r) (bk4 a0_)) (h_M : QM M)  : Post (fun r => QM r) (t_MO_product_L22 rc bk4 M) := by
  unfold t_MO_product_L22
  refine post_let (fun q10 e_q10 => ?_)
  have h_q10 : (fun r => QM r) q10 := by rw [e_q10]; exact (qm_MO_knot  h_M )
  clear e_q10
  refine post_bind (Q := fun r => QM r) (qm_MO_goOn  h_q10 ) (fun q12 h_q12 => ?_)
  refine post_bind (Q := fun r => QM r) (hrc _ _ h_q12) (fun q14 h_q14 => ?_)
  refine post_bind (Q := fun r => QM r) (qm_MO_puts  h_q14 True.intro True.intro) (fun q16 h_q16 => ?_)
  exact hbk4 _  h_q16
theorem qm_MO_product_L4 {rc : Nat → Mem → Option Mem} (hrc : ∀ (i_ : Nat) (M_ : Mem), QM M_ → Post (fun r => QM r) (rc i_ M_))  : ∀ (fu : Nat) (M : Mem) , QM M → Post (fun r => QM r) (t_MO_product_L4 rc fu M ) := by
  intro fu
  induction fu with
  | zero => intro M  h_M; exact post_none
  | succ fu ih =>
    intro M  h_M
    rw [t_MO_product_L4]
    refine post_let (fun q3 e_q3 => ?_)
    have h_q3 : True := True.intro
    clear e_q3
    refine post_ite (fun c_1 => ?_) (fun c_1 => ?_)
    · refine post_let (fun q6 e_q6 => ?_)
      have h_q6 : True := True.intro
      clear e_q6
      refine post_ite (fun c_2 => ?_) (fun c_2 => ?_)
      · exact post_some h_M
      · exact (qm_MO_product_L22 hrc (fun a0_ h0_ => ih a0_ h0_) h_M )
    · exact (qm_MO_product_L22 hrc (fun a0_ h0_ => ih a0_ h0_) h_M )
theorem qm_MO_product_B {rc : Nat → Mem → Option Mem} {M : Mem} (hrc : ∀ (i_ : Nat) (M_ : Mem), QM M_ → Post (fun r => QM r) (rc i_ M_)) (h_M : QM M)  : Post (fun r => QM r) (t_MO_product_B M rc) := by
  unfold t_MO_product_B
  refine post_bind (Q := fun r => QM r) (hrc _ _ h_M) (fun q1 h_q1 => ?_)
  exact (qm_MO_product_L4 hrc  _ _ h_q1 )
theorem qm_MO_sum_L22 {rc : Nat → Mem → Option Mem} {bk4 : Mem → Option (Mem)} {M : Mem} (hrc : ∀ (i_ : Nat) (M_ : Mem), QM M_ → Post (fun r => QM r) (rc i_ M_)) (hbk4 : ∀ (a0_ : Mem), QM a0_ → Post (fun r => QM r) (bk4 a0_)) (h_M : QM M)  : Post (fun r => QM r) (t_MO_sum_L22 rc bk4 M) := by
  unfold t_MO_sum_L22
  refine post_let (fun q10 e_q10 => ?_)
  have h_q10 : (fun r => QM r) q10 := by rw [e_q10]; exact (qm_MO_knot  h_M )
  clear e_q10
  refine post_bind (Q := fun r => QM r) (qm_MO_goOn  h_q10 ) (fun q12 h_q12 => ?_)
  refine post_bind (Q := fun r => QM r) (hrc _ _ h_q12) (fun q14 h_q14 => ?_)
  refine post_bind (Q := fun r => QM r) (qm_MO_puts  h_q14 True.intro True.intro) (fun q16 h_q16 => ?_)
  exact hbk4 _  h_q16
theorem qm_MO_sum_L4 {rc : Nat → Mem → Option Mem} (hrc : ∀ (i_ : Nat) (M_ : Mem), QM M_ → Post (fun r => QM r) (rc i_ M_))  : ∀ (fu : Nat) (M : Mem) , QM M → Post (fun r => QM r) (t_MO_sum_L4 rc fu M ) := by
  intro fu
  induction fu with
  | zero => intro M  h_M; exact post_none
  | succ fu ih =>
    intro M  h_M
    rw [t_MO_sum_L4]
    refine post_let (fun q3 e_q3 => ?_)
    have h_q3 : True := True.intro
    clear e_q3
    refine post_ite (fun c_1 => ?_) (fun c_1 => ?_)
    · refine post_let (fun q6 e_q6 => ?_)
      have h_q6 : True := True.intro
      clear e_q6
      refine post_ite (fun c_2 => ?_) (fun c_2 => ?_)
      · exact post_some h_M
      · exact (qm_MO_sum_L22 hrc (fun a0_ h0_ => ih a0_ h0_) h_M )
    · exact (qm_MO_sum_L22 hrc (fun a0_ h0_ => ih a0_ h0_) h_M )
theorem qm_MO_sum_B {rc : Nat → Mem → Option Mem} {M : Mem} (hrc : ∀ (i_ : Nat) (M_ : Mem), QM M_ → Post (fun r => QM r) (rc i_ M_)) (h_M : QM M)  : Post (fun r => QM r) (t_MO_sum_B M rc) := by
  unfold t_MO_sum_B
  refine post_bind (Q := fun r => QM r) (hrc _ _ h_M) (fun q1 h_q1 => ?_)
  exact (qm_MO_sum_L4 hrc  _ _ h_q1 )
theorem qm_MO_negation_L87 {rc : Nat → Mem → Option Mem} {M : Mem} (hrc : ∀ (i_ : Nat) (M_ : Mem), QM M_ → Post (fun r => QM r) (rc i_ M_)) (h_M : QM M)  : Post (fun r => QM r) (t_MO_negation_L87 rc M) := by
  unfold t_MO_negation_L87
  refine post_let (fun q27 e_q27 => ?_)
  have h_q27 : (fun r => QM r) q27 := by rw [e_q27]; exact (qm_MO_knot  h_M )
  clear e_q27
  refine post_bind (Q := fun r => QM r) (qm_MO_goOn  h_q27 ) (fun q29 h_q29 => ?_)
  refine post_bind (Q := fun r => QM r) (hrc _ _ h_q29) (fun q31 h_q31 => ?_)
  refine post_bind (Q := fun r => QM r) (qm_MO_puts  h_q31 True.intro True.intro) (fun q33 h_q33 => ?_)
  exact post_some h_q33
theorem qm_MO_negation_B {rc : Nat → Mem → Option Mem} {M : Mem} (hrc : ∀ (i_ : Nat) (M_ : Mem), QM M_ → Post (fun r => QM r) (rc i_ M_)) (h_M : QM M)  : Post (fun r => QM r) (t_MO_negation_B M rc) := by
  unfold t_MO_negation_B
  refine post_let (fun q1 e_q1 => ?_)
  have h_q1 : True := True.intro
  clear e_q1
  refine post_ite (fun c_1 => ?_) (fun c_1 => ?_)
  · refine post_bind (Q := fun r => QM r) (hrc _ _ h_M) (fun q4 h_q4 => ?_)
    refine post_ite (fun c_2 => ?_) (fun c_2 => ?_)
    · refine post_ite (fun c_3 => ?_) (fun c_3 => ?_)
      · refine post_ite (fun c_4 => ?_) (fun c_4 => ?_)
        · exact (qm_MO_negation_L87 hrc h_q4 )
        · refine post_ite (fun c_5 => ?_) (fun c_5 => ?_)
          · exact (qm_MO_negation_L87 hrc h_q4 )
          · refine post_ite (fun c_6 => ?_) (fun c_6 => ?_)
            · exact (qm_MO_negation_L87 hrc h_q4 )
            · refine post_ite (fun c_7 => ?_) (fun c_7 => ?_)
              · exact (qm_MO_negation_L87 hrc h_q4 )
              · exact post_some h_q4
      · exact post_some h_q4
    · exact post_some h_q4
  · refine post_let (fun q18 e_q18 => ?_)
    have h_q18 : (fun r => QM r) q18 := by rw [e_q18]; exact (qm_MO_knot  h_M )
    clear e_q18
    refine post_bind (Q := fun r => QM r) (qm_MO_goOn  h_q18 ) (fun q20 h_q20 => ?_)
    refine post_bind (Q := fun r => QM r) (hrc _ _ h_q20) (fun q22 h_q22 => ?_)
    refine post_bind (Q := fun r => QM r) (qm_MO_puts  h_q22 True.intro True.intro) (fun q24 h_q24 => ?_)
    exact post_some h_q24
theorem qm_MO_conjunction_L4 {rc : Nat → Mem → Option Mem} (hrc : ∀ (i_ : Nat) (M_ : Mem), QM M_ → Post (fun r => QM r) (rc i_ M_))  : ∀ (fu : Nat) (M : Mem) , QM M → Post (fun r => QM r) (t_MO_conjunction_L4 rc fu M ) := by
  intro fu
  induction fu with
  | zero => intro M  h_M; exact post_none
  | succ fu ih =>
    intro M  h_M
    rw [t_MO_conjunction_L4]
    refine post_let (fun q3 e_q3 => ?_)
    have h_q3 : True := True.intro
    clear e_q3
    refine post_ite (fun c_1 => ?_) (fun c_1 => ?_)
    · exact post_some h_M
    · refine post_let (fun q6 e_q6 => ?_)
      have h_q6 : (fun r => QM r) q6 := by rw [e_q6]; exact (qm_MO_knot  h_M )
      clear e_q6
      refine post_bind (Q := fun r => QM r) (qm_MO_goOn  h_q6 ) (fun q8 h_q8 => ?_)
      refine post_bind (Q := fun r => QM r) (hrc _ _ h_q8) (fun q10 h_q10 => ?_)
      refine post_bind (Q := fun r => QM r) (qm_MO_puts  h_q10 True.intro True.intro) (fun q12 h_q12 => ?_)
      exact (ih _ h_q12 )
theorem qm_MO_conjunction_B {rc : Nat → Mem → Option Mem} {M : Mem} (hrc : ∀ (i_ : Nat) (M_ : Mem), QM M_ → Post (fun r => QM r) (rc i_ M_)) (h_M : QM M)  : Post (fun r => QM r) (t_MO_conjunction_B M rc) := by
  unfold t_MO_conjunction_B
  refine post_bind (Q := fun r => QM r) (hrc _ _ h_M) (fun q1 h_q1 => ?_)
  exact (qm_MO_conjunction_L4 hrc  _ _ h_q1 )
theorem qm_MO_expression_L4 {rc : Nat → Mem → Option Mem} (hrc : ∀ (i_ : Nat) (M_ : Mem), QM M_ → Post (fun r => QM r) (rc i_ M_))  : ∀ (fu : Nat) (M : Mem) , QM M → Post (fun r => QM r) (t_MO_expression_L4 rc fu M ) := by
  intro fu
  induction fu with
  | zero => intro M  h_M; exact post_none
  | succ fu ih =>
    intro M  h_M
    rw [t_MO_expression_L4]
    refine post_let (fun q3 e_q3 => ?_)
    have h_q3 : True := True.intro
    clear e_q3
    refine post_ite (fun c_1 => ?_) (fun c_1 => ?_)
    · exact post_some h_M
    · refine post_let (fun q6 e_q6 => ?_)
      have h_q6 : (fun r => QM r) q6 := by rw [e_q6]; exact (qm_MO_knot  h_M )
      clear e_q6
      refine post_bind (Q := fun r => QM r) (qm_MO_goOn  h_q6 ) (fun q8 h_q8 => ?_)
      refine post_bind (Q := fun r => QM r) (hrc _ _ h_q8) (fun q10 h_q10 => ?_)
      refine post_bind (Q := fun r => QM r) (qm_MO_puts  h_q10 True.intro True.intro) (fun q12 h_q12 => ?_)
      exact (ih _ h_q12 )
theorem qm_MO_expression_B {rc : Nat → Mem → Option Mem} {M : Mem} (hrc : ∀ (i_ : Nat) (M_ : Mem), QM M_ → Post (fun r => QM r) (rc i_ M_)) (h_M : QM M)  : Post (fun r => QM r) (t_MO_expression_B M rc) := by
  unfold t_MO_expression_B
  refine post_bind (Q := fun r => QM r) (hrc _ _ h_M) (fun q1 h_q1 => ?_)
  exact (qm_MO_expression_L4 hrc  _ _ h_q1 )
theorem qm_MO_G : ∀ (d i : Nat) (M : Mem), QM M → Post (fun r => QM r) (t_MO_G d i M) := by
  intro d
  induction d with
  | zero => intro i M h; exact post_none
  | succ d ih =>
    intro i M h
    rw [t_MO_G]
    refine post_ite (fun _ => ?_) (fun _ => ?_)
    · exact qm_MO_expression_B (fun i_ M_ h9 => ih i_ M_ h9) h
    refine post_ite (fun _ => ?_) (fun _ => ?_)
    · exact qm_MO_conjunction_B (fun i_ M_ h9 => ih i_ M_ h9) h
    refine post_ite (fun _ => ?_) (fun _ => ?_)
    · exact qm_MO_negation_B (fun i_ M_ h9 => ih i_ M_ h9) h
    refine post_ite (fun _ => ?_) (fun _ => ?_)
    · exact qm_MO_sum_B (fun i_ M_ h9 => ih i_ M_ h9) h
    refine post_ite (fun _ => ?_) (fun _ => ?_)
    · exact qm_MO_product_B (fun i_ M_ h9 => ih i_ M_ h9) h
    refine post_ite (fun _ => ?_) (fun _ => ?_)
    · exact qm_MO_primary_B (fun i_ M_ h9 => ih i_ M_ h9) h
    exact post_none
theorem qm_MO_expression {M : Mem} (h : QM M) : Post (fun r => QM r) (t_MO_expression M) := qm_MO_G 200 0 M h
theorem qm_MO_conjunction {M : Mem} (h : QM M) : Post (fun r => QM r) (t_MO_conjunction M) := qm_MO_G 200 1 M h
theorem qm_MO_negation {M : Mem} (h : QM M) : Post (fun r => QM r) (t_MO_negation M) := qm_MO_G 200 2 M h
theorem qm_MO_sum {M : Mem} (h : QM M) : Post (fun r => QM r) (t_MO_sum M) := qm_MO_G 200 3 M h
theorem qm_MO_product {M : Mem} (h : QM M) : Post (fun r => QM r) (t_MO_product M) := qm_MO_G 200 4 M h
theorem qm_MO_primary {M : Mem} (h : QM M) : Post (fun r => QM r) (t_MO_primary M) := qm_MO_G 200 5 M h
theorem qm_MO_lawLine_L61 {v1_ : Int} {M : Mem}  (h_M : QM M) (h_v1_ : True) : Post (fun r => QM r) (t_MO_lawLine_L61 M v1_) := by
  unfold t_MO_lawLine_L61
  refine post_ite (fun c_1 => ?_) (fun c_1 => ?_)
  · refine post_let (fun M20 e_M20 => ?_)
    have h_M20 : QM M20 := by rw [e_M20]; exact QM.setI h_M (by omega)
    clear e_M20
    refine post_bind (Q := fun r => QM r) (qm_MO_token  h_M20 ) (fun q21 h_q21 => ?_)
    refine post_bind (Q := fun _ => True) (qm_MO_fresher  h_q21 True.intro) (fun q23 h_q23 => ?_)
    refine post_guard (fun c_2 => ?_)
    refine post_let (fun M26 e_M26 => ?_)
    have h_M26 : QM M26 := by rw [e_M26]; exact QM.setI h_q21 (by omega)
    clear e_M26
    refine post_bind (Q := fun r => QM r) (qm_MO_expression  h_M26 ) (fun q27 h_q27 => ?_)
    refine post_bind (Q := fun _ => True) (qm_MO_fresher  h_q27 True.intro) (fun q29 h_q29 => ?_)
    refine post_guard (fun c_3 => ?_)
    refine post_let (fun M32 e_M32 => ?_)
    have h_M32 : QM M32 := by rw [e_M32]; exact QM.setI h_q27 (by omega)
    clear e_M32
    exact post_some h_M32
  · exact post_some h_M
theorem qm_MO_lawLine_L30  {M : Mem}  (h_M : QM M)  : Post (fun r => QM r) (t_MO_lawLine_L30 M) := by
  unfold t_MO_lawLine_L30
  refine post_ite (fun c_1 => ?_) (fun c_1 => ?_)
  · refine post_let (fun q12 e_q12 => ?_)
    have h_q12 : True := True.intro
    clear e_q12
    refine post_ite (fun c_2 => ?_) (fun c_2 => ?_)
    · exact (qm_MO_lawLine_L61  h_M True.intro)
    · refine post_let (fun q15 e_q15 => ?_)
      have h_q15 : (fun r => QM r) q15 := by rw [e_q15]; exact (qm_MO_wrong  h_M (by decide))
      clear e_q15
      exact (qm_MO_lawLine_L61  h_q15 True.intro)
  · exact (qm_MO_lawLine_L61  h_M True.intro)
theorem qm_MO_lawLine_L25  {M : Mem}  (h_M : QM M)  : Post (fun r => QM r) (t_MO_lawLine_L25 M) := by
  unfold t_MO_lawLine_L25
  refine post_let (fun q7 e_q7 => ?_)
  have h_q7 : (fun r => QM r) q7 := by rw [e_q7]; exact (qm_MO_wrong  h_M (by decide))
  clear e_q7
  exact (qm_MO_lawLine_L30  h_q7 )
theorem qm_MO_lawLine  {M : Mem}  (h_M : QM M)  : Post (fun r => QM r) (t_MO_lawLine M) := by
  unfold t_MO_lawLine
  refine post_ite (fun c_1 => ?_) (fun c_1 => ?_)
  · refine post_ite (fun c_2 => ?_) (fun c_2 => ?_)
    · exact (qm_MO_lawLine_L30  h_M )
    · refine post_ite (fun c_3 => ?_) (fun c_3 => ?_)
      · exact (qm_MO_lawLine_L30  h_M )
      · exact (qm_MO_lawLine_L25  h_M )
  · exact (qm_MO_lawLine_L25  h_M )
theorem qm_MO_line_L16  {M : Mem}  (h_M : QM M)  : Post (fun r => QM r) (t_MO_line_L16 M) := by
  unfold t_MO_line_L16
  refine post_let (fun q13 e_q13 => ?_)
  have h_q13 : (fun r => QM r) q13 := by rw [e_q13]; exact (qm_MO_wrong  h_M (by decide))
  clear e_q13
  exact post_some h_q13
theorem qm_MO_line_L303  {M : Mem}  (h_M : QM M)  : Post (fun r => QM r) (t_MO_line_L303 M) := by
  unfold t_MO_line_L303
  refine post_let (fun M86 e_M86 => ?_)
  have h_M86 : QM M86 := by rw [e_M86]; exact QM.setI h_M (by omega)
  clear e_M86
  exact post_some h_M86
theorem qm_MO_line_L274  {M : Mem}  (h_M : QM M)  : Post (fun r => QM r) (t_MO_line_L274 M) := by
  unfold t_MO_line_L274
  refine post_ite (fun c_1 => ?_) (fun c_1 => ?_)
  · refine post_let (fun q78 e_q78 => ?_)
    have h_q78 : True := True.intro
    clear e_q78
    refine post_ite (fun c_2 => ?_) (fun c_2 => ?_)
    · refine post_let (fun q83 e_q83 => ?_)
      have h_q83 : (fun r => QM r) q83 := by rw [e_q83]; exact (qm_MO_wrong  h_M (by decide))
      clear e_q83
      exact (qm_MO_line_L303  h_q83 )
    · refine post_bind (Q := fun r => QM r) (qm_MO_token  h_M ) (fun q81 h_q81 => ?_)
      exact (qm_MO_line_L303  h_q81 )
  · exact post_some h_M
theorem qm_MO_line_L110 {v1_ : Int} {M : Mem}  (h_M : QM M) (h_v1_ : True) : Post (fun r => QM r) (t_MO_line_L110 M v1_) := by
  unfold t_MO_line_L110
  refine post_ite (fun c_1 => ?_) (fun c_1 => ?_)
  · refine post_let (fun M36 e_M36 => ?_)
    have h_M36 : QM M36 := by rw [e_M36]; exact QM.setI h_M (by omega)
    clear e_M36
    refine post_bind (Q := fun r => QM r) (qm_MO_token  h_M36 ) (fun q37 h_q37 => ?_)
    refine post_ite (fun c_2 => ?_) (fun c_2 => ?_)
    · refine post_bind (Q := fun r => QM r.1) (qm_MO_numeral  h_q37 True.intro True.intro) (fun q40 h_q40 => ?_)
      refine post_bind (Q := fun r => QM r) (qm_MO_reads  h_q40 True.intro True.intro) (fun q42 h_q42 => ?_)
      refine post_bind (Q := fun r => QM r.1) (qm_MO_numeral  h_q42 True.intro True.intro) (fun q44 h_q44 => ?_)
      refine post_bind (Q := fun r => QM r) (qm_MO_reads  h_q44 True.intro True.intro) (fun q46 h_q46 => ?_)
      exact (qm_MO_line_L274  h_q46 )
    · refine post_ite (fun c_3 => ?_) (fun c_3 => ?_)
      · refine post_bind (Q := fun _ => True) (qm_MO_fresher  h_q37 True.intro) (fun q49 h_q49 => ?_)
        refine post_bind (Q := fun r => QM r) (qm_MO_wardLine  h_q37 True.intro) (fun q51 h_q51 => ?_)
        exact (qm_MO_line_L274  h_q51 )
      · refine post_ite (fun c_4 => ?_) (fun c_4 => ?_)
        · refine post_bind (Q := fun r => QM r) (qm_MO_partLine  h_q37 ) (fun q54 h_q54 => ?_)
          exact (qm_MO_line_L274  h_q54 )
        · refine post_ite (fun c_5 => ?_) (fun c_5 => ?_)
          · refine post_bind (Q := fun r => QM r) (qm_MO_wallLine  h_q37 ) (fun q57 h_q57 => ?_)
            exact (qm_MO_line_L274  h_q57 )
          · refine post_ite (fun c_6 => ?_) (fun c_6 => ?_)
            · refine post_bind (Q := fun r => QM r) (qm_MO_stairLine  h_q37 ) (fun q60 h_q60 => ?_)
              exact (qm_MO_line_L274  h_q60 )
            · refine post_ite (fun c_7 => ?_) (fun c_7 => ?_)
              · refine post_bind (Q := fun _ => True) (qm_MO_fresher  h_q37 True.intro) (fun q63 h_q63 => ?_)
                refine post_bind (Q := fun r => QM r) (qm_MO_thingLine  h_q37 True.intro) (fun q65 h_q65 => ?_)
                exact (qm_MO_line_L274  h_q65 )
              · refine post_ite (fun c_8 => ?_) (fun c_8 => ?_)
                · refine post_bind (Q := fun r => QM r.1) (qm_MO_numeral  h_q37 True.intro True.intro) (fun q68 h_q68 => ?_)
                  refine post_bind (Q := fun r => QM r) (qm_MO_reads  h_q68 True.intro True.intro) (fun q70 h_q70 => ?_)
                  exact (qm_MO_line_L274  h_q70 )
                · refine post_bind (Q := fun r => QM r) (qm_MO_lawLine  h_q37 ) (fun q72 h_q72 => ?_)
                  exact (qm_MO_line_L274  h_q72 )
  · exact post_some h_M
theorem qm_MO_line_L105 {v1_ : Int} {M : Mem}  (h_M : QM M) (h_v1_ : True) : Post (fun r => QM r) (t_MO_line_L105 M v1_) := by
  unfold t_MO_line_L105
  refine post_let (fun q74 e_q74 => ?_)
  have h_q74 : (fun r => QM r) q74 := by rw [e_q74]; exact (qm_MO_wrong  h_M (by decide))
  clear e_q74
  exact (qm_MO_line_L110  h_q74 True.intro)
theorem qm_MO_line_L69 {v1_ : Int} {M : Mem}  (h_M : QM M) (h_v1_ : True) : Post (fun r => QM r) (t_MO_line_L69 M v1_) := by
  unfold t_MO_line_L69
  refine post_ite (fun c_1 => ?_) (fun c_1 => ?_)
  · refine post_let (fun q21 e_q21 => ?_)
    have h_q21 : True := True.intro
    clear e_q21
    refine post_ite (fun c_2 => ?_) (fun c_2 => ?_)
    · refine post_let (fun q24 e_q24 => ?_)
      have h_q24 : True := True.intro
      clear e_q24
      refine post_ite (fun c_3 => ?_) (fun c_3 => ?_)
      · refine post_let (fun q27 e_q27 => ?_)
        have h_q27 : True := True.intro
        clear e_q27
        refine post_ite (fun c_4 => ?_) (fun c_4 => ?_)
        · refine post_let (fun q30 e_q30 => ?_)
          have h_q30 : True := True.intro
          clear e_q30
          refine post_ite (fun c_5 => ?_) (fun c_5 => ?_)
          · exact (qm_MO_line_L110  h_M True.intro)
          · exact (qm_MO_line_L105  h_M True.intro)
        · exact (qm_MO_line_L105  h_M True.intro)
      · exact (qm_MO_line_L105  h_M True.intro)
    · exact (qm_MO_line_L105  h_M True.intro)
  · exact (qm_MO_line_L110  h_M True.intro)
theorem qm_MO_line_L53 {v1_ : Int} {M : Mem}  (h_M : QM M) (h_v1_ : True) : Post (fun r => QM r) (t_MO_line_L53 M v1_) := by
  unfold t_MO_line_L53
  refine post_let (fun q15 e_q15 => ?_)
  have h_q15 : True := True.intro
  clear e_q15
  refine post_ite (fun c_1 => ?_) (fun c_1 => ?_)
  · exact (qm_MO_line_L69  h_M True.intro)
  · refine post_let (fun q18 e_q18 => ?_)
    have h_q18 : (fun r => QM r) q18 := by rw [e_q18]; exact (qm_MO_wrong  h_M (by decide))
    clear e_q18
    exact (qm_MO_line_L110  h_q18 True.intro)
theorem qm_MO_line  {M : Mem}  (h_M : QM M)  : Post (fun r => QM r) (t_MO_line M) := by
  unfold t_MO_line
  refine post_ite (fun c_1 => ?_) (fun c_1 => ?_)
  · refine post_ite (fun c_2 => ?_) (fun c_2 => ?_)
    · refine post_bind (Q := fun _ => True) (qm_MO_isFull  h_M True.intro) (fun q6 h_q6 => ?_)
      refine post_ite (fun c_3 => ?_) (fun c_3 => ?_)
      · refine post_ite (fun c_4 => ?_) (fun c_4 => ?_)
        · exact (qm_MO_line_L53  h_M True.intro)
        · refine post_ite (fun c_5 => ?_) (fun c_5 => ?_)
          · exact (qm_MO_line_L53  h_M True.intro)
          · exact (qm_MO_line_L69  h_M True.intro)
      · refine post_let (fun q11 e_q11 => ?_)
        have h_q11 : (fun r => QM r) q11 := by rw [e_q11]; exact (qm_MO_wrong  h_M (by decide))
        clear e_q11
        exact (qm_MO_line_L110  h_q11 True.intro)
    · exact (qm_MO_line_L16  h_M )
  · exact (qm_MO_line_L16  h_M )
/-! the text's end -/
def QF (M : Mem) : Prop := M.1 191 26 = 0 → M.1 191 27 = -1
def QFW : Nat → Int → Prop := fun k j => ¬ (k = 191 ∧ (j = 26 ∨ j = 27))
theorem QF.fr {M N : Mem} (h : QF M) (hF : Fr QFW M N) : QF N := by
  unfold QF
  rw [(hF 191 26 (by unfold QFW; omega)).1, (hF 191 27 (by unfold QFW; omega)).1]
  exact h
theorem qm_text_L195 {x1 : Int} {M : Mem} (h : QM M) : Post (fun r => QF r.1) (t_MO_text_L195 x1 M) := by
  unfold t_MO_text_L195
  refine post_letX (fun A eA => post_letX (fun C eC => ?_))
  have hC : QF C := by
    unfold QF
    rw [eC, sI_ne (by omega), sI_self, eA, sI_self, sI_ne (by omega)]
    exact h
  have hh : ∀ (N : Mem) (r n : Nat), 193 ≤ r → Fr QFW C N → Post (fun P => Fr QFW C P) (t_MO_half N r n) := fun N r n hr hN => fr_MO_half (fun k j z => by unfold W_MO_half at z; unfold QFW; omega) hN
  refine post_ite (fun _ => post_bind (hh _ _ _ (by omega) Fr.rf) (fun a ha => post_bind (hh _ _ _ (by omega) ha) (fun b hb => post_bind (hh _ _ _ (by omega) hb) (fun c hc => post_bind (hh _ _ _ (by omega) hc) (fun d hd => post_bind (hh _ _ _ (by omega) hd) (fun e he => ?_)))))) (fun _ => post_some hC)
  intro r er
  exact hC.fr (fr_MO_text_L257 (W := QFW) (M0 := C) (fun k j z => by unfold W_MO_text_L257 at z; unfold QFW; omega) FU e 0 he r er)
theorem qm_text_L173 {x1 : Int} : ∀ (fu : Nat) (M : Mem), QM M → Post (fun r => QF r.1) (t_MO_text_L173 x1 fu M) := by
  intro fu
  induction fu with
  | zero => intro M h; rw [t_MO_text_L173]; exact post_none
  | succ fu ih =>
    intro M h
    rw [t_MO_text_L173]
    exact post_ite (fun _ => post_ite (fun _ => qm_text_L195 h) (fun _ => post_bind (qm_MO_line h) (fun q hq => ih _ hq))) (fun _ => qm_text_L195 h)
theorem qm_text_L124 {x1 : Int} : ∀ (fu : Nat) (M : Mem) (v : Int), QM M → Post (fun r => QF r.1) (t_MO_text_L124 x1 fu M v) := by
  intro fu
  induction fu with
  | zero => intro M v h; rw [t_MO_text_L124]; exact post_none
  | succ fu ih =>
    intro M v h
    rw [t_MO_text_L124]
    refine post_ite (fun _ => post_letX (fun A eA => post_letX (fun C eC => post_letX (fun D eD => post_letX (fun E eE => ?_))))) (fun _ => post_guard (fun _ => post_letX (fun A eA => post_guard (fun _ => post_letX (fun C eC => ih _ _ ?_)))))
    · have hE : QM E := by rw [eE, eD, eC, eA]; exact (((h.setI (by omega)).setI (by omega)).setI (by omega)).setI (by omega)
      exact post_bind (qm_MO_token hE) (fun q hq => qm_text_L173 _ _ hq)
    · rw [eC, eA]; exact (h.setI (by omega)).setI (by omega)
theorem qm_text_L80 {x1 : Int} : ∀ (fu : Nat) (M : Mem) (v : Int), QM M → Post (fun r => QF r.1) (t_MO_text_L80 x1 fu M v) := by
  intro fu
  induction fu with
  | zero => intro M v h; rw [t_MO_text_L80]; exact post_none
  | succ fu ih =>
    intro M v h
    rw [t_MO_text_L80]
    refine post_ite (fun _ => qm_text_L124 _ _ _ h) (fun _ => post_guard (fun _ => post_letX (fun A eA => post_guard (fun _ => post_letX (fun C eC => post_guard (fun _ => post_letX (fun D eD => ih _ _ ?_)))))))
    rw [eD, eC, eA]; exact ((h.setI (by omega)).setI (by omega)).setI (by omega)
theorem qm_text_L47 {x1 : Int} : ∀ (fu : Nat) (M : Mem) (v : Int), QM M → Post (fun r => QF r.1) (t_MO_text_L47 x1 fu M v) := by
  intro fu
  induction fu with
  | zero => intro M v h; rw [t_MO_text_L47]; exact post_none
  | succ fu ih =>
    intro M v h
    have s : ∀ a b, Post (fun r => QF r.1) (t_MO_text_L69 x1 (fun a0_ a1_ => t_MO_text_L47 x1 fu a0_ a1_) M v a b) := fun a b => by
      unfold t_MO_text_L69
      exact post_bind (qm_MO_reads h True.intro True.intro) (fun q hq => ih _ _ hq)
    rw [t_MO_text_L47]
    unfold t_MO_text_L64
    exact post_ite (fun _ => qm_text_L80 _ _ _ h) (fun _ => post_ite (fun _ => s _ _) (fun _ => post_ite (fun _ => s _ _) (fun _ => s _ _)))
theorem qm_text {x1 : Int} {M : Mem} (h : 0 ≤ x1 ∧ x1 ≤ M.1 191 2) : Post (fun r => QF r.1) (t_MO_text M x1) := by
  unfold t_MO_text
  refine post_letX (fun A eA => ?_)
  have e2 : A.1 191 2 = M.1 191 2 := by rw [eA, sI_ne (by omega)]
  rw [if_neg (by omega), e2, if_pos h.2]
  refine post_letX (fun C eC => post_letX (fun D eD => post_letX (fun E eE => post_letX (fun F eF => post_letX (fun G eG => qm_text_L47 _ _ _ ?_)))))
  intro _
  rw [eG, sI_self]
/-! a text: what the reference keeps, with the town told -/
theorem ri_textV {M : Mem} {V : TV} (h : RI M V) (hT : TInv M) {x1 : Int} (hx : 0 ≤ x1 ∧ x1 ≤ M.1 191 2) : ∃ N r, t_MO_text M x1 = some (N, r) ∧ TInv N ∧ N.1 191 2 = 0 ∧ (((txA (fun j => M.1 192 j) x1).1 ≠ 0 ∧ r = -1 ∧ RI N V ∧ N.1 191 26 = (txA (fun j => M.1 192 j) x1).1 ∧ N.1 191 27 = (txA (fun j => M.1 192 j) x1).2.1 ∧ Fr TfW M N) ∨ ((txA (fun j => M.1 192 j) x1).1 = 0 ∧ r = (txA (fun j => M.1 192 j) x1).2.2.1 ∧ RI N (txA (fun j => M.1 192 j) x1).2.2.2 ∧ N.1 191 26 = 0 ∧ N.1 191 27 = -1 ∧ POK (txA (fun j => M.1 192 j) x1).2.2.2 ∧ BgO N (txA (fun j => M.1 192 j) x1).2.2.2 ∧ N.1 191 42 = 0 ∧ N.1 191 43 = 0 ∧ N.1 191 60 = 0 ∧ N.1 191 61 = -1)) := by
  rcases m_text (x1 := x1) hT with ⟨a, e⟩ | ⟨a, N, r, e, o⟩
  · exact absurd hx a
  · have ti : N.1 191 2 = 0 → TInv N := fun z => ⟨by rw [z]; omega, fun j u v => by rw [z] at v; omega⟩
    have qf := qm_text hx _ e
    refine ⟨N, r, e, ?_⟩
    rcases o with ⟨o1, o2, o3, o4, o5, o6⟩ | ⟨o1, o2, o3, o4, o5, o6, o7, o8, o9, o10, o11, o12, o13⟩
    · exact ⟨ti o6, o6, Or.inl ⟨o1, o2, h.frS o3 (fun k j u z => by unfold RIt RIc at u; unfold TfW StW at z; omega), o4, o5, o3⟩⟩
    · refine ⟨ti o5, o5, Or.inr ⟨o1, o2, ?_, o4, qf o4, o6, o9, o10, o11, o12, o13⟩⟩
      clear e qf
      generalize (txA (fun j => M.1 192 j) x1).2.2.2 = V' at *
      have hv := o6.1.1
      refine ⟨⟨o6.1, o7, o6.2.1, o8⟩, ?_, ⟨⟨fun w u v => ?_, fun t u v => ?_, fun c u v => ?_⟩, ?_⟩, ⟨Or.inl o10, fun z => ?_⟩, ⟨?_, ?_, fun k u v => ?_⟩, ?_⟩
      · rw [(o3 191 44 (by unfold TsW TfW StW BgW; omega)).1]; exact h.2.1
      · have := o9.2.1 w u (by omega)
        have hw := o6.1.2.1 w u v
        rw [show 4 * (0 : Int) + w = w by omega]
        show 0 ≤ N.1 212 w ∧ N.1 212 w ≤ 4
        rw [this, if_neg (by omega)]; omega
      · have := (o9.2.2 t u (by omega)).1
        have hw := o6.1.2.2.1 t u v
        rw [show 8 * (0 : Int) + t = t by omega]
        show 0 ≤ N.1 213 t ∧ N.1 213 t < cellsV V'
        rw [this, if_neg (by omega)]; omega
      · have z1 := o9.1.2.2.2.1
        have z2 := o9.1.2.2.2.2
        show tb (N.2 210 0) c = false ∧ tb (N.2 211 0) c = false
        rw [z1, z2, tb_zero]
        exact ⟨rfl, rfl⟩
      · have z1 := o9.1.1
        have z2 := o9.1.2.2.1
        show 0 ≤ N.1 207 0 ∧ N.1 207 0 ≤ 99 ∧ 0 ≤ N.1 209 0 ∧ N.1 209 0 ≤ 2147483647
        rw [z1, z2]; omega
      · have o10 : N.1 191 42 = 0 := o10
        have z : N.1 191 42 = 1 := z
        omega
      · show 0 ≤ N.1 191 43
        omega
      · show N.1 191 43 ≤ 20
        omega
      · have v : k < N.1 191 43 := v
        omega
      · unfold NotesOK
        show 0 ≤ N.1 191 60 ∧ N.1 191 60 ≤ 24 ∧ -1 ≤ N.1 191 61 ∧ N.1 191 61 ≤ N.1 191 60 ∧ _
        rw [o12, o13]
        exact ⟨by omega, by omega, by omega, by omega, fun k u v => by omega⟩
end
section
/-! ===== a text, the class's side, by value ===== -/
def CxW (T : Nat) : Nat → Int → Prop := fun k j => (T ≤ k ∧ k ≤ T + 9) ∨ ((k = T + 10 ∨ k = T + 15) ∧ (j = 3 ∨ j = 4)) ∨ k = T + 11 ∨ k = T + 12 ∨ k = T + 16 ∨ k = T + 17
theorem CTx.fr {W : Nat → Int → Prop} {M N : Mem} {T : Nat} {V : TV} (h : CTx M T V) (hF : Fr W M N) (hd : ∀ k j, CxW T k j → ¬ W k j) : CTx N T V := by
  obtain ⟨h1, ⟨h2, h3, h4⟩, h5⟩ := h
  refine ⟨CT0.fr hF (fun k j a b => hd k j (by unfold CxW; omega)) h1, ⟨?_, fun w a b => ?_, fun c a b d e f => ?_⟩, h5.fr hF (fun k j a => hd k j (by unfold CxW; omega))⟩
  · rw [(hF T 13 (hd _ _ (by unfold CxW; omega))).1]; exact h2
  · rw [(hF (T + 4) w (hd _ _ (by unfold CxW; omega))).1]; exact h3 w a b
  · rw [(hF (T + 9) _ (hd _ _ (by unfold CxW; omega))).1]; exact h4 c a b d e f
def TfC (T : Nat) : Nat → Int → Prop := fun k j => (k = 0 ∧ 1 ≤ j ∧ j ≤ 3) ∨ (T ≤ k ∧ k ≤ T + 19) ∨ (42 ≤ k ∧ k ≤ 46)
theorem cx_text {x1 : Int} {M : Mem} {B : Int → Int} {T T' : Nat} (h4 : M.1 0 4 = (T : Int)) (h5 : M.1 0 5 = (T' : Int)) (hT : (T = 2 ∧ T' = 22) ∨ (T = 22 ∧ T' = 2)) (hB : TpC M B x1) (hx : 0 ≤ x1 ∧ x1 ≤ M.1 0 1) : ∃ N r, t_WF_text M x1 = some (N, r) ∧ N.1 0 1 = 0 ∧ Fr (fun k j => k < 191 ∧ ¬ (k = 70 ∧ j = 1)) M N ∧
    (((txA B x1).1 = 0 ∧ r = (txA B x1).2.2.1 ∧ N.1 0 4 = (T' : Int) ∧ N.1 0 5 = (T : Int) ∧ CTx N T' (txA B x1).2.2.2 ∧ N.1 0 2 = 0 ∧ N.1 0 3 = -1 ∧ BgC N T') ∨
     ((txA B x1).1 ≠ 0 ∧ r = -1 ∧ N.1 0 2 = (txA B x1).1 ∧ N.1 0 3 = (txA B x1).2.1 ∧ Fr (TfC T') M N)) := by
  unfold t_WF_text
  rw [if_neg (by omega), if_pos hx.2]
  obtain ⟨N1, a1, a2, a3⟩ := c_scan hB
  rw [a1, obind_some]
  simp (config := { proj := false }) only [qlet]
  have f1 : Fr (fun k j => (k = 0 ∧ j = 1) ∨ (42 ≤ k ∧ k ≤ 45)) M (setI N1 0 1 0) := (a2.mono (fun k j z => by unfold ScW at z; omega)).setI (by omega)
  have g1 : Fr (fun k j => k = 0 ∧ j = 1) N1 (setI N1 0 1 0) := Fr.rf.setI ⟨rfl, rfl⟩
  have v1 : (setI N1 0 1 0).1 0 1 = 0 := sI_self _ _ _ _
  generalize setI N1 0 1 0 = M6 at *
  have e5 : M6.1 0 5 = (T' : Int) := ((f1 0 5 (by omega)).1).trans h5
  rw [e5, Int.toNat_natCast]
  obtain ⟨N2, b1, b2, b3, b4, b5⟩ := c_clear (M := M6) (T := T') (by omega)
  rw [b1, obind_some]
  have e52 : N2.1 0 5 = (T' : Int) := ((b2 0 5 (by unfold W_Town_clear; omega)).1).trans e5
  rw [e52, Int.toNat_natCast]
  have tb2 : TBl N2 B x1 := (a3.fr g1 (fun k j x y z => by omega)).fr b2 (fun k j x y z => by unfold W_Town_clear at z; omega)
  obtain ⟨N3, r, c1, c2, c3⟩ := c_read (T := T') (by omega) tb2 ⟨b3, b4, b5⟩
  have hkp := kp_read (M := N2) (T := T') (by omega) _ c1
  rw [c1, obind_some]
  have f3 : Fr (TfC T') M N3 := ((f1.mono (fun k j z => by unfold TfC; omega)).trans (b2.mono (fun k j z => by unfold W_Town_clear at z; unfold TfC; omega))).trans (c2.mono (fun k j z => by unfold TfC; omega))
  have v3 : N3.1 0 1 = 0 := ((c2 0 1 (by omega)).1).trans (((b2 0 1 (by unfold W_Town_clear; omega)).1).trans v1)
  have f16 : Fr (fun k j => k = 0 ∧ (j = 2 ∨ j = 3)) N3 (setI (setI N3 0 2 (N3.1 46 9)) 0 3 ((setI N3 0 2 (N3.1 46 9)).1 46 10)) := (Fr.rf.setI (by omega)).setI (by omega)
  have w2 : (setI (setI N3 0 2 (N3.1 46 9)) 0 3 ((setI N3 0 2 (N3.1 46 9)).1 46 10)).1 0 2 = N3.1 46 9 := by rw [sI_ne (by omega), sI_self]
  have w3 : (setI (setI N3 0 2 (N3.1 46 9)) 0 3 ((setI N3 0 2 (N3.1 46 9)).1 46 10)).1 0 3 = N3.1 46 10 := by rw [sI_self, sI_ne (by omega)]
  show ∃ N r', (if 0 ≤ r then obind (t_WF_startAnew (setI (setI (setI (setI N3 0 2 (N3.1 46 9)) 0 3 ((setI N3 0 2 (N3.1 46 9)).1 46 10)) 0 5 (((setI (setI N3 0 2 (N3.1 46 9)) 0 3 ((setI N3 0 2 (N3.1 46 9)).1 46 10)).1 0 4).toNat : Nat)) 0 4 (((setI (setI N3 0 2 (N3.1 46 9)) 0 3 ((setI N3 0 2 (N3.1 46 9)).1 46 10)).1 0 5).toNat : Nat))) (fun q22 => some (q22, r)) else some (setI (setI N3 0 2 (N3.1 46 9)) 0 3 ((setI N3 0 2 (N3.1 46 9)).1 46 10), -1)) = some (N, r') ∧ _
  generalize setI (setI N3 0 2 (N3.1 46 9)) 0 3 ((setI N3 0 2 (N3.1 46 9)).1 46 10) = M16 at *
  have fA : Fr (TfC T') M M16 := f3.trans (f16.mono (fun k j z => by unfold TfC; omega))
  have u1 : M16.1 0 1 = 0 := ((f16 0 1 (by omega)).1).trans v3
  have u4 : M16.1 0 4 = (T : Int) := ((fA 0 4 (by unfold TfC; omega)).1).trans h4
  have u5 : M16.1 0 5 = (T' : Int) := ((fA 0 5 (by unfold TfC; omega)).1).trans h5
  rw [u4, u5, Int.toNat_natCast, Int.toNat_natCast]
  rcases c3 with ⟨d1, d2, d3, d4⟩ | ⟨d1, d2, d3⟩
  · rw [if_pos d3]
    have f21 : Fr (fun k j => k = 0 ∧ (j = 4 ∨ j = 5)) M16 (setI (setI M16 0 5 (T : Int)) 0 4 (T' : Int)) := (Fr.rf.setI (by omega)).setI (by omega)
    have x4 : (setI (setI M16 0 5 (T : Int)) 0 4 (T' : Int)).1 0 4 = (T' : Int) := sI_self _ _ _ _
    have x5 : (setI (setI M16 0 5 (T : Int)) 0 4 (T' : Int)).1 0 5 = (T : Int) := by rw [sI_ne (by omega), sI_self]
    generalize setI (setI M16 0 5 (T : Int)) 0 4 (T' : Int) = M21 at *
    obtain ⟨N, n1, n2, n3⟩ := c_anew (M := M21) (T := T') (by omega) (by omega) x4
    rw [n1, obind_some]
    have y : ∀ j, 1 ≤ j → j ≤ 5 → N.1 0 j = M21.1 0 j := fun j p q => (n2 0 j (by unfold W_WF_startAnew; omega)).1
    obtain ⟨k1, k2⟩ := hkp d3
    refine ⟨N, r, rfl, ?_, ?_, Or.inl ⟨d1, d2, ?_, ?_, ?_, ?_, ?_, n3⟩⟩
    · rw [y 1 (by omega) (by omega), (f21 0 1 (by omega)).1]; exact u1
    · exact ((fA.mono (fun k j z => by unfold TfC at z; omega)).trans (f21.mono (fun k j z => by omega))).trans (n2.mono (fun k j z => by unfold W_WF_startAnew at z; omega))
    · rw [y 4 (by omega) (by omega)]; exact x4
    · rw [y 5 (by omega) (by omega)]; exact x5
    · exact ((d4.fr f16 (fun k j x z => by unfold CxW at x; omega)).fr f21 (fun k j x z => by unfold CxW at x; omega)).fr n2 (fun k j x z => by unfold CxW at x; unfold W_WF_startAnew at z; omega)
    · rw [y 2 (by omega) (by omega), (f21 0 2 (by omega)).1, w2]; exact k1
    · rw [y 3 (by omega) (by omega), (f21 0 3 (by omega)).1, w3]; exact k2
  · rw [if_neg (show ¬ 0 ≤ r by omega)]
    exact ⟨M16, -1, rfl, u1, fA.mono (fun k j z => by unfold TfC at z; omega), Or.inr ⟨d1, rfl, by rw [w2]; exact d3.1, by rw [w3]; exact d3.2, fA⟩⟩
end
