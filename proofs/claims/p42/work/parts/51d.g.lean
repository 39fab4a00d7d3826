section
def W_MO_expression_L4 : Nat → Int → Prop := fun k j => (k = 191 ∧ (j = 20 ∨ j = 21 ∨ j = 22 ∨ j = 23 ∨ j = 24 ∨ j = 25 ∨ j = 28 ∨ j = 29)) ∨ k = 193 ∨ k = 205 ∨ k = 206
theorem fr_MO_expression_L4 {rc : Nat → Mem → Option Mem} {W : Nat → Int → Prop} {M0 : Mem} (hW : ∀ k j, (W_MO_expression_L4) k j → W k j) (hrc : ∀ (i_ : Nat) (M_ : Mem), Fr W M0 M_ → Post (fun r => Fr W M0 r) (rc i_ M_)) : ∀ (fu : Nat) (M : Mem) , Fr W M0 M → Post (fun r => Fr W M0 r) (t_MO_expression_L4 rc fu M ) := by
  intro fu
  induction fu with
  | zero => intro M  h; exact post_none
  | succ fu ih =>
    intro M  h
    rw [t_MO_expression_L4]
    refine post_let (fun q3 _ => ?_)
    refine post_ite (fun c_1 => ?_) (fun c_1 => ?_)
    · exact post_some h
    · refine post_let (fun q6 e_q6 => ?_)
      have h_q6 : Fr W M0 q6 := by rw [e_q6]; exact (fr_MO_knot (fun k j hk => hW k j (Or.inl ⟨(hk).1, (Or.elim (hk).2 (fun h => (Or.inr (Or.inr (Or.inr (Or.inr (Or.inl h)))))) (fun h => (Or.elim h (fun h => (Or.inr (Or.inr (Or.inr (Or.inr (Or.inr (Or.inl h))))))) (fun h => (Or.inr (Or.inr (Or.inr (Or.inr (Or.inr (Or.inr (Or.inr h)))))))))))⟩))  h)
      refine post_bind (Q := fun r => Fr W M0 r) (fr_MO_goOn (fun k j hk => hW k j (Or.inl ⟨(hk).1, (Or.elim (hk).2 (fun h => (Or.inl h)) (fun h => (Or.elim h (fun h => (Or.inr (Or.inl h))) (fun h => (Or.elim h (fun h => (Or.inr (Or.inr (Or.inl h)))) (fun h => (Or.inr (Or.inr (Or.inr (Or.inl h))))))))))⟩))  h_q6) (fun q8 h_q8 => ?_)
      refine post_bind (Q := fun r => Fr W M0 r) (hrc _ _ h_q8) (fun q10 h_q10 => ?_)
      refine post_bind (Q := fun r => Fr W M0 r) (fr_MO_puts (fun k j hk => hW k j (Or.elim hk (fun h => (Or.inr (Or.inl h))) (fun h => (Or.elim h (fun h => (Or.inr (Or.inr (Or.inl h)))) (fun h => (Or.inr (Or.inr (Or.inr h))))))))  h_q10) (fun q12 h_q12 => ?_)
      exact (ih _ h_q12)
def W_MO_expression_B : Nat → Int → Prop := fun k j => (k = 191 ∧ (j = 20 ∨ j = 21 ∨ j = 22 ∨ j = 23 ∨ j = 24 ∨ j = 25 ∨ j = 28 ∨ j = 29)) ∨ k = 193 ∨ k = 205 ∨ k = 206
theorem fr_MO_expression_B {rc : Nat → Mem → Option Mem} {W : Nat → Int → Prop} {M0 : Mem} (hW : ∀ k j, (W_MO_expression_B) k j → W k j) (hrc : ∀ (i_ : Nat) (M_ : Mem), Fr W M0 M_ → Post (fun r => Fr W M0 r) (rc i_ M_)) {M : Mem} (h : Fr W M0 M) : Post (fun r => Fr W M0 r) (t_MO_expression_B M rc) := by
  unfold t_MO_expression_B
  refine post_bind (Q := fun r => Fr W M0 r) (hrc _ _ h) (fun q1 h_q1 => ?_)
  exact (fr_MO_expression_L4 (fun k j hk => hW k j (Or.elim hk (fun h => (Or.inl ⟨(h).1, (Or.elim (h).2 (fun h => (Or.inl h)) (fun h => (Or.elim h (fun h => (Or.inr (Or.inl h))) (fun h => (Or.elim h (fun h => (Or.inr (Or.inr (Or.inl h)))) (fun h => (Or.elim h (fun h => (Or.inr (Or.inr (Or.inr (Or.inl h))))) (fun h => (Or.elim h (fun h => (Or.inr (Or.inr (Or.inr (Or.inr (Or.inl h)))))) (fun h => (Or.elim h (fun h => (Or.inr (Or.inr (Or.inr (Or.inr (Or.inr (Or.inl h))))))) (fun h => (Or.elim h (fun h => (Or.inr (Or.inr (Or.inr (Or.inr (Or.inr (Or.inr (Or.inl h)))))))) (fun h => (Or.inr (Or.inr (Or.inr (Or.inr (Or.inr (Or.inr (Or.inr h)))))))))))))))))))))⟩)) (fun h => (Or.elim h (fun h => (Or.inr (Or.inl h))) (fun h => (Or.elim h (fun h => (Or.inr (Or.inr (Or.inl h)))) (fun h => (Or.inr (Or.inr (Or.inr h)))))))))) hrc _ _ h_q1)
def W_MO_G : Nat → Int → Prop := fun k j => (k = 191 ∧ (j = 20 ∨ j = 21 ∨ j = 22 ∨ j = 23 ∨ j = 24 ∨ j = 25 ∨ j = 28 ∨ j = 29)) ∨ k = 193 ∨ k = 205 ∨ k = 206
theorem fr_MO_G {W : Nat → Int → Prop} {M0 : Mem} (hW : ∀ k j, W_MO_G k j → W k j) : ∀ (d i : Nat) (M : Mem), Fr W M0 M → Post (fun r => Fr W M0 r) (t_MO_G d i M) := by
  intro d
  induction d with
  | zero => intro i M h; exact post_none
  | succ d ih =>
    intro i M h
    rw [t_MO_G]
    refine post_ite (fun _ => ?_) (fun _ => ?_)
    · exact fr_MO_expression_B (fun k j hk => hW k j (Or.elim hk (fun h => (Or.inl ⟨(h).1, (Or.elim (h).2 (fun h => (Or.inl h)) (fun h => (Or.elim h (fun h => (Or.inr (Or.inl h))) (fun h => (Or.elim h (fun h => (Or.inr (Or.inr (Or.inl h)))) (fun h => (Or.elim h (fun h => (Or.inr (Or.inr (Or.inr (Or.inl h))))) (fun h => (Or.elim h (fun h => (Or.inr (Or.inr (Or.inr (Or.inr (Or.inl h)))))) (fun h => (Or.elim h (fun h => (Or.inr (Or.inr (Or.inr (Or.inr (Or.inr (Or.inl h))))))) (fun h => (Or.elim h (fun h => (Or.inr (Or.inr (Or.inr (Or.inr (Or.inr (Or.inr (Or.inl h)))))))) (fun h => (Or.inr (Or.inr (Or.inr (Or.inr (Or.inr (Or.inr (Or.inr h)))))))))))))))))))))⟩)) (fun h => (Or.elim h (fun h => (Or.inr (Or.inl h))) (fun h => (Or.elim h (fun h => (Or.inr (Or.inr (Or.inl h)))) (fun h => (Or.inr (Or.inr (Or.inr h)))))))))) (fun i_ M_ h9 => ih i_ M_ h9) h
    refine post_ite (fun _ => ?_) (fun _ => ?_)
    · exact fr_MO_conjunction_B (fun k j hk => hW k j (Or.elim hk (fun h => (Or.inl ⟨(h).1, (Or.elim (h).2 (fun h => (Or.inl h)) (fun h => (Or.elim h (fun h => (Or.inr (Or.inl h))) (fun h => (Or.elim h (fun h => (Or.inr (Or.inr (Or.inl h)))) (fun h => (Or.elim h (fun h => (Or.inr (Or.inr (Or.inr (Or.inl h))))) (fun h => (Or.elim h (fun h => (Or.inr (Or.inr (Or.inr (Or.inr (Or.inl h)))))) (fun h => (Or.elim h (fun h => (Or.inr (Or.inr (Or.inr (Or.inr (Or.inr (Or.inl h))))))) (fun h => (Or.elim h (fun h => (Or.inr (Or.inr (Or.inr (Or.inr (Or.inr (Or.inr (Or.inl h)))))))) (fun h => (Or.inr (Or.inr (Or.inr (Or.inr (Or.inr (Or.inr (Or.inr h)))))))))))))))))))))⟩)) (fun h => (Or.elim h (fun h => (Or.inr (Or.inl h))) (fun h => (Or.elim h (fun h => (Or.inr (Or.inr (Or.inl h)))) (fun h => (Or.inr (Or.inr (Or.inr h)))))))))) (fun i_ M_ h9 => ih i_ M_ h9) h
    refine post_ite (fun _ => ?_) (fun _ => ?_)
    · exact fr_MO_negation_B (fun k j hk => hW k j (Or.elim hk (fun h => (Or.inl ⟨(h).1, (Or.elim (h).2 (fun h => (Or.inl h)) (fun h => (Or.elim h (fun h => (Or.inr (Or.inl h))) (fun h => (Or.elim h (fun h => (Or.inr (Or.inr (Or.inl h)))) (fun h => (Or.elim h (fun h => (Or.inr (Or.inr (Or.inr (Or.inl h))))) (fun h => (Or.elim h (fun h => (Or.inr (Or.inr (Or.inr (Or.inr (Or.inl h)))))) (fun h => (Or.elim h (fun h => (Or.inr (Or.inr (Or.inr (Or.inr (Or.inr (Or.inl h))))))) (fun h => (Or.elim h (fun h => (Or.inr (Or.inr (Or.inr (Or.inr (Or.inr (Or.inr (Or.inl h)))))))) (fun h => (Or.inr (Or.inr (Or.inr (Or.inr (Or.inr (Or.inr (Or.inr h)))))))))))))))))))))⟩)) (fun h => (Or.elim h (fun h => (Or.inr (Or.inl h))) (fun h => (Or.elim h (fun h => (Or.inr (Or.inr (Or.inl h)))) (fun h => (Or.inr (Or.inr (Or.inr h)))))))))) (fun i_ M_ h9 => ih i_ M_ h9) h
    refine post_ite (fun _ => ?_) (fun _ => ?_)
    · exact fr_MO_sum_B (fun k j hk => hW k j (Or.elim hk (fun h => (Or.inl ⟨(h).1, (Or.elim (h).2 (fun h => (Or.inl h)) (fun h => (Or.elim h (fun h => (Or.inr (Or.inl h))) (fun h => (Or.elim h (fun h => (Or.inr (Or.inr (Or.inl h)))) (fun h => (Or.elim h (fun h => (Or.inr (Or.inr (Or.inr (Or.inl h))))) (fun h => (Or.elim h (fun h => (Or.inr (Or.inr (Or.inr (Or.inr (Or.inl h)))))) (fun h => (Or.elim h (fun h => (Or.inr (Or.inr (Or.inr (Or.inr (Or.inr (Or.inl h))))))) (fun h => (Or.elim h (fun h => (Or.inr (Or.inr (Or.inr (Or.inr (Or.inr (Or.inr (Or.inl h)))))))) (fun h => (Or.inr (Or.inr (Or.inr (Or.inr (Or.inr (Or.inr (Or.inr h)))))))))))))))))))))⟩)) (fun h => (Or.elim h (fun h => (Or.inr (Or.inl h))) (fun h => (Or.elim h (fun h => (Or.inr (Or.inr (Or.inl h)))) (fun h => (Or.inr (Or.inr (Or.inr h)))))))))) (fun i_ M_ h9 => ih i_ M_ h9) h
    refine post_ite (fun _ => ?_) (fun _ => ?_)
    · exact fr_MO_product_B (fun k j hk => hW k j (Or.elim hk (fun h => (Or.inl ⟨(h).1, (Or.elim (h).2 (fun h => (Or.inl h)) (fun h => (Or.elim h (fun h => (Or.inr (Or.inl h))) (fun h => (Or.elim h (fun h => (Or.inr (Or.inr (Or.inl h)))) (fun h => (Or.elim h (fun h => (Or.inr (Or.inr (Or.inr (Or.inl h))))) (fun h => (Or.elim h (fun h => (Or.inr (Or.inr (Or.inr (Or.inr (Or.inl h)))))) (fun h => (Or.elim h (fun h => (Or.inr (Or.inr (Or.inr (Or.inr (Or.inr (Or.inl h))))))) (fun h => (Or.elim h (fun h => (Or.inr (Or.inr (Or.inr (Or.inr (Or.inr (Or.inr (Or.inl h)))))))) (fun h => (Or.inr (Or.inr (Or.inr (Or.inr (Or.inr (Or.inr (Or.inr h)))))))))))))))))))))⟩)) (fun h => (Or.elim h (fun h => (Or.inr (Or.inl h))) (fun h => (Or.elim h (fun h => (Or.inr (Or.inr (Or.inl h)))) (fun h => (Or.inr (Or.inr (Or.inr h)))))))))) (fun i_ M_ h9 => ih i_ M_ h9) h
    refine post_ite (fun _ => ?_) (fun _ => ?_)
    · exact fr_MO_primary_B (fun k j hk => hW k j (Or.elim hk (fun h => (Or.inl ⟨(h).1, (Or.elim (h).2 (fun h => (Or.inl h)) (fun h => (Or.elim h (fun h => (Or.inr (Or.inl h))) (fun h => (Or.elim h (fun h => (Or.inr (Or.inr (Or.inl h)))) (fun h => (Or.elim h (fun h => (Or.inr (Or.inr (Or.inr (Or.inl h))))) (fun h => (Or.elim h (fun h => (Or.inr (Or.inr (Or.inr (Or.inr (Or.inl h)))))) (fun h => (Or.elim h (fun h => (Or.inr (Or.inr (Or.inr (Or.inr (Or.inr (Or.inl h))))))) (fun h => (Or.elim h (fun h => (Or.inr (Or.inr (Or.inr (Or.inr (Or.inr (Or.inr (Or.inl h)))))))) (fun h => (Or.inr (Or.inr (Or.inr (Or.inr (Or.inr (Or.inr (Or.inr h)))))))))))))))))))))⟩)) (fun h => (Or.elim h (fun h => (Or.inr (Or.inl h))) (fun h => (Or.elim h (fun h => (Or.inr (Or.inr (Or.inl h)))) (fun h => (Or.inr (Or.inr (Or.inr h)))))))))) (fun i_ M_ h9 => ih i_ M_ h9) h
    exact post_none
abbrev W_MO_expression : Nat → Int → Prop := W_MO_G
theorem fr_MO_expression {W : Nat → Int → Prop} {M0 : Mem} (hW : ∀ k j, W_MO_expression k j → W k j) {M : Mem} (h : Fr W M0 M) : Post (fun r => Fr W M0 r) (t_MO_expression M) := fr_MO_G hW _ _ _ h
abbrev W_MO_conjunction : Nat → Int → Prop := W_MO_G
theorem fr_MO_conjunction {W : Nat → Int → Prop} {M0 : Mem} (hW : ∀ k j, W_MO_conjunction k j → W k j) {M : Mem} (h : Fr W M0 M) : Post (fun r => Fr W M0 r) (t_MO_conjunction M) := fr_MO_G hW _ _ _ h
abbrev W_MO_negation : Nat → Int → Prop := W_MO_G
theorem fr_MO_negation {W : Nat → Int → Prop} {M0 : Mem} (hW : ∀ k j, W_MO_negation k j → W k j) {M : Mem} (h : Fr W M0 M) : Post (fun r => Fr W M0 r) (t_MO_negation M) := fr_MO_G hW _ _ _ h
abbrev W_MO_sum : Nat → Int → Prop := W_MO_G
theorem fr_MO_sum {W : Nat → Int → Prop} {M0 : Mem} (hW : ∀ k j, W_MO_sum k j → W k j) {M : Mem} (h : Fr W M0 M) : Post (fun r => Fr W M0 r) (t_MO_sum M) := fr_MO_G hW _ _ _ h
abbrev W_MO_product : Nat → Int → Prop := W_MO_G
theorem fr_MO_product {W : Nat → Int → Prop} {M0 : Mem} (hW : ∀ k j, W_MO_product k j → W k j) {M : Mem} (h : Fr W M0 M) : Post (fun r => Fr W M0 r) (t_MO_product M) := fr_MO_G hW _ _ _ h
abbrev W_MO_primary : Nat → Int → Prop := W_MO_G
theorem fr_MO_primary {W : Nat → Int → Prop} {M0 : Mem} (hW : ∀ k j, W_MO_primary k j → W k j) {M : Mem} (h : Fr W M0 M) : Post (fun r => Fr W M0 r) (t_MO_primary M) := fr_MO_G hW _ _ _ h
def W_MO_lawLine_L61 : Nat → Int → Prop := fun k j => (k = 191 ∧ (j = 17 ∨ j = 20 ∨ j = 21 ∨ j = 22 ∨ j = 23 ∨ j = 24 ∨ j = 25 ∨ j = 28 ∨ j = 29)) ∨ k = 193 ∨ k = 203 ∨ k = 204 ∨ k = 205 ∨ k = 206
theorem fr_MO_lawLine_L61 {v1_ : Int} {W : Nat → Int → Prop} {M0 : Mem} (hW : ∀ k j, (W_MO_lawLine_L61) k j → W k j)  {M : Mem} (h : Fr W M0 M) : Post (fun r => Fr W M0 r) (t_MO_lawLine_L61 M v1_) := by
  unfold t_MO_lawLine_L61
  refine post_ite (fun c_1 => ?_) (fun c_1 => ?_)
  · refine post_let (fun M20 e_M20 => ?_)
    have h_M20 : Fr W M0 M20 := by rw [e_M20]; exact Fr.setI h (hW _ _ (Or.inl ⟨rfl, (Or.inl rfl)⟩))
    refine post_bind (Q := fun r => Fr W M0 r) (fr_MO_token (fun k j hk => hW k j (Or.inl ⟨(hk).1, (Or.elim (hk).2 (fun h => (Or.inr (Or.inl h))) (fun h => (Or.elim h (fun h => (Or.inr (Or.inr (Or.inl h)))) (fun h => (Or.elim h (fun h => (Or.inr (Or.inr (Or.inr (Or.inl h))))) (fun h => (Or.inr (Or.inr (Or.inr (Or.inr (Or.inl h)))))))))))⟩))  h_M20) (fun q21 h_q21 => ?_)
    refine post_bindv (fun q23 => ?_)
    refine post_guard (fun c_2 => ?_)
    refine post_let (fun M26 e_M26 => ?_)
    have h_M26 : Fr W M0 M26 := by rw [e_M26]; exact Fr.setI h_q21 (hW _ _ (Or.inr (Or.inr (Or.inl rfl))))
    refine post_bind (Q := fun r => Fr W M0 r) (fr_MO_expression (fun k j hk => hW k j (by unfold W_MO_expression W_MO_G at hk; unfold W_MO_lawLine_L61; omega))  h_M26) (fun q27 h_q27 => ?_)
    refine post_bindv (fun q29 => ?_)
    refine post_guard (fun c_3 => ?_)
    refine post_let (fun M32 e_M32 => ?_)
    have h_M32 : Fr W M0 M32 := by rw [e_M32]; exact Fr.setI h_q27 (hW _ _ (Or.inr (Or.inr (Or.inr (Or.inl rfl)))))
    exact post_some h_M32
  · exact post_some h
def W_MO_lawLine_L30 : Nat → Int → Prop := fun k j => (k = 191 ∧ (j = 17 ∨ j = 20 ∨ j = 21 ∨ j = 22 ∨ j = 23 ∨ j = 24 ∨ j = 25 ∨ j = 28 ∨ j = 29)) ∨ k = 193 ∨ k = 203 ∨ k = 204 ∨ k = 205 ∨ k = 206
theorem fr_MO_lawLine_L30  {W : Nat → Int → Prop} {M0 : Mem} (hW : ∀ k j, (W_MO_lawLine_L30) k j → W k j)  {M : Mem} (h : Fr W M0 M) : Post (fun r => Fr W M0 r) (t_MO_lawLine_L30 M) := by
  unfold t_MO_lawLine_L30
  refine post_ite (fun c_1 => ?_) (fun c_1 => ?_)
  · refine post_let (fun q12 _ => ?_)
    refine post_ite (fun c_2 => ?_) (fun c_2 => ?_)
    · exact (fr_MO_lawLine_L61 (fun k j hk => hW k j (Or.elim hk (fun h => (Or.inl ⟨(h).1, (Or.elim (h).2 (fun h => (Or.inl h)) (fun h => (Or.elim h (fun h => (Or.inr (Or.inl h))) (fun h => (Or.elim h (fun h => (Or.inr (Or.inr (Or.inl h)))) (fun h => (Or.elim h (fun h => (Or.inr (Or.inr (Or.inr (Or.inl h))))) (fun h => (Or.elim h (fun h => (Or.inr (Or.inr (Or.inr (Or.inr (Or.inl h)))))) (fun h => (Or.elim h (fun h => (Or.inr (Or.inr (Or.inr (Or.inr (Or.inr (Or.inl h))))))) (fun h => (Or.elim h (fun h => (Or.inr (Or.inr (Or.inr (Or.inr (Or.inr (Or.inr (Or.inl h)))))))) (fun h => (Or.elim h (fun h => (Or.inr (Or.inr (Or.inr (Or.inr (Or.inr (Or.inr (Or.inr (Or.inl h))))))))) (fun h => (Or.inr (Or.inr (Or.inr (Or.inr (Or.inr (Or.inr (Or.inr (Or.inr h))))))))))))))))))))))))⟩)) (fun h => (Or.elim h (fun h => (Or.inr (Or.inl h))) (fun h => (Or.elim h (fun h => (Or.inr (Or.inr (Or.inl h)))) (fun h => (Or.elim h (fun h => (Or.inr (Or.inr (Or.inr (Or.inl h))))) (fun h => (Or.elim h (fun h => (Or.inr (Or.inr (Or.inr (Or.inr (Or.inl h)))))) (fun h => (Or.inr (Or.inr (Or.inr (Or.inr (Or.inr h))))))))))))))))  h)
    · refine post_let (fun q15 e_q15 => ?_)
      have h_q15 : Fr W M0 q15 := by rw [e_q15]; exact (fr_MO_wrong (fun k j hk => hW k j (Or.inl ⟨(hk).1, (Or.elim (hk).2 (fun h => (Or.inr (Or.inr (Or.inr (Or.inr (Or.inr (Or.inl h))))))) (fun h => (Or.inr (Or.inr (Or.inr (Or.inr (Or.inr (Or.inr (Or.inl h)))))))))⟩))  h)
      exact (fr_MO_lawLine_L61 (fun k j hk => hW k j (Or.elim hk (fun h => (Or.inl ⟨(h).1, (Or.elim (h).2 (fun h => (Or.inl h)) (fun h => (Or.elim h (fun h => (Or.inr (Or.inl h))) (fun h => (Or.elim h (fun h => (Or.inr (Or.inr (Or.inl h)))) (fun h => (Or.elim h (fun h => (Or.inr (Or.inr (Or.inr (Or.inl h))))) (fun h => (Or.elim h (fun h => (Or.inr (Or.inr (Or.inr (Or.inr (Or.inl h)))))) (fun h => (Or.elim h (fun h => (Or.inr (Or.inr (Or.inr (Or.inr (Or.inr (Or.inl h))))))) (fun h => (Or.elim h (fun h => (Or.inr (Or.inr (Or.inr (Or.inr (Or.inr (Or.inr (Or.inl h)))))))) (fun h => (Or.elim h (fun h => (Or.inr (Or.inr (Or.inr (Or.inr (Or.inr (Or.inr (Or.inr (Or.inl h))))))))) (fun h => (Or.inr (Or.inr (Or.inr (Or.inr (Or.inr (Or.inr (Or.inr (Or.inr h))))))))))))))))))))))))⟩)) (fun h => (Or.elim h (fun h => (Or.inr (Or.inl h))) (fun h => (Or.elim h (fun h => (Or.inr (Or.inr (Or.inl h)))) (fun h => (Or.elim h (fun h => (Or.inr (Or.inr (Or.inr (Or.inl h))))) (fun h => (Or.elim h (fun h => (Or.inr (Or.inr (Or.inr (Or.inr (Or.inl h)))))) (fun h => (Or.inr (Or.inr (Or.inr (Or.inr (Or.inr h))))))))))))))))  h_q15)
  · exact (fr_MO_lawLine_L61 (fun k j hk => hW k j (Or.elim hk (fun h => (Or.inl ⟨(h).1, (Or.elim (h).2 (fun h => (Or.inl h)) (fun h => (Or.elim h (fun h => (Or.inr (Or.inl h))) (fun h => (Or.elim h (fun h => (Or.inr (Or.inr (Or.inl h)))) (fun h => (Or.elim h (fun h => (Or.inr (Or.inr (Or.inr (Or.inl h))))) (fun h => (Or.elim h (fun h => (Or.inr (Or.inr (Or.inr (Or.inr (Or.inl h)))))) (fun h => (Or.elim h (fun h => (Or.inr (Or.inr (Or.inr (Or.inr (Or.inr (Or.inl h))))))) (fun h => (Or.elim h (fun h => (Or.inr (Or.inr (Or.inr (Or.inr (Or.inr (Or.inr (Or.inl h)))))))) (fun h => (Or.elim h (fun h => (Or.inr (Or.inr (Or.inr (Or.inr (Or.inr (Or.inr (Or.inr (Or.inl h))))))))) (fun h => (Or.inr (Or.inr (Or.inr (Or.inr (Or.inr (Or.inr (Or.inr (Or.inr h))))))))))))))))))))))))⟩)) (fun h => (Or.elim h (fun h => (Or.inr (Or.inl h))) (fun h => (Or.elim h (fun h => (Or.inr (Or.inr (Or.inl h)))) (fun h => (Or.elim h (fun h => (Or.inr (Or.inr (Or.inr (Or.inl h))))) (fun h => (Or.elim h (fun h => (Or.inr (Or.inr (Or.inr (Or.inr (Or.inl h)))))) (fun h => (Or.inr (Or.inr (Or.inr (Or.inr (Or.inr h))))))))))))))))  h)
def W_MO_lawLine_L25 : Nat → Int → Prop := fun k j => (k = 191 ∧ (j = 17 ∨ j = 20 ∨ j = 21 ∨ j = 22 ∨ j = 23 ∨ j = 24 ∨ j = 25 ∨ j = 28 ∨ j = 29)) ∨ k = 193 ∨ k = 203 ∨ k = 204 ∨ k = 205 ∨ k = 206
theorem fr_MO_lawLine_L25  {W : Nat → Int → Prop} {M0 : Mem} (hW : ∀ k j, (W_MO_lawLine_L25) k j → W k j)  {M : Mem} (h : Fr W M0 M) : Post (fun r => Fr W M0 r) (t_MO_lawLine_L25 M) := by
  unfold t_MO_lawLine_L25
  refine post_let (fun q7 e_q7 => ?_)
  have h_q7 : Fr W M0 q7 := by rw [e_q7]; exact (fr_MO_wrong (fun k j hk => hW k j (Or.inl ⟨(hk).1, (Or.elim (hk).2 (fun h => (Or.inr (Or.inr (Or.inr (Or.inr (Or.inr (Or.inl h))))))) (fun h => (Or.inr (Or.inr (Or.inr (Or.inr (Or.inr (Or.inr (Or.inl h)))))))))⟩))  h)
  exact (fr_MO_lawLine_L30 (fun k j hk => hW k j (Or.elim hk (fun h => (Or.inl ⟨(h).1, (Or.elim (h).2 (fun h => (Or.inl h)) (fun h => (Or.elim h (fun h => (Or.inr (Or.inl h))) (fun h => (Or.elim h (fun h => (Or.inr (Or.inr (Or.inl h)))) (fun h => (Or.elim h (fun h => (Or.inr (Or.inr (Or.inr (Or.inl h))))) (fun h => (Or.elim h (fun h => (Or.inr (Or.inr (Or.inr (Or.inr (Or.inl h)))))) (fun h => (Or.elim h (fun h => (Or.inr (Or.inr (Or.inr (Or.inr (Or.inr (Or.inl h))))))) (fun h => (Or.elim h (fun h => (Or.inr (Or.inr (Or.inr (Or.inr (Or.inr (Or.inr (Or.inl h)))))))) (fun h => (Or.elim h (fun h => (Or.inr (Or.inr (Or.inr (Or.inr (Or.inr (Or.inr (Or.inr (Or.inl h))))))))) (fun h => (Or.inr (Or.inr (Or.inr (Or.inr (Or.inr (Or.inr (Or.inr (Or.inr h))))))))))))))))))))))))⟩)) (fun h => (Or.elim h (fun h => (Or.inr (Or.inl h))) (fun h => (Or.elim h (fun h => (Or.inr (Or.inr (Or.inl h)))) (fun h => (Or.elim h (fun h => (Or.inr (Or.inr (Or.inr (Or.inl h))))) (fun h => (Or.elim h (fun h => (Or.inr (Or.inr (Or.inr (Or.inr (Or.inl h)))))) (fun h => (Or.inr (Or.inr (Or.inr (Or.inr (Or.inr h))))))))))))))))  h_q7)
def W_MO_lawLine : Nat → Int → Prop := fun k j => (k = 191 ∧ (j = 17 ∨ j = 20 ∨ j = 21 ∨ j = 22 ∨ j = 23 ∨ j = 24 ∨ j = 25 ∨ j = 28 ∨ j = 29)) ∨ k = 193 ∨ k = 203 ∨ k = 204 ∨ k = 205 ∨ k = 206
theorem fr_MO_lawLine  {W : Nat → Int → Prop} {M0 : Mem} (hW : ∀ k j, (W_MO_lawLine) k j → W k j)  {M : Mem} (h : Fr W M0 M) : Post (fun r => Fr W M0 r) (t_MO_lawLine M) := by
  unfold t_MO_lawLine
  refine post_ite (fun c_1 => ?_) (fun c_1 => ?_)
  · refine post_ite (fun c_2 => ?_) (fun c_2 => ?_)
    · exact (fr_MO_lawLine_L30 (fun k j hk => hW k j (Or.elim hk (fun h => (Or.inl ⟨(h).1, (Or.elim (h).2 (fun h => (Or.inl h)) (fun h => (Or.elim h (fun h => (Or.inr (Or.inl h))) (fun h => (Or.elim h (fun h => (Or.inr (Or.inr (Or.inl h)))) (fun h => (Or.elim h (fun h => (Or.inr (Or.inr (Or.inr (Or.inl h))))) (fun h => (Or.elim h (fun h => (Or.inr (Or.inr (Or.inr (Or.inr (Or.inl h)))))) (fun h => (Or.elim h (fun h => (Or.inr (Or.inr (Or.inr (Or.inr (Or.inr (Or.inl h))))))) (fun h => (Or.elim h (fun h => (Or.inr (Or.inr (Or.inr (Or.inr (Or.inr (Or.inr (Or.inl h)))))))) (fun h => (Or.elim h (fun h => (Or.inr (Or.inr (Or.inr (Or.inr (Or.inr (Or.inr (Or.inr (Or.inl h))))))))) (fun h => (Or.inr (Or.inr (Or.inr (Or.inr (Or.inr (Or.inr (Or.inr (Or.inr h))))))))))))))))))))))))⟩)) (fun h => (Or.elim h (fun h => (Or.inr (Or.inl h))) (fun h => (Or.elim h (fun h => (Or.inr (Or.inr (Or.inl h)))) (fun h => (Or.elim h (fun h => (Or.inr (Or.inr (Or.inr (Or.inl h))))) (fun h => (Or.elim h (fun h => (Or.inr (Or.inr (Or.inr (Or.inr (Or.inl h)))))) (fun h => (Or.inr (Or.inr (Or.inr (Or.inr (Or.inr h))))))))))))))))  h)
    · refine post_ite (fun c_3 => ?_) (fun c_3 => ?_)
      · exact (fr_MO_lawLine_L30 (fun k j hk => hW k j (Or.elim hk (fun h => (Or.inl ⟨(h).1, (Or.elim (h).2 (fun h => (Or.inl h)) (fun h => (Or.elim h (fun h => (Or.inr (Or.inl h))) (fun h => (Or.elim h (fun h => (Or.inr (Or.inr (Or.inl h)))) (fun h => (Or.elim h (fun h => (Or.inr (Or.inr (Or.inr (Or.inl h))))) (fun h => (Or.elim h (fun h => (Or.inr (Or.inr (Or.inr (Or.inr (Or.inl h)))))) (fun h => (Or.elim h (fun h => (Or.inr (Or.inr (Or.inr (Or.inr (Or.inr (Or.inl h))))))) (fun h => (Or.elim h (fun h => (Or.inr (Or.inr (Or.inr (Or.inr (Or.inr (Or.inr (Or.inl h)))))))) (fun h => (Or.elim h (fun h => (Or.inr (Or.inr (Or.inr (Or.inr (Or.inr (Or.inr (Or.inr (Or.inl h))))))))) (fun h => (Or.inr (Or.inr (Or.inr (Or.inr (Or.inr (Or.inr (Or.inr (Or.inr h))))))))))))))))))))))))⟩)) (fun h => (Or.elim h (fun h => (Or.inr (Or.inl h))) (fun h => (Or.elim h (fun h => (Or.inr (Or.inr (Or.inl h)))) (fun h => (Or.elim h (fun h => (Or.inr (Or.inr (Or.inr (Or.inl h))))) (fun h => (Or.elim h (fun h => (Or.inr (Or.inr (Or.inr (Or.inr (Or.inl h)))))) (fun h => (Or.inr (Or.inr (Or.inr (Or.inr (Or.inr h))))))))))))))))  h)
      · exact (fr_MO_lawLine_L25 (fun k j hk => hW k j (Or.elim hk (fun h => (Or.inl ⟨(h).1, (Or.elim (h).2 (fun h => (Or.inl h)) (fun h => (Or.elim h (fun h => (Or.inr (Or.inl h))) (fun h => (Or.elim h (fun h => (Or.inr (Or.inr (Or.inl h)))) (fun h => (Or.elim h (fun h => (Or.inr (Or.inr (Or.inr (Or.inl h))))) (fun h => (Or.elim h (fun h => (Or.inr (Or.inr (Or.inr (Or.inr (Or.inl h)))))) (fun h => (Or.elim h (fun h => (Or.inr (Or.inr (Or.inr (Or.inr (Or.inr (Or.inl h))))))) (fun h => (Or.elim h (fun h => (Or.inr (Or.inr (Or.inr (Or.inr (Or.inr (Or.inr (Or.inl h)))))))) (fun h => (Or.elim h (fun h => (Or.inr (Or.inr (Or.inr (Or.inr (Or.inr (Or.inr (Or.inr (Or.inl h))))))))) (fun h => (Or.inr (Or.inr (Or.inr (Or.inr (Or.inr (Or.inr (Or.inr (Or.inr h))))))))))))))))))))))))⟩)) (fun h => (Or.elim h (fun h => (Or.inr (Or.inl h))) (fun h => (Or.elim h (fun h => (Or.inr (Or.inr (Or.inl h)))) (fun h => (Or.elim h (fun h => (Or.inr (Or.inr (Or.inr (Or.inl h))))) (fun h => (Or.elim h (fun h => (Or.inr (Or.inr (Or.inr (Or.inr (Or.inl h)))))) (fun h => (Or.inr (Or.inr (Or.inr (Or.inr (Or.inr h))))))))))))))))  h)
  · exact (fr_MO_lawLine_L25 (fun k j hk => hW k j (Or.elim hk (fun h => (Or.inl ⟨(h).1, (Or.elim (h).2 (fun h => (Or.inl h)) (fun h => (Or.elim h (fun h => (Or.inr (Or.inl h))) (fun h => (Or.elim h (fun h => (Or.inr (Or.inr (Or.inl h)))) (fun h => (Or.elim h (fun h => (Or.inr (Or.inr (Or.inr (Or.inl h))))) (fun h => (Or.elim h (fun h => (Or.inr (Or.inr (Or.inr (Or.inr (Or.inl h)))))) (fun h => (Or.elim h (fun h => (Or.inr (Or.inr (Or.inr (Or.inr (Or.inr (Or.inl h))))))) (fun h => (Or.elim h (fun h => (Or.inr (Or.inr (Or.inr (Or.inr (Or.inr (Or.inr (Or.inl h)))))))) (fun h => (Or.elim h (fun h => (Or.inr (Or.inr (Or.inr (Or.inr (Or.inr (Or.inr (Or.inr (Or.inl h))))))))) (fun h => (Or.inr (Or.inr (Or.inr (Or.inr (Or.inr (Or.inr (Or.inr (Or.inr h))))))))))))))))))))))))⟩)) (fun h => (Or.elim h (fun h => (Or.inr (Or.inl h))) (fun h => (Or.elim h (fun h => (Or.inr (Or.inr (Or.inl h)))) (fun h => (Or.elim h (fun h => (Or.inr (Or.inr (Or.inr (Or.inl h))))) (fun h => (Or.elim h (fun h => (Or.inr (Or.inr (Or.inr (Or.inr (Or.inl h)))))) (fun h => (Or.inr (Or.inr (Or.inr (Or.inr (Or.inr h))))))))))))))))  h)
def W_MO_line_L16 : Nat → Int → Prop := fun k j => (k = 191 ∧ (j = 24 ∨ j = 25))
theorem fr_MO_line_L16  {W : Nat → Int → Prop} {M0 : Mem} (hW : ∀ k j, (W_MO_line_L16) k j → W k j)  {M : Mem} (h : Fr W M0 M) : Post (fun r => Fr W M0 r) (t_MO_line_L16 M) := by
  unfold t_MO_line_L16
  refine post_let (fun q13 e_q13 => ?_)
  have h_q13 : Fr W M0 q13 := by rw [e_q13]; exact (fr_MO_wrong (fun k j hk => hW k j ⟨(hk).1, (Or.elim (hk).2 (fun h => (Or.inl h)) (fun h => (Or.inr h)))⟩)  h)
  exact post_some h_q13
def W_MO_line_L303 : Nat → Int → Prop := fun k j => (k = 191 ∧ (j = 18))
theorem fr_MO_line_L303  {W : Nat → Int → Prop} {M0 : Mem} (hW : ∀ k j, (W_MO_line_L303) k j → W k j)  {M : Mem} (h : Fr W M0 M) : Post (fun r => Fr W M0 r) (t_MO_line_L303 M) := by
  unfold t_MO_line_L303
  refine post_let (fun M86 e_M86 => ?_)
  have h_M86 : Fr W M0 M86 := by rw [e_M86]; exact Fr.setI h (hW _ _ ⟨rfl, rfl⟩)
  exact post_some h_M86
def W_MO_line_L274 : Nat → Int → Prop := fun k j => (k = 191 ∧ (j = 18 ∨ j = 20 ∨ j = 21 ∨ j = 22 ∨ j = 23 ∨ j = 24 ∨ j = 25))
theorem fr_MO_line_L274  {W : Nat → Int → Prop} {M0 : Mem} (hW : ∀ k j, (W_MO_line_L274) k j → W k j)  {M : Mem} (h : Fr W M0 M) : Post (fun r => Fr W M0 r) (t_MO_line_L274 M) := by
  unfold t_MO_line_L274
  refine post_ite (fun c_1 => ?_) (fun c_1 => ?_)
  · refine post_let (fun q78 _ => ?_)
    refine post_ite (fun c_2 => ?_) (fun c_2 => ?_)
    · refine post_let (fun q83 e_q83 => ?_)
      have h_q83 : Fr W M0 q83 := by rw [e_q83]; exact (fr_MO_wrong (fun k j hk => hW k j ⟨(hk).1, (Or.elim (hk).2 (fun h => (Or.inr (Or.inr (Or.inr (Or.inr (Or.inr (Or.inl h))))))) (fun h => (Or.inr (Or.inr (Or.inr (Or.inr (Or.inr (Or.inr h))))))))⟩)  h)
      exact (fr_MO_line_L303 (fun k j hk => hW k j ⟨(hk).1, (Or.inl (hk).2)⟩)  h_q83)
    · refine post_bind (Q := fun r => Fr W M0 r) (fr_MO_token (fun k j hk => hW k j ⟨(hk).1, (Or.elim (hk).2 (fun h => (Or.inr (Or.inl h))) (fun h => (Or.elim h (fun h => (Or.inr (Or.inr (Or.inl h)))) (fun h => (Or.elim h (fun h => (Or.inr (Or.inr (Or.inr (Or.inl h))))) (fun h => (Or.inr (Or.inr (Or.inr (Or.inr (Or.inl h)))))))))))⟩)  h) (fun q81 h_q81 => ?_)
      exact (fr_MO_line_L303 (fun k j hk => hW k j ⟨(hk).1, (Or.inl (hk).2)⟩)  h_q81)
  · exact post_some h
def W_MO_line_L110 : Nat → Int → Prop := fun k j => (k = 191 ∧ (j = 17 ∨ j = 18 ∨ j = 20 ∨ j = 21 ∨ j = 22 ∨ j = 23 ∨ j = 24 ∨ j = 25 ∨ j = 28 ∨ j = 29)) ∨ k = 193 ∨ k = 194 ∨ k = 195 ∨ k = 196 ∨ k = 197 ∨ k = 198 ∨ k = 199 ∨ k = 200 ∨ k = 201 ∨ k = 202 ∨ k = 203 ∨ k = 204 ∨ k = 205 ∨ k = 206
theorem fr_MO_line_L110 {v1_ : Int} {W : Nat → Int → Prop} {M0 : Mem} (hW : ∀ k j, (W_MO_line_L110) k j → W k j)  {M : Mem} (h : Fr W M0 M) : Post (fun r => Fr W M0 r) (t_MO_line_L110 M v1_) := by
  unfold t_MO_line_L110
  refine post_ite (fun c_1 => ?_) (fun c_1 => ?_)
  · refine post_let (fun M36 e_M36 => ?_)
    have h_M36 : Fr W M0 M36 := by rw [e_M36]; exact Fr.setI h (hW _ _ (Or.inl ⟨rfl, (Or.inl rfl)⟩))
    refine post_bind (Q := fun r => Fr W M0 r) (fr_MO_token (fun k j hk => hW k j (Or.inl ⟨(hk).1, (Or.elim (hk).2 (fun h => (Or.inr (Or.inr (Or.inl h)))) (fun h => (Or.elim h (fun h => (Or.inr (Or.inr (Or.inr (Or.inl h))))) (fun h => (Or.elim h (fun h => (Or.inr (Or.inr (Or.inr (Or.inr (Or.inl h)))))) (fun h => (Or.inr (Or.inr (Or.inr (Or.inr (Or.inr (Or.inl h))))))))))))⟩))  h_M36) (fun q37 h_q37 => ?_)
    refine post_ite (fun c_2 => ?_) (fun c_2 => ?_)
    · refine post_bind (Q := fun r => Fr W M0 r.1) (fr_MO_numeral (fun k j hk => hW k j (Or.inl ⟨(hk).1, (Or.elim (hk).2 (fun h => (Or.inr (Or.inr (Or.inl h)))) (fun h => (Or.elim h (fun h => (Or.inr (Or.inr (Or.inr (Or.inl h))))) (fun h => (Or.elim h (fun h => (Or.inr (Or.inr (Or.inr (Or.inr (Or.inl h)))))) (fun h => (Or.elim h (fun h => (Or.inr (Or.inr (Or.inr (Or.inr (Or.inr (Or.inl h))))))) (fun h => (Or.elim h (fun h => (Or.inr (Or.inr (Or.inr (Or.inr (Or.inr (Or.inr (Or.inl h)))))))) (fun h => (Or.inr (Or.inr (Or.inr (Or.inr (Or.inr (Or.inr (Or.inr (Or.inl h))))))))))))))))))⟩))  h_q37) (fun q40 h_q40 => ?_)
      refine post_bind (Q := fun r => Fr W M0 r) (fr_MO_reads (fun k j hk => hW k j (Or.inr (Or.inl hk)))  h_q40) (fun q42 h_q42 => ?_)
      refine post_bind (Q := fun r => Fr W M0 r.1) (fr_MO_numeral (fun k j hk => hW k j (Or.inl ⟨(hk).1, (Or.elim (hk).2 (fun h => (Or.inr (Or.inr (Or.inl h)))) (fun h => (Or.elim h (fun h => (Or.inr (Or.inr (Or.inr (Or.inl h))))) (fun h => (Or.elim h (fun h => (Or.inr (Or.inr (Or.inr (Or.inr (Or.inl h)))))) (fun h => (Or.elim h (fun h => (Or.inr (Or.inr (Or.inr (Or.inr (Or.inr (Or.inl h))))))) (fun h => (Or.elim h (fun h => (Or.inr (Or.inr (Or.inr (Or.inr (Or.inr (Or.inr (Or.inl h)))))))) (fun h => (Or.inr (Or.inr (Or.inr (Or.inr (Or.inr (Or.inr (Or.inr (Or.inl h))))))))))))))))))⟩))  h_q42) (fun q44 h_q44 => ?_)
      refine post_bind (Q := fun r => Fr W M0 r) (fr_MO_reads (fun k j hk => hW k j (Or.inr (Or.inl hk)))  h_q44) (fun q46 h_q46 => ?_)
      exact (fr_MO_line_L274 (fun k j hk => hW k j (Or.inl ⟨(hk).1, (Or.elim (hk).2 (fun h => (Or.inr (Or.inl h))) (fun h => (Or.elim h (fun h => (Or.inr (Or.inr (Or.inl h)))) (fun h => (Or.elim h (fun h => (Or.inr (Or.inr (Or.inr (Or.inl h))))) (fun h => (Or.elim h (fun h => (Or.inr (Or.inr (Or.inr (Or.inr (Or.inl h)))))) (fun h => (Or.elim h (fun h => (Or.inr (Or.inr (Or.inr (Or.inr (Or.inr (Or.inl h))))))) (fun h => (Or.elim h (fun h => (Or.inr (Or.inr (Or.inr (Or.inr (Or.inr (Or.inr (Or.inl h)))))))) (fun h => (Or.inr (Or.inr (Or.inr (Or.inr (Or.inr (Or.inr (Or.inr (Or.inl h))))))))))))))))))))⟩))  h_q46)
    · refine post_ite (fun c_3 => ?_) (fun c_3 => ?_)
      · refine post_bindv (fun q49 => ?_)
        refine post_bind (Q := fun r => Fr W M0 r) (fr_MO_wardLine (fun k j hk => hW k j (Or.elim hk (fun h => (Or.inl ⟨(h).1, (Or.elim (h).2 (fun h => (Or.inr (Or.inr (Or.inl h)))) (fun h => (Or.elim h (fun h => (Or.inr (Or.inr (Or.inr (Or.inl h))))) (fun h => (Or.elim h (fun h => (Or.inr (Or.inr (Or.inr (Or.inr (Or.inl h)))))) (fun h => (Or.elim h (fun h => (Or.inr (Or.inr (Or.inr (Or.inr (Or.inr (Or.inl h))))))) (fun h => (Or.elim h (fun h => (Or.inr (Or.inr (Or.inr (Or.inr (Or.inr (Or.inr (Or.inl h)))))))) (fun h => (Or.inr (Or.inr (Or.inr (Or.inr (Or.inr (Or.inr (Or.inr (Or.inl h))))))))))))))))))⟩)) (fun h => (Or.elim h (fun h => (Or.inr (Or.inl h))) (fun h => (Or.elim h (fun h => (Or.inr (Or.inr (Or.inl h)))) (fun h => (Or.elim h (fun h => (Or.inr (Or.inr (Or.inr (Or.inl h))))) (fun h => (Or.inr (Or.inr (Or.inr (Or.inr (Or.inl h))))))))))))))  h_q37) (fun q51 h_q51 => ?_)
        exact (fr_MO_line_L274 (fun k j hk => hW k j (Or.inl ⟨(hk).1, (Or.elim (hk).2 (fun h => (Or.inr (Or.inl h))) (fun h => (Or.elim h (fun h => (Or.inr (Or.inr (Or.inl h)))) (fun h => (Or.elim h (fun h => (Or.inr (Or.inr (Or.inr (Or.inl h))))) (fun h => (Or.elim h (fun h => (Or.inr (Or.inr (Or.inr (Or.inr (Or.inl h)))))) (fun h => (Or.elim h (fun h => (Or.inr (Or.inr (Or.inr (Or.inr (Or.inr (Or.inl h))))))) (fun h => (Or.elim h (fun h => (Or.inr (Or.inr (Or.inr (Or.inr (Or.inr (Or.inr (Or.inl h)))))))) (fun h => (Or.inr (Or.inr (Or.inr (Or.inr (Or.inr (Or.inr (Or.inr (Or.inl h))))))))))))))))))))⟩))  h_q51)
      · refine post_ite (fun c_4 => ?_) (fun c_4 => ?_)
        · refine post_bind (Q := fun r => Fr W M0 r) (fr_MO_partLine (fun k j hk => hW k j (Or.elim hk (fun h => (Or.inl ⟨(h).1, (Or.elim (h).2 (fun h => (Or.inr (Or.inr (Or.inl h)))) (fun h => (Or.elim h (fun h => (Or.inr (Or.inr (Or.inr (Or.inl h))))) (fun h => (Or.elim h (fun h => (Or.inr (Or.inr (Or.inr (Or.inr (Or.inl h)))))) (fun h => (Or.elim h (fun h => (Or.inr (Or.inr (Or.inr (Or.inr (Or.inr (Or.inl h))))))) (fun h => (Or.elim h (fun h => (Or.inr (Or.inr (Or.inr (Or.inr (Or.inr (Or.inr (Or.inl h)))))))) (fun h => (Or.inr (Or.inr (Or.inr (Or.inr (Or.inr (Or.inr (Or.inr (Or.inl h))))))))))))))))))⟩)) (fun h => (Or.elim h (fun h => (Or.inr (Or.inl h))) (fun h => (Or.inr (Or.inr (Or.inr (Or.inr (Or.inr (Or.inl h)))))))))))  h_q37) (fun q54 h_q54 => ?_)
          exact (fr_MO_line_L274 (fun k j hk => hW k j (Or.inl ⟨(hk).1, (Or.elim (hk).2 (fun h => (Or.inr (Or.inl h))) (fun h => (Or.elim h (fun h => (Or.inr (Or.inr (Or.inl h)))) (fun h => (Or.elim h (fun h => (Or.inr (Or.inr (Or.inr (Or.inl h))))) (fun h => (Or.elim h (fun h => (Or.inr (Or.inr (Or.inr (Or.inr (Or.inl h)))))) (fun h => (Or.elim h (fun h => (Or.inr (Or.inr (Or.inr (Or.inr (Or.inr (Or.inl h))))))) (fun h => (Or.elim h (fun h => (Or.inr (Or.inr (Or.inr (Or.inr (Or.inr (Or.inr (Or.inl h)))))))) (fun h => (Or.inr (Or.inr (Or.inr (Or.inr (Or.inr (Or.inr (Or.inr (Or.inl h))))))))))))))))))))⟩))  h_q54)
        · refine post_ite (fun c_5 => ?_) (fun c_5 => ?_)
          · refine post_bind (Q := fun r => Fr W M0 r) (fr_MO_wallLine (fun k j hk => hW k j (Or.elim hk (fun h => (Or.inl ⟨(h).1, (Or.elim (h).2 (fun h => (Or.inr (Or.inr (Or.inl h)))) (fun h => (Or.elim h (fun h => (Or.inr (Or.inr (Or.inr (Or.inl h))))) (fun h => (Or.elim h (fun h => (Or.inr (Or.inr (Or.inr (Or.inr (Or.inl h)))))) (fun h => (Or.elim h (fun h => (Or.inr (Or.inr (Or.inr (Or.inr (Or.inr (Or.inl h))))))) (fun h => (Or.elim h (fun h => (Or.inr (Or.inr (Or.inr (Or.inr (Or.inr (Or.inr (Or.inl h)))))))) (fun h => (Or.inr (Or.inr (Or.inr (Or.inr (Or.inr (Or.inr (Or.inr (Or.inl h))))))))))))))))))⟩)) (fun h => (Or.elim h (fun h => (Or.inr (Or.inl h))) (fun h => (Or.inr (Or.inr (Or.inr (Or.inr (Or.inr (Or.inr (Or.inl h))))))))))))  h_q37) (fun q57 h_q57 => ?_)
            exact (fr_MO_line_L274 (fun k j hk => hW k j (Or.inl ⟨(hk).1, (Or.elim (hk).2 (fun h => (Or.inr (Or.inl h))) (fun h => (Or.elim h (fun h => (Or.inr (Or.inr (Or.inl h)))) (fun h => (Or.elim h (fun h => (Or.inr (Or.inr (Or.inr (Or.inl h))))) (fun h => (Or.elim h (fun h => (Or.inr (Or.inr (Or.inr (Or.inr (Or.inl h)))))) (fun h => (Or.elim h (fun h => (Or.inr (Or.inr (Or.inr (Or.inr (Or.inr (Or.inl h))))))) (fun h => (Or.elim h (fun h => (Or.inr (Or.inr (Or.inr (Or.inr (Or.inr (Or.inr (Or.inl h)))))))) (fun h => (Or.inr (Or.inr (Or.inr (Or.inr (Or.inr (Or.inr (Or.inr (Or.inl h))))))))))))))))))))⟩))  h_q57)
          · refine post_ite (fun c_6 => ?_) (fun c_6 => ?_)
            · refine post_bind (Q := fun r => Fr W M0 r) (fr_MO_stairLine (fun k j hk => hW k j (Or.elim hk (fun h => (Or.inl ⟨(h).1, (Or.elim (h).2 (fun h => (Or.inr (Or.inr (Or.inl h)))) (fun h => (Or.elim h (fun h => (Or.inr (Or.inr (Or.inr (Or.inl h))))) (fun h => (Or.elim h (fun h => (Or.inr (Or.inr (Or.inr (Or.inr (Or.inl h)))))) (fun h => (Or.elim h (fun h => (Or.inr (Or.inr (Or.inr (Or.inr (Or.inr (Or.inl h))))))) (fun h => (Or.elim h (fun h => (Or.inr (Or.inr (Or.inr (Or.inr (Or.inr (Or.inr (Or.inl h)))))))) (fun h => (Or.inr (Or.inr (Or.inr (Or.inr (Or.inr (Or.inr (Or.inr (Or.inl h))))))))))))))))))⟩)) (fun h => (Or.elim h (fun h => (Or.inr (Or.inl h))) (fun h => (Or.inr (Or.inr (Or.inr (Or.inr (Or.inr (Or.inr (Or.inr (Or.inl h)))))))))))))  h_q37) (fun q60 h_q60 => ?_)
              exact (fr_MO_line_L274 (fun k j hk => hW k j (Or.inl ⟨(hk).1, (Or.elim (hk).2 (fun h => (Or.inr (Or.inl h))) (fun h => (Or.elim h (fun h => (Or.inr (Or.inr (Or.inl h)))) (fun h => (Or.elim h (fun h => (Or.inr (Or.inr (Or.inr (Or.inl h))))) (fun h => (Or.elim h (fun h => (Or.inr (Or.inr (Or.inr (Or.inr (Or.inl h)))))) (fun h => (Or.elim h (fun h => (Or.inr (Or.inr (Or.inr (Or.inr (Or.inr (Or.inl h))))))) (fun h => (Or.elim h (fun h => (Or.inr (Or.inr (Or.inr (Or.inr (Or.inr (Or.inr (Or.inl h)))))))) (fun h => (Or.inr (Or.inr (Or.inr (Or.inr (Or.inr (Or.inr (Or.inr (Or.inl h))))))))))))))))))))⟩))  h_q60)
            · refine post_ite (fun c_7 => ?_) (fun c_7 => ?_)
              · refine post_bindv (fun q63 => ?_)
                refine post_bind (Q := fun r => Fr W M0 r) (fr_MO_thingLine (fun k j hk => hW k j (Or.elim hk (fun h => (Or.inl ⟨(h).1, (Or.elim (h).2 (fun h => (Or.inr (Or.inr (Or.inl h)))) (fun h => (Or.elim h (fun h => (Or.inr (Or.inr (Or.inr (Or.inl h))))) (fun h => (Or.elim h (fun h => (Or.inr (Or.inr (Or.inr (Or.inr (Or.inl h)))))) (fun h => (Or.elim h (fun h => (Or.inr (Or.inr (Or.inr (Or.inr (Or.inr (Or.inl h))))))) (fun h => (Or.elim h (fun h => (Or.inr (Or.inr (Or.inr (Or.inr (Or.inr (Or.inr (Or.inl h)))))))) (fun h => (Or.inr (Or.inr (Or.inr (Or.inr (Or.inr (Or.inr (Or.inr (Or.inl h))))))))))))))))))⟩)) (fun h => (Or.elim h (fun h => (Or.inr (Or.inl h))) (fun h => (Or.elim h (fun h => (Or.inr (Or.inr (Or.inr (Or.inr (Or.inr (Or.inr (Or.inr (Or.inr (Or.inl h)))))))))) (fun h => (Or.elim h (fun h => (Or.inr (Or.inr (Or.inr (Or.inr (Or.inr (Or.inr (Or.inr (Or.inr (Or.inr (Or.inl h))))))))))) (fun h => (Or.inr (Or.inr (Or.inr (Or.inr (Or.inr (Or.inr (Or.inr (Or.inr (Or.inr (Or.inr (Or.inl h))))))))))))))))))))  h_q37) (fun q65 h_q65 => ?_)
                exact (fr_MO_line_L274 (fun k j hk => hW k j (Or.inl ⟨(hk).1, (Or.elim (hk).2 (fun h => (Or.inr (Or.inl h))) (fun h => (Or.elim h (fun h => (Or.inr (Or.inr (Or.inl h)))) (fun h => (Or.elim h (fun h => (Or.inr (Or.inr (Or.inr (Or.inl h))))) (fun h => (Or.elim h (fun h => (Or.inr (Or.inr (Or.inr (Or.inr (Or.inl h)))))) (fun h => (Or.elim h (fun h => (Or.inr (Or.inr (Or.inr (Or.inr (Or.inr (Or.inl h))))))) (fun h => (Or.elim h (fun h => (Or.inr (Or.inr (Or.inr (Or.inr (Or.inr (Or.inr (Or.inl h)))))))) (fun h => (Or.inr (Or.inr (Or.inr (Or.inr (Or.inr (Or.inr (Or.inr (Or.inl h))))))))))))))))))))⟩))  h_q65)
              · refine post_ite (fun c_8 => ?_) (fun c_8 => ?_)
                · refine post_bind (Q := fun r => Fr W M0 r.1) (fr_MO_numeral (fun k j hk => hW k j (Or.inl ⟨(hk).1, (Or.elim (hk).2 (fun h => (Or.inr (Or.inr (Or.inl h)))) (fun h => (Or.elim h (fun h => (Or.inr (Or.inr (Or.inr (Or.inl h))))) (fun h => (Or.elim h (fun h => (Or.inr (Or.inr (Or.inr (Or.inr (Or.inl h)))))) (fun h => (Or.elim h (fun h => (Or.inr (Or.inr (Or.inr (Or.inr (Or.inr (Or.inl h))))))) (fun h => (Or.elim h (fun h => (Or.inr (Or.inr (Or.inr (Or.inr (Or.inr (Or.inr (Or.inl h)))))))) (fun h => (Or.inr (Or.inr (Or.inr (Or.inr (Or.inr (Or.inr (Or.inr (Or.inl h))))))))))))))))))⟩))  h_q37) (fun q68 h_q68 => ?_)
                  refine post_bind (Q := fun r => Fr W M0 r) (fr_MO_reads (fun k j hk => hW k j (Or.inr (Or.inl hk)))  h_q68) (fun q70 h_q70 => ?_)
                  exact (fr_MO_line_L274 (fun k j hk => hW k j (Or.inl ⟨(hk).1, (Or.elim (hk).2 (fun h => (Or.inr (Or.inl h))) (fun h => (Or.elim h (fun h => (Or.inr (Or.inr (Or.inl h)))) (fun h => (Or.elim h (fun h => (Or.inr (Or.inr (Or.inr (Or.inl h))))) (fun h => (Or.elim h (fun h => (Or.inr (Or.inr (Or.inr (Or.inr (Or.inl h)))))) (fun h => (Or.elim h (fun h => (Or.inr (Or.inr (Or.inr (Or.inr (Or.inr (Or.inl h))))))) (fun h => (Or.elim h (fun h => (Or.inr (Or.inr (Or.inr (Or.inr (Or.inr (Or.inr (Or.inl h)))))))) (fun h => (Or.inr (Or.inr (Or.inr (Or.inr (Or.inr (Or.inr (Or.inr (Or.inl h))))))))))))))))))))⟩))  h_q70)
                · refine post_bind (Q := fun r => Fr W M0 r) (fr_MO_lawLine (fun k j hk => hW k j (Or.elim hk (fun h => (Or.inl ⟨(h).1, (Or.elim (h).2 (fun h => (Or.inl h)) (fun h => (Or.elim h (fun h => (Or.inr (Or.inr (Or.inl h)))) (fun h => (Or.elim h (fun h => (Or.inr (Or.inr (Or.inr (Or.inl h))))) (fun h => (Or.elim h (fun h => (Or.inr (Or.inr (Or.inr (Or.inr (Or.inl h)))))) (fun h => (Or.elim h (fun h => (Or.inr (Or.inr (Or.inr (Or.inr (Or.inr (Or.inl h))))))) (fun h => (Or.elim h (fun h => (Or.inr (Or.inr (Or.inr (Or.inr (Or.inr (Or.inr (Or.inl h)))))))) (fun h => (Or.elim h (fun h => (Or.inr (Or.inr (Or.inr (Or.inr (Or.inr (Or.inr (Or.inr (Or.inl h))))))))) (fun h => (Or.elim h (fun h => (Or.inr (Or.inr (Or.inr (Or.inr (Or.inr (Or.inr (Or.inr (Or.inr (Or.inl h)))))))))) (fun h => (Or.inr (Or.inr (Or.inr (Or.inr (Or.inr (Or.inr (Or.inr (Or.inr (Or.inr h)))))))))))))))))))))))))⟩)) (fun h => (Or.elim h (fun h => (Or.inr (Or.inl h))) (fun h => (Or.elim h (fun h => (Or.inr (Or.inr (Or.inr (Or.inr (Or.inr (Or.inr (Or.inr (Or.inr (Or.inr (Or.inr (Or.inr (Or.inl h))))))))))))) (fun h => (Or.elim h (fun h => (Or.inr (Or.inr (Or.inr (Or.inr (Or.inr (Or.inr (Or.inr (Or.inr (Or.inr (Or.inr (Or.inr (Or.inr (Or.inl h)))))))))))))) (fun h => (Or.elim h (fun h => (Or.inr (Or.inr (Or.inr (Or.inr (Or.inr (Or.inr (Or.inr (Or.inr (Or.inr (Or.inr (Or.inr (Or.inr (Or.inr (Or.inl h))))))))))))))) (fun h => (Or.inr (Or.inr (Or.inr (Or.inr (Or.inr (Or.inr (Or.inr (Or.inr (Or.inr (Or.inr (Or.inr (Or.inr (Or.inr (Or.inr h)))))))))))))))))))))))))  h_q37) (fun q72 h_q72 => ?_)
                  exact (fr_MO_line_L274 (fun k j hk => hW k j (Or.inl ⟨(hk).1, (Or.elim (hk).2 (fun h => (Or.inr (Or.inl h))) (fun h => (Or.elim h (fun h => (Or.inr (Or.inr (Or.inl h)))) (fun h => (Or.elim h (fun h => (Or.inr (Or.inr (Or.inr (Or.inl h))))) (fun h => (Or.elim h (fun h => (Or.inr (Or.inr (Or.inr (Or.inr (Or.inl h)))))) (fun h => (Or.elim h (fun h => (Or.inr (Or.inr (Or.inr (Or.inr (Or.inr (Or.inl h))))))) (fun h => (Or.elim h (fun h => (Or.inr (Or.inr (Or.inr (Or.inr (Or.inr (Or.inr (Or.inl h)))))))) (fun h => (Or.inr (Or.inr (Or.inr (Or.inr (Or.inr (Or.inr (Or.inr (Or.inl h))))))))))))))))))))⟩))  h_q72)
  · exact post_some h
def W_MO_line_L105 : Nat → Int → Prop := fun k j => (k = 191 ∧ (j = 17 ∨ j = 18 ∨ j = 20 ∨ j = 21 ∨ j = 22 ∨ j = 23 ∨ j = 24 ∨ j = 25 ∨ j = 28 ∨ j = 29)) ∨ k = 193 ∨ k = 194 ∨ k = 195 ∨ k = 196 ∨ k = 197 ∨ k = 198 ∨ k = 199 ∨ k = 200 ∨ k = 201 ∨ k = 202 ∨ k = 203 ∨ k = 204 ∨ k = 205 ∨ k = 206
theorem fr_MO_line_L105 {v1_ : Int} {W : Nat → Int → Prop} {M0 : Mem} (hW : ∀ k j, (W_MO_line_L105) k j → W k j)  {M : Mem} (h : Fr W M0 M) : Post (fun r => Fr W M0 r) (t_MO_line_L105 M v1_) := by
  unfold t_MO_line_L105
  refine post_let (fun q74 e_q74 => ?_)
  have h_q74 : Fr W M0 q74 := by rw [e_q74]; exact (fr_MO_wrong (fun k j hk => hW k j (Or.inl ⟨(hk).1, (Or.elim (hk).2 (fun h => (Or.inr (Or.inr (Or.inr (Or.inr (Or.inr (Or.inr (Or.inl h)))))))) (fun h => (Or.inr (Or.inr (Or.inr (Or.inr (Or.inr (Or.inr (Or.inr (Or.inl h))))))))))⟩))  h)
  exact (fr_MO_line_L110 (fun k j hk => hW k j (Or.elim hk (fun h => (Or.inl ⟨(h).1, (Or.elim (h).2 (fun h => (Or.inl h)) (fun h => (Or.elim h (fun h => (Or.inr (Or.inl h))) (fun h => (Or.elim h (fun h => (Or.inr (Or.inr (Or.inl h)))) (fun h => (Or.elim h (fun h => (Or.inr (Or.inr (Or.inr (Or.inl h))))) (fun h => (Or.elim h (fun h => (Or.inr (Or.inr (Or.inr (Or.inr (Or.inl h)))))) (fun h => (Or.elim h (fun h => (Or.inr (Or.inr (Or.inr (Or.inr (Or.inr (Or.inl h))))))) (fun h => (Or.elim h (fun h => (Or.inr (Or.inr (Or.inr (Or.inr (Or.inr (Or.inr (Or.inl h)))))))) (fun h => (Or.elim h (fun h => (Or.inr (Or.inr (Or.inr (Or.inr (Or.inr (Or.inr (Or.inr (Or.inl h))))))))) (fun h => (Or.elim h (fun h => (Or.inr (Or.inr (Or.inr (Or.inr (Or.inr (Or.inr (Or.inr (Or.inr (Or.inl h)))))))))) (fun h => (Or.inr (Or.inr (Or.inr (Or.inr (Or.inr (Or.inr (Or.inr (Or.inr (Or.inr h)))))))))))))))))))))))))))⟩)) (fun h => (Or.elim h (fun h => (Or.inr (Or.inl h))) (fun h => (Or.elim h (fun h => (Or.inr (Or.inr (Or.inl h)))) (fun h => (Or.elim h (fun h => (Or.inr (Or.inr (Or.inr (Or.inl h))))) (fun h => (Or.elim h (fun h => (Or.inr (Or.inr (Or.inr (Or.inr (Or.inl h)))))) (fun h => (Or.elim h (fun h => (Or.inr (Or.inr (Or.inr (Or.inr (Or.inr (Or.inl h))))))) (fun h => (Or.elim h (fun h => (Or.inr (Or.inr (Or.inr (Or.inr (Or.inr (Or.inr (Or.inl h)))))))) (fun h => (Or.elim h (fun h => (Or.inr (Or.inr (Or.inr (Or.inr (Or.inr (Or.inr (Or.inr (Or.inl h))))))))) (fun h => (Or.elim h (fun h => (Or.inr (Or.inr (Or.inr (Or.inr (Or.inr (Or.inr (Or.inr (Or.inr (Or.inl h)))))))))) (fun h => (Or.elim h (fun h => (Or.inr (Or.inr (Or.inr (Or.inr (Or.inr (Or.inr (Or.inr (Or.inr (Or.inr (Or.inl h))))))))))) (fun h => (Or.elim h (fun h => (Or.inr (Or.inr (Or.inr (Or.inr (Or.inr (Or.inr (Or.inr (Or.inr (Or.inr (Or.inr (Or.inl h)))))))))))) (fun h => (Or.elim h (fun h => (Or.inr (Or.inr (Or.inr (Or.inr (Or.inr (Or.inr (Or.inr (Or.inr (Or.inr (Or.inr (Or.inr (Or.inl h))))))))))))) (fun h => (Or.elim h (fun h => (Or.inr (Or.inr (Or.inr (Or.inr (Or.inr (Or.inr (Or.inr (Or.inr (Or.inr (Or.inr (Or.inr (Or.inr (Or.inl h)))))))))))))) (fun h => (Or.elim h (fun h => (Or.inr (Or.inr (Or.inr (Or.inr (Or.inr (Or.inr (Or.inr (Or.inr (Or.inr (Or.inr (Or.inr (Or.inr (Or.inr (Or.inl h))))))))))))))) (fun h => (Or.inr (Or.inr (Or.inr (Or.inr (Or.inr (Or.inr (Or.inr (Or.inr (Or.inr (Or.inr (Or.inr (Or.inr (Or.inr (Or.inr h)))))))))))))))))))))))))))))))))))))))))))  h_q74)
def W_MO_line_L69 : Nat → Int → Prop := fun k j => (k = 191 ∧ (j = 17 ∨ j = 18 ∨ j = 20 ∨ j = 21 ∨ j = 22 ∨ j = 23 ∨ j = 24 ∨ j = 25 ∨ j = 28 ∨ j = 29)) ∨ k = 193 ∨ k = 194 ∨ k = 195 ∨ k = 196 ∨ k = 197 ∨ k = 198 ∨ k = 199 ∨ k = 200 ∨ k = 201 ∨ k = 202 ∨ k = 203 ∨ k = 204 ∨ k = 205 ∨ k = 206
theorem fr_MO_line_L69 {v1_ : Int} {W : Nat → Int → Prop} {M0 : Mem} (hW : ∀ k j, (W_MO_line_L69) k j → W k j)  {M : Mem} (h : Fr W M0 M) : Post (fun r => Fr W M0 r) (t_MO_line_L69 M v1_) := by
  unfold t_MO_line_L69
  refine post_ite (fun c_1 => ?_) (fun c_1 => ?_)
  · refine post_let (fun q21 _ => ?_)
    refine post_ite (fun c_2 => ?_) (fun c_2 => ?_)
    · refine post_let (fun q24 _ => ?_)
      refine post_ite (fun c_3 => ?_) (fun c_3 => ?_)
      · refine post_let (fun q27 _ => ?_)
        refine post_ite (fun c_4 => ?_) (fun c_4 => ?_)
        · refine post_let (fun q30 _ => ?_)
          refine post_ite (fun c_5 => ?_) (fun c_5 => ?_)
          · exact (fr_MO_line_L110 (fun k j hk => hW k j (Or.elim hk (fun h => (Or.inl ⟨(h).1, (Or.elim (h).2 (fun h => (Or.inl h)) (fun h => (Or.elim h (fun h => (Or.inr (Or.inl h))) (fun h => (Or.elim h (fun h => (Or.inr (Or.inr (Or.inl h)))) (fun h => (Or.elim h (fun h => (Or.inr (Or.inr (Or.inr (Or.inl h))))) (fun h => (Or.elim h (fun h => (Or.inr (Or.inr (Or.inr (Or.inr (Or.inl h)))))) (fun h => (Or.elim h (fun h => (Or.inr (Or.inr (Or.inr (Or.inr (Or.inr (Or.inl h))))))) (fun h => (Or.elim h (fun h => (Or.inr (Or.inr (Or.inr (Or.inr (Or.inr (Or.inr (Or.inl h)))))))) (fun h => (Or.elim h (fun h => (Or.inr (Or.inr (Or.inr (Or.inr (Or.inr (Or.inr (Or.inr (Or.inl h))))))))) (fun h => (Or.elim h (fun h => (Or.inr (Or.inr (Or.inr (Or.inr (Or.inr (Or.inr (Or.inr (Or.inr (Or.inl h)))))))))) (fun h => (Or.inr (Or.inr (Or.inr (Or.inr (Or.inr (Or.inr (Or.inr (Or.inr (Or.inr h)))))))))))))))))))))))))))⟩)) (fun h => (Or.elim h (fun h => (Or.inr (Or.inl h))) (fun h => (Or.elim h (fun h => (Or.inr (Or.inr (Or.inl h)))) (fun h => (Or.elim h (fun h => (Or.inr (Or.inr (Or.inr (Or.inl h))))) (fun h => (Or.elim h (fun h => (Or.inr (Or.inr (Or.inr (Or.inr (Or.inl h)))))) (fun h => (Or.elim h (fun h => (Or.inr (Or.inr (Or.inr (Or.inr (Or.inr (Or.inl h))))))) (fun h => (Or.elim h (fun h => (Or.inr (Or.inr (Or.inr (Or.inr (Or.inr (Or.inr (Or.inl h)))))))) (fun h => (Or.elim h (fun h => (Or.inr (Or.inr (Or.inr (Or.inr (Or.inr (Or.inr (Or.inr (Or.inl h))))))))) (fun h => (Or.elim h (fun h => (Or.inr (Or.inr (Or.inr (Or.inr (Or.inr (Or.inr (Or.inr (Or.inr (Or.inl h)))))))))) (fun h => (Or.elim h (fun h => (Or.inr (Or.inr (Or.inr (Or.inr (Or.inr (Or.inr (Or.inr (Or.inr (Or.inr (Or.inl h))))))))))) (fun h => (Or.elim h (fun h => (Or.inr (Or.inr (Or.inr (Or.inr (Or.inr (Or.inr (Or.inr (Or.inr (Or.inr (Or.inr (Or.inl h)))))))))))) (fun h => (Or.elim h (fun h => (Or.inr (Or.inr (Or.inr (Or.inr (Or.inr (Or.inr (Or.inr (Or.inr (Or.inr (Or.inr (Or.inr (Or.inl h))))))))))))) (fun h => (Or.elim h (fun h => (Or.inr (Or.inr (Or.inr (Or.inr (Or.inr (Or.inr (Or.inr (Or.inr (Or.inr (Or.inr (Or.inr (Or.inr (Or.inl h)))))))))))))) (fun h => (Or.elim h (fun h => (Or.inr (Or.inr (Or.inr (Or.inr (Or.inr (Or.inr (Or.inr (Or.inr (Or.inr (Or.inr (Or.inr (Or.inr (Or.inr (Or.inl h))))))))))))))) (fun h => (Or.inr (Or.inr (Or.inr (Or.inr (Or.inr (Or.inr (Or.inr (Or.inr (Or.inr (Or.inr (Or.inr (Or.inr (Or.inr (Or.inr h)))))))))))))))))))))))))))))))))))))))))))  h)
          · exact (fr_MO_line_L105 (fun k j hk => hW k j (Or.elim hk (fun h => (Or.inl ⟨(h).1, (Or.elim (h).2 (fun h => (Or.inl h)) (fun h => (Or.elim h (fun h => (Or.inr (Or.inl h))) (fun h => (Or.elim h (fun h => (Or.inr (Or.inr (Or.inl h)))) (fun h => (Or.elim h (fun h => (Or.inr (Or.inr (Or.inr (Or.inl h))))) (fun h => (Or.elim h (fun h => (Or.inr (Or.inr (Or.inr (Or.inr (Or.inl h)))))) (fun h => (Or.elim h (fun h => (Or.inr (Or.inr (Or.inr (Or.inr (Or.inr (Or.inl h))))))) (fun h => (Or.elim h (fun h => (Or.inr (Or.inr (Or.inr (Or.inr (Or.inr (Or.inr (Or.inl h)))))))) (fun h => (Or.elim h (fun h => (Or.inr (Or.inr (Or.inr (Or.inr (Or.inr (Or.inr (Or.inr (Or.inl h))))))))) (fun h => (Or.elim h (fun h => (Or.inr (Or.inr (Or.inr (Or.inr (Or.inr (Or.inr (Or.inr (Or.inr (Or.inl h)))))))))) (fun h => (Or.inr (Or.inr (Or.inr (Or.inr (Or.inr (Or.inr (Or.inr (Or.inr (Or.inr h)))))))))))))))))))))))))))⟩)) (fun h => (Or.elim h (fun h => (Or.inr (Or.inl h))) (fun h => (Or.elim h (fun h => (Or.inr (Or.inr (Or.inl h)))) (fun h => (Or.elim h (fun h => (Or.inr (Or.inr (Or.inr (Or.inl h))))) (fun h => (Or.elim h (fun h => (Or.inr (Or.inr (Or.inr (Or.inr (Or.inl h)))))) (fun h => (Or.elim h (fun h => (Or.inr (Or.inr (Or.inr (Or.inr (Or.inr (Or.inl h))))))) (fun h => (Or.elim h (fun h => (Or.inr (Or.inr (Or.inr (Or.inr (Or.inr (Or.inr (Or.inl h)))))))) (fun h => (Or.elim h (fun h => (Or.inr (Or.inr (Or.inr (Or.inr (Or.inr (Or.inr (Or.inr (Or.inl h))))))))) (fun h => (Or.elim h (fun h => (Or.inr (Or.inr (Or.inr (Or.inr (Or.inr (Or.inr (Or.inr (Or.inr (Or.inl h)))))))))) (fun h => (Or.elim h (fun h => (Or.inr (Or.inr (Or.inr (Or.inr (Or.inr (Or.inr (Or.inr (Or.inr (Or.inr (Or.inl h))))))))))) (fun h => (Or.elim h (fun h => (Or.inr (Or.inr (Or.inr (Or.inr (Or.inr (Or.inr (Or.inr (Or.inr (Or.inr (Or.inr (Or.inl h)))))))))))) (fun h => (Or.elim h (fun h => (Or.inr (Or.inr (Or.inr (Or.inr (Or.inr (Or.inr (Or.inr (Or.inr (Or.inr (Or.inr (Or.inr (Or.inl h))))))))))))) (fun h => (Or.elim h (fun h => (Or.inr (Or.inr (Or.inr (Or.inr (Or.inr (Or.inr (Or.inr (Or.inr (Or.inr (Or.inr (Or.inr (Or.inr (Or.inl h)))))))))))))) (fun h => (Or.elim h (fun h => (Or.inr (Or.inr (Or.inr (Or.inr (Or.inr (Or.inr (Or.inr (Or.inr (Or.inr (Or.inr (Or.inr (Or.inr (Or.inr (Or.inl h))))))))))))))) (fun h => (Or.inr (Or.inr (Or.inr (Or.inr (Or.inr (Or.inr (Or.inr (Or.inr (Or.inr (Or.inr (Or.inr (Or.inr (Or.inr (Or.inr h)))))))))))))))))))))))))))))))))))))))))))  h)
        · exact (fr_MO_line_L105 (fun k j hk => hW k j (Or.elim hk (fun h => (Or.inl ⟨(h).1, (Or.elim (h).2 (fun h => (Or.inl h)) (fun h => (Or.elim h (fun h => (Or.inr (Or.inl h))) (fun h => (Or.elim h (fun h => (Or.inr (Or.inr (Or.inl h)))) (fun h => (Or.elim h (fun h => (Or.inr (Or.inr (Or.inr (Or.inl h))))) (fun h => (Or.elim h (fun h => (Or.inr (Or.inr (Or.inr (Or.inr (Or.inl h)))))) (fun h => (Or.elim h (fun h => (Or.inr (Or.inr (Or.inr (Or.inr (Or.inr (Or.inl h))))))) (fun h => (Or.elim h (fun h => (Or.inr (Or.inr (Or.inr (Or.inr (Or.inr (Or.inr (Or.inl h)))))))) (fun h => (Or.elim h (fun h => (Or.inr (Or.inr (Or.inr (Or.inr (Or.inr (Or.inr (Or.inr (Or.inl h))))))))) (fun h => (Or.elim h (fun h => (Or.inr (Or.inr (Or.inr (Or.inr (Or.inr (Or.inr (Or.inr (Or.inr (Or.inl h)))))))))) (fun h => (Or.inr (Or.inr (Or.inr (Or.inr (Or.inr (Or.inr (Or.inr (Or.inr (Or.inr h)))))))))))))))))))))))))))⟩)) (fun h => (Or.elim h (fun h => (Or.inr (Or.inl h))) (fun h => (Or.elim h (fun h => (Or.inr (Or.inr (Or.inl h)))) (fun h => (Or.elim h (fun h => (Or.inr (Or.inr (Or.inr (Or.inl h))))) (fun h => (Or.elim h (fun h => (Or.inr (Or.inr (Or.inr (Or.inr (Or.inl h)))))) (fun h => (Or.elim h (fun h => (Or.inr (Or.inr (Or.inr (Or.inr (Or.inr (Or.inl h))))))) (fun h => (Or.elim h (fun h => (Or.inr (Or.inr (Or.inr (Or.inr (Or.inr (Or.inr (Or.inl h)))))))) (fun h => (Or.elim h (fun h => (Or.inr (Or.inr (Or.inr (Or.inr (Or.inr (Or.inr (Or.inr (Or.inl h))))))))) (fun h => (Or.elim h (fun h => (Or.inr (Or.inr (Or.inr (Or.inr (Or.inr (Or.inr (Or.inr (Or.inr (Or.inl h)))))))))) (fun h => (Or.elim h (fun h => (Or.inr (Or.inr (Or.inr (Or.inr (Or.inr (Or.inr (Or.inr (Or.inr (Or.inr (Or.inl h))))))))))) (fun h => (Or.elim h (fun h => (Or.inr (Or.inr (Or.inr (Or.inr (Or.inr (Or.inr (Or.inr (Or.inr (Or.inr (Or.inr (Or.inl h)))))))))))) (fun h => (Or.elim h (fun h => (Or.inr (Or.inr (Or.inr (Or.inr (Or.inr (Or.inr (Or.inr (Or.inr (Or.inr (Or.inr (Or.inr (Or.inl h))))))))))))) (fun h => (Or.elim h (fun h => (Or.inr (Or.inr (Or.inr (Or.inr (Or.inr (Or.inr (Or.inr (Or.inr (Or.inr (Or.inr (Or.inr (Or.inr (Or.inl h)))))))))))))) (fun h => (Or.elim h (fun h => (Or.inr (Or.inr (Or.inr (Or.inr (Or.inr (Or.inr (Or.inr (Or.inr (Or.inr (Or.inr (Or.inr (Or.inr (Or.inr (Or.inl h))))))))))))))) (fun h => (Or.inr (Or.inr (Or.inr (Or.inr (Or.inr (Or.inr (Or.inr (Or.inr (Or.inr (Or.inr (Or.inr (Or.inr (Or.inr (Or.inr h)))))))))))))))))))))))))))))))))))))))))))  h)
      · exact (fr_MO_line_L105 (fun k j hk => hW k j (Or.elim hk (fun h => (Or.inl ⟨(h).1, (Or.elim (h).2 (fun h => (Or.inl h)) (fun h => (Or.elim h (fun h => (Or.inr (Or.inl h))) (fun h => (Or.elim h (fun h => (Or.inr (Or.inr (Or.inl h)))) (fun h => (Or.elim h (fun h => (Or.inr (Or.inr (Or.inr (Or.inl h))))) (fun h => (Or.elim h (fun h => (Or.inr (Or.inr (Or.inr (Or.inr (Or.inl h)))))) (fun h => (Or.elim h (fun h => (Or.inr (Or.inr (Or.inr (Or.inr (Or.inr (Or.inl h))))))) (fun h => (Or.elim h (fun h => (Or.inr (Or.inr (Or.inr (Or.inr (Or.inr (Or.inr (Or.inl h)))))))) (fun h => (Or.elim h (fun h => (Or.inr (Or.inr (Or.inr (Or.inr (Or.inr (Or.inr (Or.inr (Or.inl h))))))))) (fun h => (Or.elim h (fun h => (Or.inr (Or.inr (Or.inr (Or.inr (Or.inr (Or.inr (Or.inr (Or.inr (Or.inl h)))))))))) (fun h => (Or.inr (Or.inr (Or.inr (Or.inr (Or.inr (Or.inr (Or.inr (Or.inr (Or.inr h)))))))))))))))))))))))))))⟩)) (fun h => (Or.elim h (fun h => (Or.inr (Or.inl h))) (fun h => (Or.elim h (fun h => (Or.inr (Or.inr (Or.inl h)))) (fun h => (Or.elim h (fun h => (Or.inr (Or.inr (Or.inr (Or.inl h))))) (fun h => (Or.elim h (fun h => (Or.inr (Or.inr (Or.inr (Or.inr (Or.inl h)))))) (fun h => (Or.elim h (fun h => (Or.inr (Or.inr (Or.inr (Or.inr (Or.inr (Or.inl h))))))) (fun h => (Or.elim h (fun h => (Or.inr (Or.inr (Or.inr (Or.inr (Or.inr (Or.inr (Or.inl h)))))))) (fun h => (Or.elim h (fun h => (Or.inr (Or.inr (Or.inr (Or.inr (Or.inr (Or.inr (Or.inr (Or.inl h))))))))) (fun h => (Or.elim h (fun h => (Or.inr (Or.inr (Or.inr (Or.inr (Or.inr (Or.inr (Or.inr (Or.inr (Or.inl h)))))))))) (fun h => (Or.elim h (fun h => (Or.inr (Or.inr (Or.inr (Or.inr (Or.inr (Or.inr (Or.inr (Or.inr (Or.inr (Or.inl h))))))))))) (fun h => (Or.elim h (fun h => (Or.inr (Or.inr (Or.inr (Or.inr (Or.inr (Or.inr (Or.inr (Or.inr (Or.inr (Or.inr (Or.inl h)))))))))))) (fun h => (Or.elim h (fun h => (Or.inr (Or.inr (Or.inr (Or.inr (Or.inr (Or.inr (Or.inr (Or.inr (Or.inr (Or.inr (Or.inr (Or.inl h))))))))))))) (fun h => (Or.elim h (fun h => (Or.inr (Or.inr (Or.inr (Or.inr (Or.inr (Or.inr (Or.inr (Or.inr (Or.inr (Or.inr (Or.inr (Or.inr (Or.inl h)))))))))))))) (fun h => (Or.elim h (fun h => (Or.inr (Or.inr (Or.inr (Or.inr (Or.inr (Or.inr (Or.inr (Or.inr (Or.inr (Or.inr (Or.inr (Or.inr (Or.inr (Or.inl h))))))))))))))) (fun h => (Or.inr (Or.inr (Or.inr (Or.inr (Or.inr (Or.inr (Or.inr (Or.inr (Or.inr (Or.inr (Or.inr (Or.inr (Or.inr (Or.inr h)))))))))))))))))))))))))))))))))))))))))))  h)
    · exact (fr_MO_line_L105 (fun k j hk => hW k j (Or.elim hk (fun h => (Or.inl ⟨(h).1, (Or.elim (h).2 (fun h => (Or.inl h)) (fun h => (Or.elim h (fun h => (Or.inr (Or.inl h))) (fun h => (Or.elim h (fun h => (Or.inr (Or.inr (Or.inl h)))) (fun h => (Or.elim h (fun h => (Or.inr (Or.inr (Or.inr (Or.inl h))))) (fun h => (Or.elim h (fun h => (Or.inr (Or.inr (Or.inr (Or.inr (Or.inl h)))))) (fun h => (Or.elim h (fun h => (Or.inr (Or.inr (Or.inr (Or.inr (Or.inr (Or.inl h))))))) (fun h => (Or.elim h (fun h => (Or.inr (Or.inr (Or.inr (Or.inr (Or.inr (Or.inr (Or.inl h)))))))) (fun h => (Or.elim h (fun h => (Or.inr (Or.inr (Or.inr (Or.inr (Or.inr (Or.inr (Or.inr (Or.inl h))))))))) (fun h => (Or.elim h (fun h => (Or.inr (Or.inr (Or.inr (Or.inr (Or.inr (Or.inr (Or.inr (Or.inr (Or.inl h)))))))))) (fun h => (Or.inr (Or.inr (Or.inr (Or.inr (Or.inr (Or.inr (Or.inr (Or.inr (Or.inr h)))))))))))))))))))))))))))⟩)) (fun h => (Or.elim h (fun h => (Or.inr (Or.inl h))) (fun h => (Or.elim h (fun h => (Or.inr (Or.inr (Or.inl h)))) (fun h => (Or.elim h (fun h => (Or.inr (Or.inr (Or.inr (Or.inl h))))) (fun h => (Or.elim h (fun h => (Or.inr (Or.inr (Or.inr (Or.inr (Or.inl h)))))) (fun h => (Or.elim h (fun h => (Or.inr (Or.inr (Or.inr (Or.inr (Or.inr (Or.inl h))))))) (fun h => (Or.elim h (fun h => (Or.inr (Or.inr (Or.inr (Or.inr (Or.inr (Or.inr (Or.inl h)))))))) (fun h => (Or.elim h (fun h => (Or.inr (Or.inr (Or.inr (Or.inr (Or.inr (Or.inr (Or.inr (Or.inl h))))))))) (fun h => (Or.elim h (fun h => (Or.inr (Or.inr (Or.inr (Or.inr (Or.inr (Or.inr (Or.inr (Or.inr (Or.inl h)))))))))) (fun h => (Or.elim h (fun h => (Or.inr (Or.inr (Or.inr (Or.inr (Or.inr (Or.inr (Or.inr (Or.inr (Or.inr (Or.inl h))))))))))) (fun h => (Or.elim h (fun h => (Or.inr (Or.inr (Or.inr (Or.inr (Or.inr (Or.inr (Or.inr (Or.inr (Or.inr (Or.inr (Or.inl h)))))))))))) (fun h => (Or.elim h (fun h => (Or.inr (Or.inr (Or.inr (Or.inr (Or.inr (Or.inr (Or.inr (Or.inr (Or.inr (Or.inr (Or.inr (Or.inl h))))))))))))) (fun h => (Or.elim h (fun h => (Or.inr (Or.inr (Or.inr (Or.inr (Or.inr (Or.inr (Or.inr (Or.inr (Or.inr (Or.inr (Or.inr (Or.inr (Or.inl h)))))))))))))) (fun h => (Or.elim h (fun h => (Or.inr (Or.inr (Or.inr (Or.inr (Or.inr (Or.inr (Or.inr (Or.inr (Or.inr (Or.inr (Or.inr (Or.inr (Or.inr (Or.inl h))))))))))))))) (fun h => (Or.inr (Or.inr (Or.inr (Or.inr (Or.inr (Or.inr (Or.inr (Or.inr (Or.inr (Or.inr (Or.inr (Or.inr (Or.inr (Or.inr h)))))))))))))))))))))))))))))))))))))))))))  h)
  · exact (fr_MO_line_L110 (fun k j hk => hW k j (Or.elim hk (fun h => (Or.inl ⟨(h).1, (Or.elim (h).2 (fun h => (Or.inl h)) (fun h => (Or.elim h (fun h => (Or.inr (Or.inl h))) (fun h => (Or.elim h (fun h => (Or.inr (Or.inr (Or.inl h)))) (fun h => (Or.elim h (fun h => (Or.inr (Or.inr (Or.inr (Or.inl h))))) (fun h => (Or.elim h (fun h => (Or.inr (Or.inr (Or.inr (Or.inr (Or.inl h)))))) (fun h => (Or.elim h (fun h => (Or.inr (Or.inr (Or.inr (Or.inr (Or.inr (Or.inl h))))))) (fun h => (Or.elim h (fun h => (Or.inr (Or.inr (Or.inr (Or.inr (Or.inr (Or.inr (Or.inl h)))))))) (fun h => (Or.elim h (fun h => (Or.inr (Or.inr (Or.inr (Or.inr (Or.inr (Or.inr (Or.inr (Or.inl h))))))))) (fun h => (Or.elim h (fun h => (Or.inr (Or.inr (Or.inr (Or.inr (Or.inr (Or.inr (Or.inr (Or.inr (Or.inl h)))))))))) (fun h => (Or.inr (Or.inr (Or.inr (Or.inr (Or.inr (Or.inr (Or.inr (Or.inr (Or.inr h)))))))))))))))))))))))))))⟩)) (fun h => (Or.elim h (fun h => (Or.inr (Or.inl h))) (fun h => (Or.elim h (fun h => (Or.inr (Or.inr (Or.inl h)))) (fun h => (Or.elim h (fun h => (Or.inr (Or.inr (Or.inr (Or.inl h))))) (fun h => (Or.elim h (fun h => (Or.inr (Or.inr (Or.inr (Or.inr (Or.inl h)))))) (fun h => (Or.elim h (fun h => (Or.inr (Or.inr (Or.inr (Or.inr (Or.inr (Or.inl h))))))) (fun h => (Or.elim h (fun h => (Or.inr (Or.inr (Or.inr (Or.inr (Or.inr (Or.inr (Or.inl h)))))))) (fun h => (Or.elim h (fun h => (Or.inr (Or.inr (Or.inr (Or.inr (Or.inr (Or.inr (Or.inr (Or.inl h))))))))) (fun h => (Or.elim h (fun h => (Or.inr (Or.inr (Or.inr (Or.inr (Or.inr (Or.inr (Or.inr (Or.inr (Or.inl h)))))))))) (fun h => (Or.elim h (fun h => (Or.inr (Or.inr (Or.inr (Or.inr (Or.inr (Or.inr (Or.inr (Or.inr (Or.inr (Or.inl h))))))))))) (fun h => (Or.elim h (fun h => (Or.inr (Or.inr (Or.inr (Or.inr (Or.inr (Or.inr (Or.inr (Or.inr (Or.inr (Or.inr (Or.inl h)))))))))))) (fun h => (Or.elim h (fun h => (Or.inr (Or.inr (Or.inr (Or.inr (Or.inr (Or.inr (Or.inr (Or.inr (Or.inr (Or.inr (Or.inr (Or.inl h))))))))))))) (fun h => (Or.elim h (fun h => (Or.inr (Or.inr (Or.inr (Or.inr (Or.inr (Or.inr (Or.inr (Or.inr (Or.inr (Or.inr (Or.inr (Or.inr (Or.inl h)))))))))))))) (fun h => (Or.elim h (fun h => (Or.inr (Or.inr (Or.inr (Or.inr (Or.inr (Or.inr (Or.inr (Or.inr (Or.inr (Or.inr (Or.inr (Or.inr (Or.inr (Or.inl h))))))))))))))) (fun h => (Or.inr (Or.inr (Or.inr (Or.inr (Or.inr (Or.inr (Or.inr (Or.inr (Or.inr (Or.inr (Or.inr (Or.inr (Or.inr (Or.inr h)))))))))))))))))))))))))))))))))))))))))))  h)
def W_MO_line_L53 : Nat → Int → Prop := fun k j => (k = 191 ∧ (j = 17 ∨ j = 18 ∨ j = 20 ∨ j = 21 ∨ j = 22 ∨ j = 23 ∨ j = 24 ∨ j = 25 ∨ j = 28 ∨ j = 29)) ∨ k = 193 ∨ k = 194 ∨ k = 195 ∨ k = 196 ∨ k = 197 ∨ k = 198 ∨ k = 199 ∨ k = 200 ∨ k = 201 ∨ k = 202 ∨ k = 203 ∨ k = 204 ∨ k = 205 ∨ k = 206
theorem fr_MO_line_L53 {v1_ : Int} {W : Nat → Int → Prop} {M0 : Mem} (hW : ∀ k j, (W_MO_line_L53) k j → W k j)  {M : Mem} (h : Fr W M0 M) : Post (fun r => Fr W M0 r) (t_MO_line_L53 M v1_) := by
  unfold t_MO_line_L53
  refine post_let (fun q15 _ => ?_)
  refine post_ite (fun c_1 => ?_) (fun c_1 => ?_)
  · exact (fr_MO_line_L69 (fun k j hk => hW k j (Or.elim hk (fun h => (Or.inl ⟨(h).1, (Or.elim (h).2 (fun h => (Or.inl h)) (fun h => (Or.elim h (fun h => (Or.inr (Or.inl h))) (fun h => (Or.elim h (fun h => (Or.inr (Or.inr (Or.inl h)))) (fun h => (Or.elim h (fun h => (Or.inr (Or.inr (Or.inr (Or.inl h))))) (fun h => (Or.elim h (fun h => (Or.inr (Or.inr (Or.inr (Or.inr (Or.inl h)))))) (fun h => (Or.elim h (fun h => (Or.inr (Or.inr (Or.inr (Or.inr (Or.inr (Or.inl h))))))) (fun h => (Or.elim h (fun h => (Or.inr (Or.inr (Or.inr (Or.inr (Or.inr (Or.inr (Or.inl h)))))))) (fun h => (Or.elim h (fun h => (Or.inr (Or.inr (Or.inr (Or.inr (Or.inr (Or.inr (Or.inr (Or.inl h))))))))) (fun h => (Or.elim h (fun h => (Or.inr (Or.inr (Or.inr (Or.inr (Or.inr (Or.inr (Or.inr (Or.inr (Or.inl h)))))))))) (fun h => (Or.inr (Or.inr (Or.inr (Or.inr (Or.inr (Or.inr (Or.inr (Or.inr (Or.inr h)))))))))))))))))))))))))))⟩)) (fun h => (Or.elim h (fun h => (Or.inr (Or.inl h))) (fun h => (Or.elim h (fun h => (Or.inr (Or.inr (Or.inl h)))) (fun h => (Or.elim h (fun h => (Or.inr (Or.inr (Or.inr (Or.inl h))))) (fun h => (Or.elim h (fun h => (Or.inr (Or.inr (Or.inr (Or.inr (Or.inl h)))))) (fun h => (Or.elim h (fun h => (Or.inr (Or.inr (Or.inr (Or.inr (Or.inr (Or.inl h))))))) (fun h => (Or.elim h (fun h => (Or.inr (Or.inr (Or.inr (Or.inr (Or.inr (Or.inr (Or.inl h)))))))) (fun h => (Or.elim h (fun h => (Or.inr (Or.inr (Or.inr (Or.inr (Or.inr (Or.inr (Or.inr (Or.inl h))))))))) (fun h => (Or.elim h (fun h => (Or.inr (Or.inr (Or.inr (Or.inr (Or.inr (Or.inr (Or.inr (Or.inr (Or.inl h)))))))))) (fun h => (Or.elim h (fun h => (Or.inr (Or.inr (Or.inr (Or.inr (Or.inr (Or.inr (Or.inr (Or.inr (Or.inr (Or.inl h))))))))))) (fun h => (Or.elim h (fun h => (Or.inr (Or.inr (Or.inr (Or.inr (Or.inr (Or.inr (Or.inr (Or.inr (Or.inr (Or.inr (Or.inl h)))))))))))) (fun h => (Or.elim h (fun h => (Or.inr (Or.inr (Or.inr (Or.inr (Or.inr (Or.inr (Or.inr (Or.inr (Or.inr (Or.inr (Or.inr (Or.inl h))))))))))))) (fun h => (Or.elim h (fun h => (Or.inr (Or.inr (Or.inr (Or.inr (Or.inr (Or.inr (Or.inr (Or.inr (Or.inr (Or.inr (Or.inr (Or.inr (Or.inl h)))))))))))))) (fun h => (Or.elim h (fun h => (Or.inr (Or.inr (Or.inr (Or.inr (Or.inr (Or.inr (Or.inr (Or.inr (Or.inr (Or.inr (Or.inr (Or.inr (Or.inr (Or.inl h))))))))))))))) (fun h => (Or.inr (Or.inr (Or.inr (Or.inr (Or.inr (Or.inr (Or.inr (Or.inr (Or.inr (Or.inr (Or.inr (Or.inr (Or.inr (Or.inr h)))))))))))))))))))))))))))))))))))))))))))  h)
  · refine post_let (fun q18 e_q18 => ?_)
    have h_q18 : Fr W M0 q18 := by rw [e_q18]; exact (fr_MO_wrong (fun k j hk => hW k j (Or.inl ⟨(hk).1, (Or.elim (hk).2 (fun h => (Or.inr (Or.inr (Or.inr (Or.inr (Or.inr (Or.inr (Or.inl h)))))))) (fun h => (Or.inr (Or.inr (Or.inr (Or.inr (Or.inr (Or.inr (Or.inr (Or.inl h))))))))))⟩))  h)
    exact (fr_MO_line_L110 (fun k j hk => hW k j (Or.elim hk (fun h => (Or.inl ⟨(h).1, (Or.elim (h).2 (fun h => (Or.inl h)) (fun h => (Or.elim h (fun h => (Or.inr (Or.inl h))) (fun h => (Or.elim h (fun h => (Or.inr (Or.inr (Or.inl h)))) (fun h => (Or.elim h (fun h => (Or.inr (Or.inr (Or.inr (Or.inl h))))) (fun h => (Or.elim h (fun h => (Or.inr (Or.inr (Or.inr (Or.inr (Or.inl h)))))) (fun h => (Or.elim h (fun h => (Or.inr (Or.inr (Or.inr (Or.inr (Or.inr (Or.inl h))))))) (fun h => (Or.elim h (fun h => (Or.inr (Or.inr (Or.inr (Or.inr (Or.inr (Or.inr (Or.inl h)))))))) (fun h => (Or.elim h (fun h => (Or.inr (Or.inr (Or.inr (Or.inr (Or.inr (Or.inr (Or.inr (Or.inl h))))))))) (fun h => (Or.elim h (fun h => (Or.inr (Or.inr (Or.inr (Or.inr (Or.inr (Or.inr (Or.inr (Or.inr (Or.inl h)))))))))) (fun h => (Or.inr (Or.inr (Or.inr (Or.inr (Or.inr (Or.inr (Or.inr (Or.inr (Or.inr h)))))))))))))))))))))))))))⟩)) (fun h => (Or.elim h (fun h => (Or.inr (Or.inl h))) (fun h => (Or.elim h (fun h => (Or.inr (Or.inr (Or.inl h)))) (fun h => (Or.elim h (fun h => (Or.inr (Or.inr (Or.inr (Or.inl h))))) (fun h => (Or.elim h (fun h => (Or.inr (Or.inr (Or.inr (Or.inr (Or.inl h)))))) (fun h => (Or.elim h (fun h => (Or.inr (Or.inr (Or.inr (Or.inr (Or.inr (Or.inl h))))))) (fun h => (Or.elim h (fun h => (Or.inr (Or.inr (Or.inr (Or.inr (Or.inr (Or.inr (Or.inl h)))))))) (fun h => (Or.elim h (fun h => (Or.inr (Or.inr (Or.inr (Or.inr (Or.inr (Or.inr (Or.inr (Or.inl h))))))))) (fun h => (Or.elim h (fun h => (Or.inr (Or.inr (Or.inr (Or.inr (Or.inr (Or.inr (Or.inr (Or.inr (Or.inl h)))))))))) (fun h => (Or.elim h (fun h => (Or.inr (Or.inr (Or.inr (Or.inr (Or.inr (Or.inr (Or.inr (Or.inr (Or.inr (Or.inl h))))))))))) (fun h => (Or.elim h (fun h => (Or.inr (Or.inr (Or.inr (Or.inr (Or.inr (Or.inr (Or.inr (Or.inr (Or.inr (Or.inr (Or.inl h)))))))))))) (fun h => (Or.elim h (fun h => (Or.inr (Or.inr (Or.inr (Or.inr (Or.inr (Or.inr (Or.inr (Or.inr (Or.inr (Or.inr (Or.inr (Or.inl h))))))))))))) (fun h => (Or.elim h (fun h => (Or.inr (Or.inr (Or.inr (Or.inr (Or.inr (Or.inr (Or.inr (Or.inr (Or.inr (Or.inr (Or.inr (Or.inr (Or.inl h)))))))))))))) (fun h => (Or.elim h (fun h => (Or.inr (Or.inr (Or.inr (Or.inr (Or.inr (Or.inr (Or.inr (Or.inr (Or.inr (Or.inr (Or.inr (Or.inr (Or.inr (Or.inl h))))))))))))))) (fun h => (Or.inr (Or.inr (Or.inr (Or.inr (Or.inr (Or.inr (Or.inr (Or.inr (Or.inr (Or.inr (Or.inr (Or.inr (Or.inr (Or.inr h)))))))))))))))))))))))))))))))))))))))))))  h_q18)
def W_MO_line : Nat → Int → Prop := fun k j => (k = 191 ∧ (j = 17 ∨ j = 18 ∨ j = 20 ∨ j = 21 ∨ j = 22 ∨ j = 23 ∨ j = 24 ∨ j = 25 ∨ j = 28 ∨ j = 29)) ∨ k = 193 ∨ k = 194 ∨ k = 195 ∨ k = 196 ∨ k = 197 ∨ k = 198 ∨ k = 199 ∨ k = 200 ∨ k = 201 ∨ k = 202 ∨ k = 203 ∨ k = 204 ∨ k = 205 ∨ k = 206
theorem fr_MO_line  {W : Nat → Int → Prop} {M0 : Mem} (hW : ∀ k j, (W_MO_line) k j → W k j)  {M : Mem} (h : Fr W M0 M) : Post (fun r => Fr W M0 r) (t_MO_line M) := by
  unfold t_MO_line
  refine post_ite (fun c_1 => ?_) (fun c_1 => ?_)
  · refine post_ite (fun c_2 => ?_) (fun c_2 => ?_)
    · refine post_bindv (fun q6 => ?_)
      refine post_ite (fun c_3 => ?_) (fun c_3 => ?_)
      · refine post_ite (fun c_4 => ?_) (fun c_4 => ?_)
        · exact (fr_MO_line_L53 (fun k j hk => hW k j (Or.elim hk (fun h => (Or.inl ⟨(h).1, (Or.elim (h).2 (fun h => (Or.inl h)) (fun h => (Or.elim h (fun h => (Or.inr (Or.inl h))) (fun h => (Or.elim h (fun h => (Or.inr (Or.inr (Or.inl h)))) (fun h => (Or.elim h (fun h => (Or.inr (Or.inr (Or.inr (Or.inl h))))) (fun h => (Or.elim h (fun h => (Or.inr (Or.inr (Or.inr (Or.inr (Or.inl h)))))) (fun h => (Or.elim h (fun h => (Or.inr (Or.inr (Or.inr (Or.inr (Or.inr (Or.inl h))))))) (fun h => (Or.elim h (fun h => (Or.inr (Or.inr (Or.inr (Or.inr (Or.inr (Or.inr (Or.inl h)))))))) (fun h => (Or.elim h (fun h => (Or.inr (Or.inr (Or.inr (Or.inr (Or.inr (Or.inr (Or.inr (Or.inl h))))))))) (fun h => (Or.elim h (fun h => (Or.inr (Or.inr (Or.inr (Or.inr (Or.inr (Or.inr (Or.inr (Or.inr (Or.inl h)))))))))) (fun h => (Or.inr (Or.inr (Or.inr (Or.inr (Or.inr (Or.inr (Or.inr (Or.inr (Or.inr h)))))))))))))))))))))))))))⟩)) (fun h => (Or.elim h (fun h => (Or.inr (Or.inl h))) (fun h => (Or.elim h (fun h => (Or.inr (Or.inr (Or.inl h)))) (fun h => (Or.elim h (fun h => (Or.inr (Or.inr (Or.inr (Or.inl h))))) (fun h => (Or.elim h (fun h => (Or.inr (Or.inr (Or.inr (Or.inr (Or.inl h)))))) (fun h => (Or.elim h (fun h => (Or.inr (Or.inr (Or.inr (Or.inr (Or.inr (Or.inl h))))))) (fun h => (Or.elim h (fun h => (Or.inr (Or.inr (Or.inr (Or.inr (Or.inr (Or.inr (Or.inl h)))))))) (fun h => (Or.elim h (fun h => (Or.inr (Or.inr (Or.inr (Or.inr (Or.inr (Or.inr (Or.inr (Or.inl h))))))))) (fun h => (Or.elim h (fun h => (Or.inr (Or.inr (Or.inr (Or.inr (Or.inr (Or.inr (Or.inr (Or.inr (Or.inl h)))))))))) (fun h => (Or.elim h (fun h => (Or.inr (Or.inr (Or.inr (Or.inr (Or.inr (Or.inr (Or.inr (Or.inr (Or.inr (Or.inl h))))))))))) (fun h => (Or.elim h (fun h => (Or.inr (Or.inr (Or.inr (Or.inr (Or.inr (Or.inr (Or.inr (Or.inr (Or.inr (Or.inr (Or.inl h)))))))))))) (fun h => (Or.elim h (fun h => (Or.inr (Or.inr (Or.inr (Or.inr (Or.inr (Or.inr (Or.inr (Or.inr (Or.inr (Or.inr (Or.inr (Or.inl h))))))))))))) (fun h => (Or.elim h (fun h => (Or.inr (Or.inr (Or.inr (Or.inr (Or.inr (Or.inr (Or.inr (Or.inr (Or.inr (Or.inr (Or.inr (Or.inr (Or.inl h)))))))))))))) (fun h => (Or.elim h (fun h => (Or.inr (Or.inr (Or.inr (Or.inr (Or.inr (Or.inr (Or.inr (Or.inr (Or.inr (Or.inr (Or.inr (Or.inr (Or.inr (Or.inl h))))))))))))))) (fun h => (Or.inr (Or.inr (Or.inr (Or.inr (Or.inr (Or.inr (Or.inr (Or.inr (Or.inr (Or.inr (Or.inr (Or.inr (Or.inr (Or.inr h)))))))))))))))))))))))))))))))))))))))))))  h)
        · refine post_ite (fun c_5 => ?_) (fun c_5 => ?_)
          · exact (fr_MO_line_L53 (fun k j hk => hW k j (Or.elim hk (fun h => (Or.inl ⟨(h).1, (Or.elim (h).2 (fun h => (Or.inl h)) (fun h => (Or.elim h (fun h => (Or.inr (Or.inl h))) (fun h => (Or.elim h (fun h => (Or.inr (Or.inr (Or.inl h)))) (fun h => (Or.elim h (fun h => (Or.inr (Or.inr (Or.inr (Or.inl h))))) (fun h => (Or.elim h (fun h => (Or.inr (Or.inr (Or.inr (Or.inr (Or.inl h)))))) (fun h => (Or.elim h (fun h => (Or.inr (Or.inr (Or.inr (Or.inr (Or.inr (Or.inl h))))))) (fun h => (Or.elim h (fun h => (Or.inr (Or.inr (Or.inr (Or.inr (Or.inr (Or.inr (Or.inl h)))))))) (fun h => (Or.elim h (fun h => (Or.inr (Or.inr (Or.inr (Or.inr (Or.inr (Or.inr (Or.inr (Or.inl h))))))))) (fun h => (Or.elim h (fun h => (Or.inr (Or.inr (Or.inr (Or.inr (Or.inr (Or.inr (Or.inr (Or.inr (Or.inl h)))))))))) (fun h => (Or.inr (Or.inr (Or.inr (Or.inr (Or.inr (Or.inr (Or.inr (Or.inr (Or.inr h)))))))))))))))))))))))))))⟩)) (fun h => (Or.elim h (fun h => (Or.inr (Or.inl h))) (fun h => (Or.elim h (fun h => (Or.inr (Or.inr (Or.inl h)))) (fun h => (Or.elim h (fun h => (Or.inr (Or.inr (Or.inr (Or.inl h))))) (fun h => (Or.elim h (fun h => (Or.inr (Or.inr (Or.inr (Or.inr (Or.inl h)))))) (fun h => (Or.elim h (fun h => (Or.inr (Or.inr (Or.inr (Or.inr (Or.inr (Or.inl h))))))) (fun h => (Or.elim h (fun h => (Or.inr (Or.inr (Or.inr (Or.inr (Or.inr (Or.inr (Or.inl h)))))))) (fun h => (Or.elim h (fun h => (Or.inr (Or.inr (Or.inr (Or.inr (Or.inr (Or.inr (Or.inr (Or.inl h))))))))) (fun h => (Or.elim h (fun h => (Or.inr (Or.inr (Or.inr (Or.inr (Or.inr (Or.inr (Or.inr (Or.inr (Or.inl h)))))))))) (fun h => (Or.elim h (fun h => (Or.inr (Or.inr (Or.inr (Or.inr (Or.inr (Or.inr (Or.inr (Or.inr (Or.inr (Or.inl h))))))))))) (fun h => (Or.elim h (fun h => (Or.inr (Or.inr (Or.inr (Or.inr (Or.inr (Or.inr (Or.inr (Or.inr (Or.inr (Or.inr (Or.inl h)))))))))))) (fun h => (Or.elim h (fun h => (Or.inr (Or.inr (Or.inr (Or.inr (Or.inr (Or.inr (Or.inr (Or.inr (Or.inr (Or.inr (Or.inr (Or.inl h))))))))))))) (fun h => (Or.elim h (fun h => (Or.inr (Or.inr (Or.inr (Or.inr (Or.inr (Or.inr (Or.inr (Or.inr (Or.inr (Or.inr (Or.inr (Or.inr (Or.inl h)))))))))))))) (fun h => (Or.elim h (fun h => (Or.inr (Or.inr (Or.inr (Or.inr (Or.inr (Or.inr (Or.inr (Or.inr (Or.inr (Or.inr (Or.inr (Or.inr (Or.inr (Or.inl h))))))))))))))) (fun h => (Or.inr (Or.inr (Or.inr (Or.inr (Or.inr (Or.inr (Or.inr (Or.inr (Or.inr (Or.inr (Or.inr (Or.inr (Or.inr (Or.inr h)))))))))))))))))))))))))))))))))))))))))))  h)
          · exact (fr_MO_line_L69 (fun k j hk => hW k j (Or.elim hk (fun h => (Or.inl ⟨(h).1, (Or.elim (h).2 (fun h => (Or.inl h)) (fun h => (Or.elim h (fun h => (Or.inr (Or.inl h))) (fun h => (Or.elim h (fun h => (Or.inr (Or.inr (Or.inl h)))) (fun h => (Or.elim h (fun h => (Or.inr (Or.inr (Or.inr (Or.inl h))))) (fun h => (Or.elim h (fun h => (Or.inr (Or.inr (Or.inr (Or.inr (Or.inl h)))))) (fun h => (Or.elim h (fun h => (Or.inr (Or.inr (Or.inr (Or.inr (Or.inr (Or.inl h))))))) (fun h => (Or.elim h (fun h => (Or.inr (Or.inr (Or.inr (Or.inr (Or.inr (Or.inr (Or.inl h)))))))) (fun h => (Or.elim h (fun h => (Or.inr (Or.inr (Or.inr (Or.inr (Or.inr (Or.inr (Or.inr (Or.inl h))))))))) (fun h => (Or.elim h (fun h => (Or.inr (Or.inr (Or.inr (Or.inr (Or.inr (Or.inr (Or.inr (Or.inr (Or.inl h)))))))))) (fun h => (Or.inr (Or.inr (Or.inr (Or.inr (Or.inr (Or.inr (Or.inr (Or.inr (Or.inr h)))))))))))))))))))))))))))⟩)) (fun h => (Or.elim h (fun h => (Or.inr (Or.inl h))) (fun h => (Or.elim h (fun h => (Or.inr (Or.inr (Or.inl h)))) (fun h => (Or.elim h (fun h => (Or.inr (Or.inr (Or.inr (Or.inl h))))) (fun h => (Or.elim h (fun h => (Or.inr (Or.inr (Or.inr (Or.inr (Or.inl h)))))) (fun h => (Or.elim h (fun h => (Or.inr (Or.inr (Or.inr (Or.inr (Or.inr (Or.inl h))))))) (fun h => (Or.elim h (fun h => (Or.inr (Or.inr (Or.inr (Or.inr (Or.inr (Or.inr (Or.inl h)))))))) (fun h => (Or.elim h (fun h => (Or.inr (Or.inr (Or.inr (Or.inr (Or.inr (Or.inr (Or.inr (Or.inl h))))))))) (fun h => (Or.elim h (fun h => (Or.inr (Or.inr (Or.inr (Or.inr (Or.inr (Or.inr (Or.inr (Or.inr (Or.inl h)))))))))) (fun h => (Or.elim h (fun h => (Or.inr (Or.inr (Or.inr (Or.inr (Or.inr (Or.inr (Or.inr (Or.inr (Or.inr (Or.inl h))))))))))) (fun h => (Or.elim h (fun h => (Or.inr (Or.inr (Or.inr (Or.inr (Or.inr (Or.inr (Or.inr (Or.inr (Or.inr (Or.inr (Or.inl h)))))))))))) (fun h => (Or.elim h (fun h => (Or.inr (Or.inr (Or.inr (Or.inr (Or.inr (Or.inr (Or.inr (Or.inr (Or.inr (Or.inr (Or.inr (Or.inl h))))))))))))) (fun h => (Or.elim h (fun h => (Or.inr (Or.inr (Or.inr (Or.inr (Or.inr (Or.inr (Or.inr (Or.inr (Or.inr (Or.inr (Or.inr (Or.inr (Or.inl h)))))))))))))) (fun h => (Or.elim h (fun h => (Or.inr (Or.inr (Or.inr (Or.inr (Or.inr (Or.inr (Or.inr (Or.inr (Or.inr (Or.inr (Or.inr (Or.inr (Or.inr (Or.inl h))))))))))))))) (fun h => (Or.inr (Or.inr (Or.inr (Or.inr (Or.inr (Or.inr (Or.inr (Or.inr (Or.inr (Or.inr (Or.inr (Or.inr (Or.inr (Or.inr h)))))))))))))))))))))))))))))))))))))))))))  h)
      · refine post_let (fun q11 e_q11 => ?_)
        have h_q11 : Fr W M0 q11 := by rw [e_q11]; exact (fr_MO_wrong (fun k j hk => hW k j (Or.inl ⟨(hk).1, (Or.elim (hk).2 (fun h => (Or.inr (Or.inr (Or.inr (Or.inr (Or.inr (Or.inr (Or.inl h)))))))) (fun h => (Or.inr (Or.inr (Or.inr (Or.inr (Or.inr (Or.inr (Or.inr (Or.inl h))))))))))⟩))  h)
        exact (fr_MO_line_L110 (fun k j hk => hW k j (Or.elim hk (fun h => (Or.inl ⟨(h).1, (Or.elim (h).2 (fun h => (Or.inl h)) (fun h => (Or.elim h (fun h => (Or.inr (Or.inl h))) (fun h => (Or.elim h (fun h => (Or.inr (Or.inr (Or.inl h)))) (fun h => (Or.elim h (fun h => (Or.inr (Or.inr (Or.inr (Or.inl h))))) (fun h => (Or.elim h (fun h => (Or.inr (Or.inr (Or.inr (Or.inr (Or.inl h)))))) (fun h => (Or.elim h (fun h => (Or.inr (Or.inr (Or.inr (Or.inr (Or.inr (Or.inl h))))))) (fun h => (Or.elim h (fun h => (Or.inr (Or.inr (Or.inr (Or.inr (Or.inr (Or.inr (Or.inl h)))))))) (fun h => (Or.elim h (fun h => (Or.inr (Or.inr (Or.inr (Or.inr (Or.inr (Or.inr (Or.inr (Or.inl h))))))))) (fun h => (Or.elim h (fun h => (Or.inr (Or.inr (Or.inr (Or.inr (Or.inr (Or.inr (Or.inr (Or.inr (Or.inl h)))))))))) (fun h => (Or.inr (Or.inr (Or.inr (Or.inr (Or.inr (Or.inr (Or.inr (Or.inr (Or.inr h)))))))))))))))))))))))))))⟩)) (fun h => (Or.elim h (fun h => (Or.inr (Or.inl h))) (fun h => (Or.elim h (fun h => (Or.inr (Or.inr (Or.inl h)))) (fun h => (Or.elim h (fun h => (Or.inr (Or.inr (Or.inr (Or.inl h))))) (fun h => (Or.elim h (fun h => (Or.inr (Or.inr (Or.inr (Or.inr (Or.inl h)))))) (fun h => (Or.elim h (fun h => (Or.inr (Or.inr (Or.inr (Or.inr (Or.inr (Or.inl h))))))) (fun h => (Or.elim h (fun h => (Or.inr (Or.inr (Or.inr (Or.inr (Or.inr (Or.inr (Or.inl h)))))))) (fun h => (Or.elim h (fun h => (Or.inr (Or.inr (Or.inr (Or.inr (Or.inr (Or.inr (Or.inr (Or.inl h))))))))) (fun h => (Or.elim h (fun h => (Or.inr (Or.inr (Or.inr (Or.inr (Or.inr (Or.inr (Or.inr (Or.inr (Or.inl h)))))))))) (fun h => (Or.elim h (fun h => (Or.inr (Or.inr (Or.inr (Or.inr (Or.inr (Or.inr (Or.inr (Or.inr (Or.inr (Or.inl h))))))))))) (fun h => (Or.elim h (fun h => (Or.inr (Or.inr (Or.inr (Or.inr (Or.inr (Or.inr (Or.inr (Or.inr (Or.inr (Or.inr (Or.inl h)))))))))))) (fun h => (Or.elim h (fun h => (Or.inr (Or.inr (Or.inr (Or.inr (Or.inr (Or.inr (Or.inr (Or.inr (Or.inr (Or.inr (Or.inr (Or.inl h))))))))))))) (fun h => (Or.elim h (fun h => (Or.inr (Or.inr (Or.inr (Or.inr (Or.inr (Or.inr (Or.inr (Or.inr (Or.inr (Or.inr (Or.inr (Or.inr (Or.inl h)))))))))))))) (fun h => (Or.elim h (fun h => (Or.inr (Or.inr (Or.inr (Or.inr (Or.inr (Or.inr (Or.inr (Or.inr (Or.inr (Or.inr (Or.inr (Or.inr (Or.inr (Or.inl h))))))))))))))) (fun h => (Or.inr (Or.inr (Or.inr (Or.inr (Or.inr (Or.inr (Or.inr (Or.inr (Or.inr (Or.inr (Or.inr (Or.inr (Or.inr (Or.inr h)))))))))))))))))))))))))))))))))))))))))))  h_q11)
    · exact (fr_MO_line_L16 (fun k j hk => hW k j (Or.inl ⟨(hk).1, (Or.elim (hk).2 (fun h => (Or.inr (Or.inr (Or.inr (Or.inr (Or.inr (Or.inr (Or.inl h)))))))) (fun h => (Or.inr (Or.inr (Or.inr (Or.inr (Or.inr (Or.inr (Or.inr (Or.inl h))))))))))⟩))  h)
  · exact (fr_MO_line_L16 (fun k j hk => hW k j (Or.inl ⟨(hk).1, (Or.elim (hk).2 (fun h => (Or.inr (Or.inr (Or.inr (Or.inr (Or.inr (Or.inr (Or.inl h)))))))) (fun h => (Or.inr (Or.inr (Or.inr (Or.inr (Or.inr (Or.inr (Or.inr (Or.inl h))))))))))⟩))  h)
def W_MO_half_L7 (r1 : Nat) : Nat → Int → Prop := fun k j => k = r1
theorem fr_MO_half_L7 {r1 : Nat} {N1 : Nat} {W : Nat → Int → Prop} {M0 : Mem} (hW : ∀ k j, (W_MO_half_L7 r1) k j → W k j)  : ∀ (fu : Nat) (M : Mem) (v1_ : Int) (v2_ : Int), Fr W M0 M → Post (fun r => Fr W M0 r) (t_MO_half_L7 r1 N1 fu M v1_ v2_) := by
  intro fu
  induction fu with
  | zero => intro M v1_ v2_ h; exact post_none
  | succ fu ih =>
    intro M v1_ v2_ h
    rw [t_MO_half_L7]
    refine post_ite (fun c_1 => ?_) (fun c_1 => ?_)
    · exact post_some h
    · refine post_guard (fun c_2 => ?_)
      refine post_guard (fun c_3 => ?_)
      refine post_let (fun M5 e_M5 => ?_)
      have h_M5 : Fr W M0 M5 := by rw [e_M5]; exact Fr.setI h (hW _ _ rfl)
      exact (ih _ _ _ h_M5)
def W_MO_half (r1 : Nat) : Nat → Int → Prop := fun k j => k = r1
theorem fr_MO_half {r1 : Nat} {N1 : Nat} {W : Nat → Int → Prop} {M0 : Mem} (hW : ∀ k j, (W_MO_half r1) k j → W k j)  {M : Mem} (h : Fr W M0 M) : Post (fun r => Fr W M0 r) (t_MO_half M r1 N1) := by
  unfold t_MO_half
  exact (fr_MO_half_L7 (fun k j hk => hW k j hk)  _ _ _ _ h)
def W_MO_text_L69 : Nat → Int → Prop := fun k j => k = 193
theorem fr_MO_text_L69 {x1 : Int} {bk47 : Mem → Int → Option (Mem × Int)} {v1_ : Int} {v3_ : Int} {v4_ : Int} {W : Nat → Int → Prop} {M0 : Mem} (hW : ∀ k j, (W_MO_text_L69) k j → W k j) (hbk47 : ∀ (a0_ : Mem) (a1_ : Int), Fr W M0 a0_ → Post (fun r => Fr W M0 r.1) (bk47 a0_ a1_)) {M : Mem} (h : Fr W M0 M) : Post (fun r => Fr W M0 r.1) (t_MO_text_L69 x1 bk47 M v1_ v3_ v4_) := by
  unfold t_MO_text_L69
  refine post_bind (Q := fun r => Fr W M0 r) (fr_MO_reads (fun k j hk => hW k j hk)  h) (fun q20 h_q20 => ?_)
  exact hbk47 _ _ h_q20
def W_MO_text_L64 : Nat → Int → Prop := fun k j => k = 193
theorem fr_MO_text_L64 {x1 : Int} {bk47 : Mem → Int → Option (Mem × Int)} {v1_ : Int} {v3_ : Int} {W : Nat → Int → Prop} {M0 : Mem} (hW : ∀ k j, (W_MO_text_L64) k j → W k j) (hbk47 : ∀ (a0_ : Mem) (a1_ : Int), Fr W M0 a0_ → Post (fun r => Fr W M0 r.1) (bk47 a0_ a1_)) {M : Mem} (h : Fr W M0 M) : Post (fun r => Fr W M0 r.1) (t_MO_text_L64 x1 bk47 M v1_ v3_) := by
  unfold t_MO_text_L64
  exact (fr_MO_text_L69 (fun k j hk => hW k j hk) hbk47 h)
def W_MO_text_L257 : Nat → Int → Prop := fun k j => (k = 191 ∧ (j = 42 ∨ j = 43 ∨ j = 60 ∨ j = 61)) ∨ k = 198 ∨ k = 199 ∨ k = 200 ∨ k = 201 ∨ k = 202 ∨ k = 203 ∨ k = 204 ∨ k = 205 ∨ k = 206 ∨ (k = 207 ∧ (j = 0)) ∨ (k = 208 ∧ (j = 0)) ∨ (k = 209 ∧ (j = 0)) ∨ (k = 210 ∧ (j = 0)) ∨ (k = 211 ∧ (j = 0)) ∨ k = 212 ∨ k = 213 ∨ k = 214 ∨ k = 215
theorem fr_MO_text_L257 {x1 : Int} {W : Nat → Int → Prop} {M0 : Mem} (hW : ∀ k j, (W_MO_text_L257) k j → W k j)  : ∀ (fu : Nat) (M : Mem) (v1_ : Int), Fr W M0 M → Post (fun r => Fr W M0 r.1) (t_MO_text_L257 x1 fu M v1_) := by
  intro fu
  induction fu with
  | zero => intro M v1_ h; exact post_none
  | succ fu ih =>
    intro M v1_ h
    rw [t_MO_text_L257]
    refine post_ite (fun c_1 => ?_) (fun c_1 => ?_)
    · refine post_bind (Q := fun r => Fr W M0 r) (fr_MO_half (fun k j hk => hW k j (Or.inr (Or.inr (Or.inr (Or.inl hk)))))  h) (fun q56 h_q56 => ?_)
      refine post_bind (Q := fun r => Fr W M0 r) (fr_MO_half (fun k j hk => hW k j (Or.inr (Or.inr (Or.inr (Or.inr (Or.inl hk))))))  h_q56) (fun q58 h_q58 => ?_)
      refine post_bind (Q := fun r => Fr W M0 r) (fr_MO_half (fun k j hk => hW k j (Or.inr (Or.inr (Or.inr (Or.inr (Or.inr (Or.inl hk)))))))  h_q58) (fun q60 h_q60 => ?_)
      refine post_bind (Q := fun r => Fr W M0 r) (fr_MO_half (fun k j hk => hW k j (Or.inr (Or.inr (Or.inr (Or.inr (Or.inr (Or.inr (Or.inl hk))))))))  h_q60) (fun q62 h_q62 => ?_)
      refine post_bind (Q := fun r => Fr W M0 r) (fr_MO_half (fun k j hk => hW k j (Or.inr (Or.inr (Or.inr (Or.inr (Or.inr (Or.inr (Or.inr (Or.inl hk)))))))))  h_q62) (fun q64 h_q64 => ?_)
      refine post_bind (Q := fun r => Fr W M0 r) (fr_MO_half (fun k j hk => hW k j (Or.inr (Or.inr (Or.inr (Or.inr (Or.inr (Or.inr (Or.inr (Or.inr (Or.inl hk))))))))))  h_q64) (fun q66 h_q66 => ?_)
      refine post_bind (Q := fun r => Fr W M0 r) (fr_MO_half (fun k j hk => hW k j (Or.inr (Or.inr (Or.inr (Or.inr (Or.inr (Or.inr (Or.inr (Or.inr (Or.inr (Or.inl hk)))))))))))  h_q66) (fun q68 h_q68 => ?_)
      refine post_let (fun M70 e_M70 => ?_)
      have h_M70 : Fr W M0 M70 := by rw [e_M70]; exact Fr.setI h_q68 (hW _ _ (Or.inl ⟨rfl, (Or.inr (Or.inr (Or.inl rfl)))⟩))
      refine post_let (fun M71 e_M71 => ?_)
      have h_M71 : Fr W M0 M71 := by rw [e_M71]; exact Fr.setI h_M70 (hW _ _ (Or.inl ⟨rfl, (Or.inr (Or.inr (Or.inr rfl)))⟩))
      refine post_let (fun M72 e_M72 => ?_)
      have h_M72 : Fr W M0 M72 := by rw [e_M72]; exact Fr.setI h_M71 (hW _ _ (Or.inl ⟨rfl, (Or.inl rfl)⟩))
      refine post_let (fun M73 e_M73 => ?_)
      have h_M73 : Fr W M0 M73 := by rw [e_M73]; exact Fr.setI h_M72 (hW _ _ (Or.inl ⟨rfl, (Or.inr (Or.inl rfl))⟩))
      refine post_bind (Q := fun r => Fr W M0 r) (fr_MO_begins (fun k j hk => hW k j (Or.elim hk (fun h => (Or.inr (Or.inr (Or.inr (Or.inr (Or.inr (Or.inr (Or.inr (Or.inr (Or.inr (Or.inr (Or.inl ⟨(h).1, (h).2⟩)))))))))))) (fun h => (Or.elim h (fun h => (Or.inr (Or.inr (Or.inr (Or.inr (Or.inr (Or.inr (Or.inr (Or.inr (Or.inr (Or.inr (Or.inr (Or.inl ⟨(h).1, (h).2⟩))))))))))))) (fun h => (Or.elim h (fun h => (Or.inr (Or.inr (Or.inr (Or.inr (Or.inr (Or.inr (Or.inr (Or.inr (Or.inr (Or.inr (Or.inr (Or.inr (Or.inl ⟨(h).1, (h).2⟩)))))))))))))) (fun h => (Or.elim h (fun h => (Or.inr (Or.inr (Or.inr (Or.inr (Or.inr (Or.inr (Or.inr (Or.inr (Or.inr (Or.inr (Or.inr (Or.inr (Or.inr (Or.inl ⟨(h).1, (h).2⟩))))))))))))))) (fun h => (Or.elim h (fun h => (Or.inr (Or.inr (Or.inr (Or.inr (Or.inr (Or.inr (Or.inr (Or.inr (Or.inr (Or.inr (Or.inr (Or.inr (Or.inr (Or.inr (Or.inl ⟨(h).1, (h).2⟩)))))))))))))))) (fun h => (Or.elim h (fun h => (Or.inr (Or.inr (Or.inr (Or.inr (Or.inr (Or.inr (Or.inr (Or.inr (Or.inr (Or.inr (Or.inr (Or.inr (Or.inr (Or.inr (Or.inr (Or.inl h))))))))))))))))) (fun h => (Or.elim h (fun h => (Or.inr (Or.inr (Or.inr (Or.inr (Or.inr (Or.inr (Or.inr (Or.inr (Or.inr (Or.inr (Or.inr (Or.inr (Or.inr (Or.inr (Or.inr (Or.inr (Or.inl h)))))))))))))))))) (fun h => (Or.elim h (fun h => (Or.inr (Or.inr (Or.inr (Or.inr (Or.inr (Or.inr (Or.inr (Or.inr (Or.inr (Or.inr (Or.inr (Or.inr (Or.inr (Or.inr (Or.inr (Or.inr (Or.inr (Or.inl h))))))))))))))))))) (fun h => (Or.inr (Or.inr (Or.inr (Or.inr (Or.inr (Or.inr (Or.inr (Or.inr (Or.inr (Or.inr (Or.inr (Or.inr (Or.inr (Or.inr (Or.inr (Or.inr (Or.inr (Or.inr h)))))))))))))))))))))))))))))))))))  h_M73) (fun q74 h_q74 => ?_)
      exact post_some h_q74
    · refine post_guard (fun c_2 => ?_)
      refine post_guard (fun c_3 => ?_)
      refine post_let (fun M80 e_M80 => ?_)
      have h_M80 : Fr W M0 M80 := by rw [e_M80]; exact Fr.setI h (hW _ _ (Or.inr (Or.inl rfl)))
      refine post_guard (fun c_4 => ?_)
      refine post_guard (fun c_5 => ?_)
      refine post_let (fun M84 e_M84 => ?_)
      have h_M84 : Fr W M0 M84 := by rw [e_M84]; exact Fr.setI h_M80 (hW _ _ (Or.inr (Or.inr (Or.inl rfl))))
      exact (ih _ _ h_M84)
def W_MO_text_L195 : Nat → Int → Prop := fun k j => (k = 191 ∧ (j = 26 ∨ j = 27 ∨ j = 42 ∨ j = 43 ∨ j = 60 ∨ j = 61)) ∨ k = 193 ∨ k = 194 ∨ k = 195 ∨ k = 196 ∨ k = 197 ∨ k = 198 ∨ k = 199 ∨ k = 200 ∨ k = 201 ∨ k = 202 ∨ k = 203 ∨ k = 204 ∨ k = 205 ∨ k = 206 ∨ (k = 207 ∧ (j = 0)) ∨ (k = 208 ∧ (j = 0)) ∨ (k = 209 ∧ (j = 0)) ∨ (k = 210 ∧ (j = 0)) ∨ (k = 211 ∧ (j = 0)) ∨ k = 212 ∨ k = 213 ∨ k = 214 ∨ k = 215
theorem fr_MO_text_L195 {x1 : Int} {W : Nat → Int → Prop} {M0 : Mem} (hW : ∀ k j, (W_MO_text_L195) k j → W k j)  {M : Mem} (h : Fr W M0 M) : Post (fun r => Fr W M0 r.1) (t_MO_text_L195 x1 M) := by
  unfold t_MO_text_L195
  refine post_let (fun M40 e_M40 => ?_)
  have h_M40 : Fr W M0 M40 := by rw [e_M40]; exact Fr.setI h (hW _ _ (Or.inl ⟨rfl, (Or.inl rfl)⟩))
  refine post_let (fun M42 e_M42 => ?_)
  have h_M42 : Fr W M0 M42 := by rw [e_M42]; exact Fr.setI h_M40 (hW _ _ (Or.inl ⟨rfl, (Or.inr (Or.inl rfl))⟩))
  refine post_ite (fun c_1 => ?_) (fun c_1 => ?_)
  · refine post_bind (Q := fun r => Fr W M0 r) (fr_MO_half (fun k j hk => hW k j (Or.inr (Or.inl hk)))  h_M42) (fun q45 h_q45 => ?_)
    refine post_bind (Q := fun r => Fr W M0 r) (fr_MO_half (fun k j hk => hW k j (Or.inr (Or.inr (Or.inl hk))))  h_q45) (fun q47 h_q47 => ?_)
    refine post_bind (Q := fun r => Fr W M0 r) (fr_MO_half (fun k j hk => hW k j (Or.inr (Or.inr (Or.inr (Or.inl hk)))))  h_q47) (fun q49 h_q49 => ?_)
    refine post_bind (Q := fun r => Fr W M0 r) (fr_MO_half (fun k j hk => hW k j (Or.inr (Or.inr (Or.inr (Or.inr (Or.inl hk))))))  h_q49) (fun q51 h_q51 => ?_)
    refine post_bind (Q := fun r => Fr W M0 r) (fr_MO_half (fun k j hk => hW k j (Or.inr (Or.inr (Or.inr (Or.inr (Or.inr (Or.inl hk)))))))  h_q51) (fun q53 h_q53 => ?_)
    exact (fr_MO_text_L257 (fun k j hk => hW k j (Or.elim hk (fun h => (Or.inl ⟨(h).1, (Or.elim (h).2 (fun h => (Or.inr (Or.inr (Or.inl h)))) (fun h => (Or.elim h (fun h => (Or.inr (Or.inr (Or.inr (Or.inl h))))) (fun h => (Or.elim h (fun h => (Or.inr (Or.inr (Or.inr (Or.inr (Or.inl h)))))) (fun h => (Or.inr (Or.inr (Or.inr (Or.inr (Or.inr h)))))))))))⟩)) (fun h => (Or.elim h (fun h => (Or.inr (Or.inr (Or.inr (Or.inr (Or.inr (Or.inr (Or.inl h)))))))) (fun h => (Or.elim h (fun h => (Or.inr (Or.inr (Or.inr (Or.inr (Or.inr (Or.inr (Or.inr (Or.inl h))))))))) (fun h => (Or.elim h (fun h => (Or.inr (Or.inr (Or.inr (Or.inr (Or.inr (Or.inr (Or.inr (Or.inr (Or.inl h)))))))))) (fun h => (Or.elim h (fun h => (Or.inr (Or.inr (Or.inr (Or.inr (Or.inr (Or.inr (Or.inr (Or.inr (Or.inr (Or.inl h))))))))))) (fun h => (Or.elim h (fun h => (Or.inr (Or.inr (Or.inr (Or.inr (Or.inr (Or.inr (Or.inr (Or.inr (Or.inr (Or.inr (Or.inl h)))))))))))) (fun h => (Or.elim h (fun h => (Or.inr (Or.inr (Or.inr (Or.inr (Or.inr (Or.inr (Or.inr (Or.inr (Or.inr (Or.inr (Or.inr (Or.inl h))))))))))))) (fun h => (Or.elim h (fun h => (Or.inr (Or.inr (Or.inr (Or.inr (Or.inr (Or.inr (Or.inr (Or.inr (Or.inr (Or.inr (Or.inr (Or.inr (Or.inl h)))))))))))))) (fun h => (Or.elim h (fun h => (Or.inr (Or.inr (Or.inr (Or.inr (Or.inr (Or.inr (Or.inr (Or.inr (Or.inr (Or.inr (Or.inr (Or.inr (Or.inr (Or.inl h))))))))))))))) (fun h => (Or.elim h (fun h => (Or.inr (Or.inr (Or.inr (Or.inr (Or.inr (Or.inr (Or.inr (Or.inr (Or.inr (Or.inr (Or.inr (Or.inr (Or.inr (Or.inr (Or.inl h)))))))))))))))) (fun h => (Or.elim h (fun h => (Or.inr (Or.inr (Or.inr (Or.inr (Or.inr (Or.inr (Or.inr (Or.inr (Or.inr (Or.inr (Or.inr (Or.inr (Or.inr (Or.inr (Or.inr (Or.inl ⟨(h).1, (h).2⟩))))))))))))))))) (fun h => (Or.elim h (fun h => (Or.inr (Or.inr (Or.inr (Or.inr (Or.inr (Or.inr (Or.inr (Or.inr (Or.inr (Or.inr (Or.inr (Or.inr (Or.inr (Or.inr (Or.inr (Or.inr (Or.inl ⟨(h).1, (h).2⟩)))))))))))))))))) (fun h => (Or.elim h (fun h => (Or.inr (Or.inr (Or.inr (Or.inr (Or.inr (Or.inr (Or.inr (Or.inr (Or.inr (Or.inr (Or.inr (Or.inr (Or.inr (Or.inr (Or.inr (Or.inr (Or.inr (Or.inl ⟨(h).1, (h).2⟩))))))))))))))))))) (fun h => (Or.elim h (fun h => (Or.inr (Or.inr (Or.inr (Or.inr (Or.inr (Or.inr (Or.inr (Or.inr (Or.inr (Or.inr (Or.inr (Or.inr (Or.inr (Or.inr (Or.inr (Or.inr (Or.inr (Or.inr (Or.inl ⟨(h).1, (h).2⟩)))))))))))))))))))) (fun h => (Or.elim h (fun h => (Or.inr (Or.inr (Or.inr (Or.inr (Or.inr (Or.inr (Or.inr (Or.inr (Or.inr (Or.inr (Or.inr (Or.inr (Or.inr (Or.inr (Or.inr (Or.inr (Or.inr (Or.inr (Or.inr (Or.inl ⟨(h).1, (h).2⟩))))))))))))))))))))) (fun h => (Or.elim h (fun h => (Or.inr (Or.inr (Or.inr (Or.inr (Or.inr (Or.inr (Or.inr (Or.inr (Or.inr (Or.inr (Or.inr (Or.inr (Or.inr (Or.inr (Or.inr (Or.inr (Or.inr (Or.inr (Or.inr (Or.inr (Or.inl h)))))))))))))))))))))) (fun h => (Or.elim h (fun h => (Or.inr (Or.inr (Or.inr (Or.inr (Or.inr (Or.inr (Or.inr (Or.inr (Or.inr (Or.inr (Or.inr (Or.inr (Or.inr (Or.inr (Or.inr (Or.inr (Or.inr (Or.inr (Or.inr (Or.inr (Or.inr (Or.inl h))))))))))))))))))))))) (fun h => (Or.elim h (fun h => (Or.inr (Or.inr (Or.inr (Or.inr (Or.inr (Or.inr (Or.inr (Or.inr (Or.inr (Or.inr (Or.inr (Or.inr (Or.inr (Or.inr (Or.inr (Or.inr (Or.inr (Or.inr (Or.inr (Or.inr (Or.inr (Or.inr (Or.inl h)))))))))))))))))))))))) (fun h => (Or.inr (Or.inr (Or.inr (Or.inr (Or.inr (Or.inr (Or.inr (Or.inr (Or.inr (Or.inr (Or.inr (Or.inr (Or.inr (Or.inr (Or.inr (Or.inr (Or.inr (Or.inr (Or.inr (Or.inr (Or.inr (Or.inr (Or.inr h))))))))))))))))))))))))))))))))))))))))))))))))))))))))))))  _ _ _ h_q53)
  · exact post_some h_M42
def W_MO_text_L173 : Nat → Int → Prop := fun k j => (k = 191 ∧ (j = 17 ∨ j = 18 ∨ j = 20 ∨ j = 21 ∨ j = 22 ∨ j = 23 ∨ j = 24 ∨ j = 25 ∨ j = 26 ∨ j = 27 ∨ j = 28 ∨ j = 29 ∨ j = 42 ∨ j = 43 ∨ j = 60 ∨ j = 61)) ∨ k = 193 ∨ k = 194 ∨ k = 195 ∨ k = 196 ∨ k = 197 ∨ k = 198 ∨ k = 199 ∨ k = 200 ∨ k = 201 ∨ k = 202 ∨ k = 203 ∨ k = 204 ∨ k = 205 ∨ k = 206 ∨ (k = 207 ∧ (j = 0)) ∨ (k = 208 ∧ (j = 0)) ∨ (k = 209 ∧ (j = 0)) ∨ (k = 210 ∧ (j = 0)) ∨ (k = 211 ∧ (j = 0)) ∨ k = 212 ∨ k = 213 ∨ k = 214 ∨ k = 215
theorem fr_MO_text_L173 {x1 : Int} {W : Nat → Int → Prop} {M0 : Mem} (hW : ∀ k j, (W_MO_text_L173) k j → W k j)  : ∀ (fu : Nat) (M : Mem) , Fr W M0 M → Post (fun r => Fr W M0 r.1) (t_MO_text_L173 x1 fu M ) := by
  intro fu
  induction fu with
  | zero => intro M  h; exact post_none
  | succ fu ih =>
    intro M  h
    rw [t_MO_text_L173]
    refine post_ite (fun c_1 => ?_) (fun c_1 => ?_)
    · refine post_ite (fun c_2 => ?_) (fun c_2 => ?_)
      · exact (fr_MO_text_L195 (fun k j hk => hW k j (Or.elim hk (fun h => (Or.inl ⟨(h).1, (Or.elim (h).2 (fun h => (Or.inr (Or.inr (Or.inr (Or.inr (Or.inr (Or.inr (Or.inr (Or.inr (Or.inl h)))))))))) (fun h => (Or.elim h (fun h => (Or.inr (Or.inr (Or.inr (Or.inr (Or.inr (Or.inr (Or.inr (Or.inr (Or.inr (Or.inl h))))))))))) (fun h => (Or.elim h (fun h => (Or.inr (Or.inr (Or.inr (Or.inr (Or.inr (Or.inr (Or.inr (Or.inr (Or.inr (Or.inr (Or.inr (Or.inr (Or.inl h)))))))))))))) (fun h => (Or.elim h (fun h => (Or.inr (Or.inr (Or.inr (Or.inr (Or.inr (Or.inr (Or.inr (Or.inr (Or.inr (Or.inr (Or.inr (Or.inr (Or.inr (Or.inl h))))))))))))))) (fun h => (Or.elim h (fun h => (Or.inr (Or.inr (Or.inr (Or.inr (Or.inr (Or.inr (Or.inr (Or.inr (Or.inr (Or.inr (Or.inr (Or.inr (Or.inr (Or.inr (Or.inl h)))))))))))))))) (fun h => (Or.inr (Or.inr (Or.inr (Or.inr (Or.inr (Or.inr (Or.inr (Or.inr (Or.inr (Or.inr (Or.inr (Or.inr (Or.inr (Or.inr (Or.inr h)))))))))))))))))))))))))⟩)) (fun h => (Or.elim h (fun h => (Or.inr (Or.inl h))) (fun h => (Or.elim h (fun h => (Or.inr (Or.inr (Or.inl h)))) (fun h => (Or.elim h (fun h => (Or.inr (Or.inr (Or.inr (Or.inl h))))) (fun h => (Or.elim h (fun h => (Or.inr (Or.inr (Or.inr (Or.inr (Or.inl h)))))) (fun h => (Or.elim h (fun h => (Or.inr (Or.inr (Or.inr (Or.inr (Or.inr (Or.inl h))))))) (fun h => (Or.elim h (fun h => (Or.inr (Or.inr (Or.inr (Or.inr (Or.inr (Or.inr (Or.inl h)))))))) (fun h => (Or.elim h (fun h => (Or.inr (Or.inr (Or.inr (Or.inr (Or.inr (Or.inr (Or.inr (Or.inl h))))))))) (fun h => (Or.elim h (fun h => (Or.inr (Or.inr (Or.inr (Or.inr (Or.inr (Or.inr (Or.inr (Or.inr (Or.inl h)))))))))) (fun h => (Or.elim h (fun h => (Or.inr (Or.inr (Or.inr (Or.inr (Or.inr (Or.inr (Or.inr (Or.inr (Or.inr (Or.inl h))))))))))) (fun h => (Or.elim h (fun h => (Or.inr (Or.inr (Or.inr (Or.inr (Or.inr (Or.inr (Or.inr (Or.inr (Or.inr (Or.inr (Or.inl h)))))))))))) (fun h => (Or.elim h (fun h => (Or.inr (Or.inr (Or.inr (Or.inr (Or.inr (Or.inr (Or.inr (Or.inr (Or.inr (Or.inr (Or.inr (Or.inl h))))))))))))) (fun h => (Or.elim h (fun h => (Or.inr (Or.inr (Or.inr (Or.inr (Or.inr (Or.inr (Or.inr (Or.inr (Or.inr (Or.inr (Or.inr (Or.inr (Or.inl h)))))))))))))) (fun h => (Or.elim h (fun h => (Or.inr (Or.inr (Or.inr (Or.inr (Or.inr (Or.inr (Or.inr (Or.inr (Or.inr (Or.inr (Or.inr (Or.inr (Or.inr (Or.inl h))))))))))))))) (fun h => (Or.elim h (fun h => (Or.inr (Or.inr (Or.inr (Or.inr (Or.inr (Or.inr (Or.inr (Or.inr (Or.inr (Or.inr (Or.inr (Or.inr (Or.inr (Or.inr (Or.inl h)))))))))))))))) (fun h => (Or.elim h (fun h => (Or.inr (Or.inr (Or.inr (Or.inr (Or.inr (Or.inr (Or.inr (Or.inr (Or.inr (Or.inr (Or.inr (Or.inr (Or.inr (Or.inr (Or.inr (Or.inl ⟨(h).1, (h).2⟩))))))))))))))))) (fun h => (Or.elim h (fun h => (Or.inr (Or.inr (Or.inr (Or.inr (Or.inr (Or.inr (Or.inr (Or.inr (Or.inr (Or.inr (Or.inr (Or.inr (Or.inr (Or.inr (Or.inr (Or.inr (Or.inl ⟨(h).1, (h).2⟩)))))))))))))))))) (fun h => (Or.elim h (fun h => (Or.inr (Or.inr (Or.inr (Or.inr (Or.inr (Or.inr (Or.inr (Or.inr (Or.inr (Or.inr (Or.inr (Or.inr (Or.inr (Or.inr (Or.inr (Or.inr (Or.inr (Or.inl ⟨(h).1, (h).2⟩))))))))))))))))))) (fun h => (Or.elim h (fun h => (Or.inr (Or.inr (Or.inr (Or.inr (Or.inr (Or.inr (Or.inr (Or.inr (Or.inr (Or.inr (Or.inr (Or.inr (Or.inr (Or.inr (Or.inr (Or.inr (Or.inr (Or.inr (Or.inl ⟨(h).1, (h).2⟩)))))))))))))))))))) (fun h => (Or.elim h (fun h => (Or.inr (Or.inr (Or.inr (Or.inr (Or.inr (Or.inr (Or.inr (Or.inr (Or.inr (Or.inr (Or.inr (Or.inr (Or.inr (Or.inr (Or.inr (Or.inr (Or.inr (Or.inr (Or.inr (Or.inl ⟨(h).1, (h).2⟩))))))))))))))))))))) (fun h => (Or.elim h (fun h => (Or.inr (Or.inr (Or.inr (Or.inr (Or.inr (Or.inr (Or.inr (Or.inr (Or.inr (Or.inr (Or.inr (Or.inr (Or.inr (Or.inr (Or.inr (Or.inr (Or.inr (Or.inr (Or.inr (Or.inr (Or.inl h)))))))))))))))))))))) (fun h => (Or.elim h (fun h => (Or.inr (Or.inr (Or.inr (Or.inr (Or.inr (Or.inr (Or.inr (Or.inr (Or.inr (Or.inr (Or.inr (Or.inr (Or.inr (Or.inr (Or.inr (Or.inr (Or.inr (Or.inr (Or.inr (Or.inr (Or.inr (Or.inl h))))))))))))))))))))))) (fun h => (Or.elim h (fun h => (Or.inr (Or.inr (Or.inr (Or.inr (Or.inr (Or.inr (Or.inr (Or.inr (Or.inr (Or.inr (Or.inr (Or.inr (Or.inr (Or.inr (Or.inr (Or.inr (Or.inr (Or.inr (Or.inr (Or.inr (Or.inr (Or.inr (Or.inl h)))))))))))))))))))))))) (fun h => (Or.inr (Or.inr (Or.inr (Or.inr (Or.inr (Or.inr (Or.inr (Or.inr (Or.inr (Or.inr (Or.inr (Or.inr (Or.inr (Or.inr (Or.inr (Or.inr (Or.inr (Or.inr (Or.inr (Or.inr (Or.inr (Or.inr (Or.inr h))))))))))))))))))))))))))))))))))))))))))))))))))))))))))))))))))))))  h)
      · refine post_bind (Q := fun r => Fr W M0 r) (fr_MO_line (fun k j hk => hW k j (Or.elim hk (fun h => (Or.inl ⟨(h).1, (Or.elim (h).2 (fun h => (Or.inl h)) (fun h => (Or.elim h (fun h => (Or.inr (Or.inl h))) (fun h => (Or.elim h (fun h => (Or.inr (Or.inr (Or.inl h)))) (fun h => (Or.elim h (fun h => (Or.inr (Or.inr (Or.inr (Or.inl h))))) (fun h => (Or.elim h (fun h => (Or.inr (Or.inr (Or.inr (Or.inr (Or.inl h)))))) (fun h => (Or.elim h (fun h => (Or.inr (Or.inr (Or.inr (Or.inr (Or.inr (Or.inl h))))))) (fun h => (Or.elim h (fun h => (Or.inr (Or.inr (Or.inr (Or.inr (Or.inr (Or.inr (Or.inl h)))))))) (fun h => (Or.elim h (fun h => (Or.inr (Or.inr (Or.inr (Or.inr (Or.inr (Or.inr (Or.inr (Or.inl h))))))))) (fun h => (Or.elim h (fun h => (Or.inr (Or.inr (Or.inr (Or.inr (Or.inr (Or.inr (Or.inr (Or.inr (Or.inr (Or.inr (Or.inl h)))))))))))) (fun h => (Or.inr (Or.inr (Or.inr (Or.inr (Or.inr (Or.inr (Or.inr (Or.inr (Or.inr (Or.inr (Or.inr (Or.inl h))))))))))))))))))))))))))))))⟩)) (fun h => (Or.elim h (fun h => (Or.inr (Or.inl h))) (fun h => (Or.elim h (fun h => (Or.inr (Or.inr (Or.inl h)))) (fun h => (Or.elim h (fun h => (Or.inr (Or.inr (Or.inr (Or.inl h))))) (fun h => (Or.elim h (fun h => (Or.inr (Or.inr (Or.inr (Or.inr (Or.inl h)))))) (fun h => (Or.elim h (fun h => (Or.inr (Or.inr (Or.inr (Or.inr (Or.inr (Or.inl h))))))) (fun h => (Or.elim h (fun h => (Or.inr (Or.inr (Or.inr (Or.inr (Or.inr (Or.inr (Or.inl h)))))))) (fun h => (Or.elim h (fun h => (Or.inr (Or.inr (Or.inr (Or.inr (Or.inr (Or.inr (Or.inr (Or.inl h))))))))) (fun h => (Or.elim h (fun h => (Or.inr (Or.inr (Or.inr (Or.inr (Or.inr (Or.inr (Or.inr (Or.inr (Or.inl h)))))))))) (fun h => (Or.elim h (fun h => (Or.inr (Or.inr (Or.inr (Or.inr (Or.inr (Or.inr (Or.inr (Or.inr (Or.inr (Or.inl h))))))))))) (fun h => (Or.elim h (fun h => (Or.inr (Or.inr (Or.inr (Or.inr (Or.inr (Or.inr (Or.inr (Or.inr (Or.inr (Or.inr (Or.inl h)))))))))))) (fun h => (Or.elim h (fun h => (Or.inr (Or.inr (Or.inr (Or.inr (Or.inr (Or.inr (Or.inr (Or.inr (Or.inr (Or.inr (Or.inr (Or.inl h))))))))))))) (fun h => (Or.elim h (fun h => (Or.inr (Or.inr (Or.inr (Or.inr (Or.inr (Or.inr (Or.inr (Or.inr (Or.inr (Or.inr (Or.inr (Or.inr (Or.inl h)))))))))))))) (fun h => (Or.elim h (fun h => (Or.inr (Or.inr (Or.inr (Or.inr (Or.inr (Or.inr (Or.inr (Or.inr (Or.inr (Or.inr (Or.inr (Or.inr (Or.inr (Or.inl h))))))))))))))) (fun h => (Or.inr (Or.inr (Or.inr (Or.inr (Or.inr (Or.inr (Or.inr (Or.inr (Or.inr (Or.inr (Or.inr (Or.inr (Or.inr (Or.inr (Or.inl h))))))))))))))))))))))))))))))))))))))))))))  h) (fun q37 h_q37 => ?_)
        exact (ih _ h_q37)
    · exact (fr_MO_text_L195 (fun k j hk => hW k j (Or.elim hk (fun h => (Or.inl ⟨(h).1, (Or.elim (h).2 (fun h => (Or.inr (Or.inr (Or.inr (Or.inr (Or.inr (Or.inr (Or.inr (Or.inr (Or.inl h)))))))))) (fun h => (Or.elim h (fun h => (Or.inr (Or.inr (Or.inr (Or.inr (Or.inr (Or.inr (Or.inr (Or.inr (Or.inr (Or.inl h))))))))))) (fun h => (Or.elim h (fun h => (Or.inr (Or.inr (Or.inr (Or.inr (Or.inr (Or.inr (Or.inr (Or.inr (Or.inr (Or.inr (Or.inr (Or.inr (Or.inl h)))))))))))))) (fun h => (Or.elim h (fun h => (Or.inr (Or.inr (Or.inr (Or.inr (Or.inr (Or.inr (Or.inr (Or.inr (Or.inr (Or.inr (Or.inr (Or.inr (Or.inr (Or.inl h))))))))))))))) (fun h => (Or.elim h (fun h => (Or.inr (Or.inr (Or.inr (Or.inr (Or.inr (Or.inr (Or.inr (Or.inr (Or.inr (Or.inr (Or.inr (Or.inr (Or.inr (Or.inr (Or.inl h)))))))))))))))) (fun h => (Or.inr (Or.inr (Or.inr (Or.inr (Or.inr (Or.inr (Or.inr (Or.inr (Or.inr (Or.inr (Or.inr (Or.inr (Or.inr (Or.inr (Or.inr h)))))))))))))))))))))))))⟩)) (fun h => (Or.elim h (fun h => (Or.inr (Or.inl h))) (fun h => (Or.elim h (fun h => (Or.inr (Or.inr (Or.inl h)))) (fun h => (Or.elim h (fun h => (Or.inr (Or.inr (Or.inr (Or.inl h))))) (fun h => (Or.elim h (fun h => (Or.inr (Or.inr (Or.inr (Or.inr (Or.inl h)))))) (fun h => (Or.elim h (fun h => (Or.inr (Or.inr (Or.inr (Or.inr (Or.inr (Or.inl h))))))) (fun h => (Or.elim h (fun h => (Or.inr (Or.inr (Or.inr (Or.inr (Or.inr (Or.inr (Or.inl h)))))))) (fun h => (Or.elim h (fun h => (Or.inr (Or.inr (Or.inr (Or.inr (Or.inr (Or.inr (Or.inr (Or.inl h))))))))) (fun h => (Or.elim h (fun h => (Or.inr (Or.inr (Or.inr (Or.inr (Or.inr (Or.inr (Or.inr (Or.inr (Or.inl h)))))))))) (fun h => (Or.elim h (fun h => (Or.inr (Or.inr (Or.inr (Or.inr (Or.inr (Or.inr (Or.inr (Or.inr (Or.inr (Or.inl h))))))))))) (fun h => (Or.elim h (fun h => (Or.inr (Or.inr (Or.inr (Or.inr (Or.inr (Or.inr (Or.inr (Or.inr (Or.inr (Or.inr (Or.inl h)))))))))))) (fun h => (Or.elim h (fun h => (Or.inr (Or.inr (Or.inr (Or.inr (Or.inr (Or.inr (Or.inr (Or.inr (Or.inr (Or.inr (Or.inr (Or.inl h))))))))))))) (fun h => (Or.elim h (fun h => (Or.inr (Or.inr (Or.inr (Or.inr (Or.inr (Or.inr (Or.inr (Or.inr (Or.inr (Or.inr (Or.inr (Or.inr (Or.inl h)))))))))))))) (fun h => (Or.elim h (fun h => (Or.inr (Or.inr (Or.inr (Or.inr (Or.inr (Or.inr (Or.inr (Or.inr (Or.inr (Or.inr (Or.inr (Or.inr (Or.inr (Or.inl h))))))))))))))) (fun h => (Or.elim h (fun h => (Or.inr (Or.inr (Or.inr (Or.inr (Or.inr (Or.inr (Or.inr (Or.inr (Or.inr (Or.inr (Or.inr (Or.inr (Or.inr (Or.inr (Or.inl h)))))))))))))))) (fun h => (Or.elim h (fun h => (Or.inr (Or.inr (Or.inr (Or.inr (Or.inr (Or.inr (Or.inr (Or.inr (Or.inr (Or.inr (Or.inr (Or.inr (Or.inr (Or.inr (Or.inr (Or.inl ⟨(h).1, (h).2⟩))))))))))))))))) (fun h => (Or.elim h (fun h => (Or.inr (Or.inr (Or.inr (Or.inr (Or.inr (Or.inr (Or.inr (Or.inr (Or.inr (Or.inr (Or.inr (Or.inr (Or.inr (Or.inr (Or.inr (Or.inr (Or.inl ⟨(h).1, (h).2⟩)))))))))))))))))) (fun h => (Or.elim h (fun h => (Or.inr (Or.inr (Or.inr (Or.inr (Or.inr (Or.inr (Or.inr (Or.inr (Or.inr (Or.inr (Or.inr (Or.inr (Or.inr (Or.inr (Or.inr (Or.inr (Or.inr (Or.inl ⟨(h).1, (h).2⟩))))))))))))))))))) (fun h => (Or.elim h (fun h => (Or.inr (Or.inr (Or.inr (Or.inr (Or.inr (Or.inr (Or.inr (Or.inr (Or.inr (Or.inr (Or.inr (Or.inr (Or.inr (Or.inr (Or.inr (Or.inr (Or.inr (Or.inr (Or.inl ⟨(h).1, (h).2⟩)))))))))))))))))))) (fun h => (Or.elim h (fun h => (Or.inr (Or.inr (Or.inr (Or.inr (Or.inr (Or.inr (Or.inr (Or.inr (Or.inr (Or.inr (Or.inr (Or.inr (Or.inr (Or.inr (Or.inr (Or.inr (Or.inr (Or.inr (Or.inr (Or.inl ⟨(h).1, (h).2⟩))))))))))))))))))))) (fun h => (Or.elim h (fun h => (Or.inr (Or.inr (Or.inr (Or.inr (Or.inr (Or.inr (Or.inr (Or.inr (Or.inr (Or.inr (Or.inr (Or.inr (Or.inr (Or.inr (Or.inr (Or.inr (Or.inr (Or.inr (Or.inr (Or.inr (Or.inl h)))))))))))))))))))))) (fun h => (Or.elim h (fun h => (Or.inr (Or.inr (Or.inr (Or.inr (Or.inr (Or.inr (Or.inr (Or.inr (Or.inr (Or.inr (Or.inr (Or.inr (Or.inr (Or.inr (Or.inr (Or.inr (Or.inr (Or.inr (Or.inr (Or.inr (Or.inr (Or.inl h))))))))))))))))))))))) (fun h => (Or.elim h (fun h => (Or.inr (Or.inr (Or.inr (Or.inr (Or.inr (Or.inr (Or.inr (Or.inr (Or.inr (Or.inr (Or.inr (Or.inr (Or.inr (Or.inr (Or.inr (Or.inr (Or.inr (Or.inr (Or.inr (Or.inr (Or.inr (Or.inr (Or.inl h)))))))))))))))))))))))) (fun h => (Or.inr (Or.inr (Or.inr (Or.inr (Or.inr (Or.inr (Or.inr (Or.inr (Or.inr (Or.inr (Or.inr (Or.inr (Or.inr (Or.inr (Or.inr (Or.inr (Or.inr (Or.inr (Or.inr (Or.inr (Or.inr (Or.inr (Or.inr h))))))))))))))))))))))))))))))))))))))))))))))))))))))))))))))))))))))  h)
def W_MO_text_L124 : Nat → Int → Prop := fun k j => (k = 191 ∧ (j = 17 ∨ j = 18 ∨ j = 20 ∨ j = 21 ∨ j = 22 ∨ j = 23 ∨ j = 24 ∨ j = 25 ∨ j = 26 ∨ j = 27 ∨ j = 28 ∨ j = 29 ∨ j = 42 ∨ j = 43 ∨ j = 60 ∨ j = 61)) ∨ k = 193 ∨ k = 194 ∨ k = 195 ∨ k = 196 ∨ k = 197 ∨ k = 198 ∨ k = 199 ∨ k = 200 ∨ k = 201 ∨ k = 202 ∨ k = 203 ∨ k = 204 ∨ k = 205 ∨ k = 206 ∨ (k = 207 ∧ (j = 0)) ∨ (k = 208 ∧ (j = 0)) ∨ (k = 209 ∧ (j = 0)) ∨ (k = 210 ∧ (j = 0)) ∨ (k = 211 ∧ (j = 0)) ∨ k = 212 ∨ k = 213 ∨ k = 214 ∨ k = 215
theorem fr_MO_text_L124 {x1 : Int} {W : Nat → Int → Prop} {M0 : Mem} (hW : ∀ k j, (W_MO_text_L124) k j → W k j)  : ∀ (fu : Nat) (M : Mem) (v1_ : Int), Fr W M0 M → Post (fun r => Fr W M0 r.1) (t_MO_text_L124 x1 fu M v1_) := by
  intro fu
  induction fu with
  | zero => intro M v1_ h; exact post_none
  | succ fu ih =>
    intro M v1_ h
    rw [t_MO_text_L124]
    refine post_ite (fun c_1 => ?_) (fun c_1 => ?_)
    · refine post_let (fun M23 e_M23 => ?_)
      have h_M23 : Fr W M0 M23 := by rw [e_M23]; exact Fr.setI h (hW _ _ (Or.inl ⟨rfl, (Or.inl rfl)⟩))
      refine post_let (fun M24 e_M24 => ?_)
      have h_M24 : Fr W M0 M24 := by rw [e_M24]; exact Fr.setI h_M23 (hW _ _ (Or.inl ⟨rfl, (Or.inr (Or.inl rfl))⟩))
      refine post_let (fun M25 e_M25 => ?_)
      have h_M25 : Fr W M0 M25 := by rw [e_M25]; exact Fr.setI h_M24 (hW _ _ (Or.inl ⟨rfl, (Or.inr (Or.inr (Or.inr (Or.inr (Or.inr (Or.inr (Or.inr (Or.inr (Or.inr (Or.inr (Or.inl rfl)))))))))))⟩))
      refine post_let (fun M26 e_M26 => ?_)
      have h_M26 : Fr W M0 M26 := by rw [e_M26]; exact Fr.setI h_M25 (hW _ _ (Or.inl ⟨rfl, (Or.inr (Or.inr (Or.inr (Or.inr (Or.inr (Or.inr (Or.inr (Or.inr (Or.inr (Or.inr (Or.inr (Or.inl rfl))))))))))))⟩))
      refine post_bind (Q := fun r => Fr W M0 r) (fr_MO_token (fun k j hk => hW k j (Or.inl ⟨(hk).1, (Or.elim (hk).2 (fun h => (Or.inr (Or.inr (Or.inl h)))) (fun h => (Or.elim h (fun h => (Or.inr (Or.inr (Or.inr (Or.inl h))))) (fun h => (Or.elim h (fun h => (Or.inr (Or.inr (Or.inr (Or.inr (Or.inl h)))))) (fun h => (Or.inr (Or.inr (Or.inr (Or.inr (Or.inr (Or.inl h))))))))))))⟩))  h_M26) (fun q27 h_q27 => ?_)
      exact (fr_MO_text_L173 (fun k j hk => hW k j (Or.elim hk (fun h => (Or.inl ⟨(h).1, (Or.elim (h).2 (fun h => (Or.inl h)) (fun h => (Or.elim h (fun h => (Or.inr (Or.inl h))) (fun h => (Or.elim h (fun h => (Or.inr (Or.inr (Or.inl h)))) (fun h => (Or.elim h (fun h => (Or.inr (Or.inr (Or.inr (Or.inl h))))) (fun h => (Or.elim h (fun h => (Or.inr (Or.inr (Or.inr (Or.inr (Or.inl h)))))) (fun h => (Or.elim h (fun h => (Or.inr (Or.inr (Or.inr (Or.inr (Or.inr (Or.inl h))))))) (fun h => (Or.elim h (fun h => (Or.inr (Or.inr (Or.inr (Or.inr (Or.inr (Or.inr (Or.inl h)))))))) (fun h => (Or.elim h (fun h => (Or.inr (Or.inr (Or.inr (Or.inr (Or.inr (Or.inr (Or.inr (Or.inl h))))))))) (fun h => (Or.elim h (fun h => (Or.inr (Or.inr (Or.inr (Or.inr (Or.inr (Or.inr (Or.inr (Or.inr (Or.inl h)))))))))) (fun h => (Or.elim h (fun h => (Or.inr (Or.inr (Or.inr (Or.inr (Or.inr (Or.inr (Or.inr (Or.inr (Or.inr (Or.inl h))))))))))) (fun h => (Or.elim h (fun h => (Or.inr (Or.inr (Or.inr (Or.inr (Or.inr (Or.inr (Or.inr (Or.inr (Or.inr (Or.inr (Or.inl h)))))))))))) (fun h => (Or.elim h (fun h => (Or.inr (Or.inr (Or.inr (Or.inr (Or.inr (Or.inr (Or.inr (Or.inr (Or.inr (Or.inr (Or.inr (Or.inl h))))))))))))) (fun h => (Or.elim h (fun h => (Or.inr (Or.inr (Or.inr (Or.inr (Or.inr (Or.inr (Or.inr (Or.inr (Or.inr (Or.inr (Or.inr (Or.inr (Or.inl h)))))))))))))) (fun h => (Or.elim h (fun h => (Or.inr (Or.inr (Or.inr (Or.inr (Or.inr (Or.inr (Or.inr (Or.inr (Or.inr (Or.inr (Or.inr (Or.inr (Or.inr (Or.inl h))))))))))))))) (fun h => (Or.elim h (fun h => (Or.inr (Or.inr (Or.inr (Or.inr (Or.inr (Or.inr (Or.inr (Or.inr (Or.inr (Or.inr (Or.inr (Or.inr (Or.inr (Or.inr (Or.inl h)))))))))))))))) (fun h => (Or.inr (Or.inr (Or.inr (Or.inr (Or.inr (Or.inr (Or.inr (Or.inr (Or.inr (Or.inr (Or.inr (Or.inr (Or.inr (Or.inr (Or.inr h)))))))))))))))))))))))))))))))))))))))))))))⟩)) (fun h => (Or.elim h (fun h => (Or.inr (Or.inl h))) (fun h => (Or.elim h (fun h => (Or.inr (Or.inr (Or.inl h)))) (fun h => (Or.elim h (fun h => (Or.inr (Or.inr (Or.inr (Or.inl h))))) (fun h => (Or.elim h (fun h => (Or.inr (Or.inr (Or.inr (Or.inr (Or.inl h)))))) (fun h => (Or.elim h (fun h => (Or.inr (Or.inr (Or.inr (Or.inr (Or.inr (Or.inl h))))))) (fun h => (Or.elim h (fun h => (Or.inr (Or.inr (Or.inr (Or.inr (Or.inr (Or.inr (Or.inl h)))))))) (fun h => (Or.elim h (fun h => (Or.inr (Or.inr (Or.inr (Or.inr (Or.inr (Or.inr (Or.inr (Or.inl h))))))))) (fun h => (Or.elim h (fun h => (Or.inr (Or.inr (Or.inr (Or.inr (Or.inr (Or.inr (Or.inr (Or.inr (Or.inl h)))))))))) (fun h => (Or.elim h (fun h => (Or.inr (Or.inr (Or.inr (Or.inr (Or.inr (Or.inr (Or.inr (Or.inr (Or.inr (Or.inl h))))))))))) (fun h => (Or.elim h (fun h => (Or.inr (Or.inr (Or.inr (Or.inr (Or.inr (Or.inr (Or.inr (Or.inr (Or.inr (Or.inr (Or.inl h)))))))))))) (fun h => (Or.elim h (fun h => (Or.inr (Or.inr (Or.inr (Or.inr (Or.inr (Or.inr (Or.inr (Or.inr (Or.inr (Or.inr (Or.inr (Or.inl h))))))))))))) (fun h => (Or.elim h (fun h => (Or.inr (Or.inr (Or.inr (Or.inr (Or.inr (Or.inr (Or.inr (Or.inr (Or.inr (Or.inr (Or.inr (Or.inr (Or.inl h)))))))))))))) (fun h => (Or.elim h (fun h => (Or.inr (Or.inr (Or.inr (Or.inr (Or.inr (Or.inr (Or.inr (Or.inr (Or.inr (Or.inr (Or.inr (Or.inr (Or.inr (Or.inl h))))))))))))))) (fun h => (Or.elim h (fun h => (Or.inr (Or.inr (Or.inr (Or.inr (Or.inr (Or.inr (Or.inr (Or.inr (Or.inr (Or.inr (Or.inr (Or.inr (Or.inr (Or.inr (Or.inl h)))))))))))))))) (fun h => (Or.elim h (fun h => (Or.inr (Or.inr (Or.inr (Or.inr (Or.inr (Or.inr (Or.inr (Or.inr (Or.inr (Or.inr (Or.inr (Or.inr (Or.inr (Or.inr (Or.inr (Or.inl ⟨(h).1, (h).2⟩))))))))))))))))) (fun h => (Or.elim h (fun h => (Or.inr (Or.inr (Or.inr (Or.inr (Or.inr (Or.inr (Or.inr (Or.inr (Or.inr (Or.inr (Or.inr (Or.inr (Or.inr (Or.inr (Or.inr (Or.inr (Or.inl ⟨(h).1, (h).2⟩)))))))))))))))))) (fun h => (Or.elim h (fun h => (Or.inr (Or.inr (Or.inr (Or.inr (Or.inr (Or.inr (Or.inr (Or.inr (Or.inr (Or.inr (Or.inr (Or.inr (Or.inr (Or.inr (Or.inr (Or.inr (Or.inr (Or.inl ⟨(h).1, (h).2⟩))))))))))))))))))) (fun h => (Or.elim h (fun h => (Or.inr (Or.inr (Or.inr (Or.inr (Or.inr (Or.inr (Or.inr (Or.inr (Or.inr (Or.inr (Or.inr (Or.inr (Or.inr (Or.inr (Or.inr (Or.inr (Or.inr (Or.inr (Or.inl ⟨(h).1, (h).2⟩)))))))))))))))))))) (fun h => (Or.elim h (fun h => (Or.inr (Or.inr (Or.inr (Or.inr (Or.inr (Or.inr (Or.inr (Or.inr (Or.inr (Or.inr (Or.inr (Or.inr (Or.inr (Or.inr (Or.inr (Or.inr (Or.inr (Or.inr (Or.inr (Or.inl ⟨(h).1, (h).2⟩))))))))))))))))))))) (fun h => (Or.elim h (fun h => (Or.inr (Or.inr (Or.inr (Or.inr (Or.inr (Or.inr (Or.inr (Or.inr (Or.inr (Or.inr (Or.inr (Or.inr (Or.inr (Or.inr (Or.inr (Or.inr (Or.inr (Or.inr (Or.inr (Or.inr (Or.inl h)))))))))))))))))))))) (fun h => (Or.elim h (fun h => (Or.inr (Or.inr (Or.inr (Or.inr (Or.inr (Or.inr (Or.inr (Or.inr (Or.inr (Or.inr (Or.inr (Or.inr (Or.inr (Or.inr (Or.inr (Or.inr (Or.inr (Or.inr (Or.inr (Or.inr (Or.inr (Or.inl h))))))))))))))))))))))) (fun h => (Or.elim h (fun h => (Or.inr (Or.inr (Or.inr (Or.inr (Or.inr (Or.inr (Or.inr (Or.inr (Or.inr (Or.inr (Or.inr (Or.inr (Or.inr (Or.inr (Or.inr (Or.inr (Or.inr (Or.inr (Or.inr (Or.inr (Or.inr (Or.inr (Or.inl h)))))))))))))))))))))))) (fun h => (Or.inr (Or.inr (Or.inr (Or.inr (Or.inr (Or.inr (Or.inr (Or.inr (Or.inr (Or.inr (Or.inr (Or.inr (Or.inr (Or.inr (Or.inr (Or.inr (Or.inr (Or.inr (Or.inr (Or.inr (Or.inr (Or.inr (Or.inr h))))))))))))))))))))))))))))))))))))))))))))))))))))))))))))))))))))))  _ _ h_q27)
    · refine post_guard (fun c_2 => ?_)
      refine post_let (fun M30 e_M30 => ?_)
      have h_M30 : Fr W M0 M30 := by rw [e_M30]; exact Fr.setI h (hW _ _ (Or.inr (Or.inr (Or.inr (Or.inr (Or.inr (Or.inr (Or.inr (Or.inr (Or.inr (Or.inr (Or.inr (Or.inl rfl)))))))))))))
      refine post_guard (fun c_3 => ?_)
      refine post_let (fun M32 e_M32 => ?_)
      have h_M32 : Fr W M0 M32 := by rw [e_M32]; exact Fr.setI h_M30 (hW _ _ (Or.inr (Or.inr (Or.inr (Or.inr (Or.inr (Or.inr (Or.inr (Or.inr (Or.inr (Or.inr (Or.inr (Or.inr (Or.inl rfl))))))))))))))
      exact (ih _ _ h_M32)
def W_MO_text_L80 : Nat → Int → Prop := fun k j => (k = 191 ∧ (j = 17 ∨ j = 18 ∨ j = 20 ∨ j = 21 ∨ j = 22 ∨ j = 23 ∨ j = 24 ∨ j = 25 ∨ j = 26 ∨ j = 27 ∨ j = 28 ∨ j = 29 ∨ j = 42 ∨ j = 43 ∨ j = 60 ∨ j = 61)) ∨ k = 193 ∨ k = 194 ∨ k = 195 ∨ k = 196 ∨ k = 197 ∨ k = 198 ∨ k = 199 ∨ k = 200 ∨ k = 201 ∨ k = 202 ∨ k = 203 ∨ k = 204 ∨ k = 205 ∨ k = 206 ∨ (k = 207 ∧ (j = 0)) ∨ (k = 208 ∧ (j = 0)) ∨ (k = 209 ∧ (j = 0)) ∨ (k = 210 ∧ (j = 0)) ∨ (k = 211 ∧ (j = 0)) ∨ k = 212 ∨ k = 213 ∨ k = 214 ∨ k = 215
theorem fr_MO_text_L80 {x1 : Int} {W : Nat → Int → Prop} {M0 : Mem} (hW : ∀ k j, (W_MO_text_L80) k j → W k j)  : ∀ (fu : Nat) (M : Mem) (v1_ : Int), Fr W M0 M → Post (fun r => Fr W M0 r.1) (t_MO_text_L80 x1 fu M v1_) := by
  intro fu
  induction fu with
  | zero => intro M v1_ h; exact post_none
  | succ fu ih =>
    intro M v1_ h
    rw [t_MO_text_L80]
    refine post_ite (fun c_1 => ?_) (fun c_1 => ?_)
    · exact (fr_MO_text_L124 (fun k j hk => hW k j (Or.elim hk (fun h => (Or.inl ⟨(h).1, (Or.elim (h).2 (fun h => (Or.inl h)) (fun h => (Or.elim h (fun h => (Or.inr (Or.inl h))) (fun h => (Or.elim h (fun h => (Or.inr (Or.inr (Or.inl h)))) (fun h => (Or.elim h (fun h => (Or.inr (Or.inr (Or.inr (Or.inl h))))) (fun h => (Or.elim h (fun h => (Or.inr (Or.inr (Or.inr (Or.inr (Or.inl h)))))) (fun h => (Or.elim h (fun h => (Or.inr (Or.inr (Or.inr (Or.inr (Or.inr (Or.inl h))))))) (fun h => (Or.elim h (fun h => (Or.inr (Or.inr (Or.inr (Or.inr (Or.inr (Or.inr (Or.inl h)))))))) (fun h => (Or.elim h (fun h => (Or.inr (Or.inr (Or.inr (Or.inr (Or.inr (Or.inr (Or.inr (Or.inl h))))))))) (fun h => (Or.elim h (fun h => (Or.inr (Or.inr (Or.inr (Or.inr (Or.inr (Or.inr (Or.inr (Or.inr (Or.inl h)))))))))) (fun h => (Or.elim h (fun h => (Or.inr (Or.inr (Or.inr (Or.inr (Or.inr (Or.inr (Or.inr (Or.inr (Or.inr (Or.inl h))))))))))) (fun h => (Or.elim h (fun h => (Or.inr (Or.inr (Or.inr (Or.inr (Or.inr (Or.inr (Or.inr (Or.inr (Or.inr (Or.inr (Or.inl h)))))))))))) (fun h => (Or.elim h (fun h => (Or.inr (Or.inr (Or.inr (Or.inr (Or.inr (Or.inr (Or.inr (Or.inr (Or.inr (Or.inr (Or.inr (Or.inl h))))))))))))) (fun h => (Or.elim h (fun h => (Or.inr (Or.inr (Or.inr (Or.inr (Or.inr (Or.inr (Or.inr (Or.inr (Or.inr (Or.inr (Or.inr (Or.inr (Or.inl h)))))))))))))) (fun h => (Or.elim h (fun h => (Or.inr (Or.inr (Or.inr (Or.inr (Or.inr (Or.inr (Or.inr (Or.inr (Or.inr (Or.inr (Or.inr (Or.inr (Or.inr (Or.inl h))))))))))))))) (fun h => (Or.elim h (fun h => (Or.inr (Or.inr (Or.inr (Or.inr (Or.inr (Or.inr (Or.inr (Or.inr (Or.inr (Or.inr (Or.inr (Or.inr (Or.inr (Or.inr (Or.inl h)))))))))))))))) (fun h => (Or.inr (Or.inr (Or.inr (Or.inr (Or.inr (Or.inr (Or.inr (Or.inr (Or.inr (Or.inr (Or.inr (Or.inr (Or.inr (Or.inr (Or.inr h)))))))))))))))))))))))))))))))))))))))))))))⟩)) (fun h => (Or.elim h (fun h => (Or.inr (Or.inl h))) (fun h => (Or.elim h (fun h => (Or.inr (Or.inr (Or.inl h)))) (fun h => (Or.elim h (fun h => (Or.inr (Or.inr (Or.inr (Or.inl h))))) (fun h => (Or.elim h (fun h => (Or.inr (Or.inr (Or.inr (Or.inr (Or.inl h)))))) (fun h => (Or.elim h (fun h => (Or.inr (Or.inr (Or.inr (Or.inr (Or.inr (Or.inl h))))))) (fun h => (Or.elim h (fun h => (Or.inr (Or.inr (Or.inr (Or.inr (Or.inr (Or.inr (Or.inl h)))))))) (fun h => (Or.elim h (fun h => (Or.inr (Or.inr (Or.inr (Or.inr (Or.inr (Or.inr (Or.inr (Or.inl h))))))))) (fun h => (Or.elim h (fun h => (Or.inr (Or.inr (Or.inr (Or.inr (Or.inr (Or.inr (Or.inr (Or.inr (Or.inl h)))))))))) (fun h => (Or.elim h (fun h => (Or.inr (Or.inr (Or.inr (Or.inr (Or.inr (Or.inr (Or.inr (Or.inr (Or.inr (Or.inl h))))))))))) (fun h => (Or.elim h (fun h => (Or.inr (Or.inr (Or.inr (Or.inr (Or.inr (Or.inr (Or.inr (Or.inr (Or.inr (Or.inr (Or.inl h)))))))))))) (fun h => (Or.elim h (fun h => (Or.inr (Or.inr (Or.inr (Or.inr (Or.inr (Or.inr (Or.inr (Or.inr (Or.inr (Or.inr (Or.inr (Or.inl h))))))))))))) (fun h => (Or.elim h (fun h => (Or.inr (Or.inr (Or.inr (Or.inr (Or.inr (Or.inr (Or.inr (Or.inr (Or.inr (Or.inr (Or.inr (Or.inr (Or.inl h)))))))))))))) (fun h => (Or.elim h (fun h => (Or.inr (Or.inr (Or.inr (Or.inr (Or.inr (Or.inr (Or.inr (Or.inr (Or.inr (Or.inr (Or.inr (Or.inr (Or.inr (Or.inl h))))))))))))))) (fun h => (Or.elim h (fun h => (Or.inr (Or.inr (Or.inr (Or.inr (Or.inr (Or.inr (Or.inr (Or.inr (Or.inr (Or.inr (Or.inr (Or.inr (Or.inr (Or.inr (Or.inl h)))))))))))))))) (fun h => (Or.elim h (fun h => (Or.inr (Or.inr (Or.inr (Or.inr (Or.inr (Or.inr (Or.inr (Or.inr (Or.inr (Or.inr (Or.inr (Or.inr (Or.inr (Or.inr (Or.inr (Or.inl ⟨(h).1, (h).2⟩))))))))))))))))) (fun h => (Or.elim h (fun h => (Or.inr (Or.inr (Or.inr (Or.inr (Or.inr (Or.inr (Or.inr (Or.inr (Or.inr (Or.inr (Or.inr (Or.inr (Or.inr (Or.inr (Or.inr (Or.inr (Or.inl ⟨(h).1, (h).2⟩)))))))))))))))))) (fun h => (Or.elim h (fun h => (Or.inr (Or.inr (Or.inr (Or.inr (Or.inr (Or.inr (Or.inr (Or.inr (Or.inr (Or.inr (Or.inr (Or.inr (Or.inr (Or.inr (Or.inr (Or.inr (Or.inr (Or.inl ⟨(h).1, (h).2⟩))))))))))))))))))) (fun h => (Or.elim h (fun h => (Or.inr (Or.inr (Or.inr (Or.inr (Or.inr (Or.inr (Or.inr (Or.inr (Or.inr (Or.inr (Or.inr (Or.inr (Or.inr (Or.inr (Or.inr (Or.inr (Or.inr (Or.inr (Or.inl ⟨(h).1, (h).2⟩)))))))))))))))))))) (fun h => (Or.elim h (fun h => (Or.inr (Or.inr (Or.inr (Or.inr (Or.inr (Or.inr (Or.inr (Or.inr (Or.inr (Or.inr (Or.inr (Or.inr (Or.inr (Or.inr (Or.inr (Or.inr (Or.inr (Or.inr (Or.inr (Or.inl ⟨(h).1, (h).2⟩))))))))))))))))))))) (fun h => (Or.elim h (fun h => (Or.inr (Or.inr (Or.inr (Or.inr (Or.inr (Or.inr (Or.inr (Or.inr (Or.inr (Or.inr (Or.inr (Or.inr (Or.inr (Or.inr (Or.inr (Or.inr (Or.inr (Or.inr (Or.inr (Or.inr (Or.inl h)))))))))))))))))))))) (fun h => (Or.elim h (fun h => (Or.inr (Or.inr (Or.inr (Or.inr (Or.inr (Or.inr (Or.inr (Or.inr (Or.inr (Or.inr (Or.inr (Or.inr (Or.inr (Or.inr (Or.inr (Or.inr (Or.inr (Or.inr (Or.inr (Or.inr (Or.inr (Or.inl h))))))))))))))))))))))) (fun h => (Or.elim h (fun h => (Or.inr (Or.inr (Or.inr (Or.inr (Or.inr (Or.inr (Or.inr (Or.inr (Or.inr (Or.inr (Or.inr (Or.inr (Or.inr (Or.inr (Or.inr (Or.inr (Or.inr (Or.inr (Or.inr (Or.inr (Or.inr (Or.inr (Or.inl h)))))))))))))))))))))))) (fun h => (Or.inr (Or.inr (Or.inr (Or.inr (Or.inr (Or.inr (Or.inr (Or.inr (Or.inr (Or.inr (Or.inr (Or.inr (Or.inr (Or.inr (Or.inr (Or.inr (Or.inr (Or.inr (Or.inr (Or.inr (Or.inr (Or.inr (Or.inr h))))))))))))))))))))))))))))))))))))))))))))))))))))))))))))))))))))))  _ _ _ h)
    · refine post_guard (fun c_2 => ?_)
      refine post_let (fun M15 e_M15 => ?_)
      have h_M15 : Fr W M0 M15 := by rw [e_M15]; exact Fr.setI h (hW _ _ (Or.inr (Or.inr (Or.inr (Or.inr (Or.inr (Or.inl rfl)))))))
      refine post_guard (fun c_3 => ?_)
      refine post_let (fun M17 e_M17 => ?_)
      have h_M17 : Fr W M0 M17 := by rw [e_M17]; exact Fr.setI h_M15 (hW _ _ (Or.inr (Or.inr (Or.inr (Or.inr (Or.inr (Or.inr (Or.inl rfl))))))))
      refine post_guard (fun c_4 => ?_)
      refine post_let (fun M19 e_M19 => ?_)
      have h_M19 : Fr W M0 M19 := by rw [e_M19]; exact Fr.setI h_M17 (hW _ _ (Or.inr (Or.inr (Or.inr (Or.inr (Or.inr (Or.inr (Or.inr (Or.inl rfl)))))))))
      exact (ih _ _ h_M19)
def W_MO_text_L47 : Nat → Int → Prop := fun k j => (k = 191 ∧ (j = 17 ∨ j = 18 ∨ j = 20 ∨ j = 21 ∨ j = 22 ∨ j = 23 ∨ j = 24 ∨ j = 25 ∨ j = 26 ∨ j = 27 ∨ j = 28 ∨ j = 29 ∨ j = 42 ∨ j = 43 ∨ j = 60 ∨ j = 61)) ∨ k = 193 ∨ k = 194 ∨ k = 195 ∨ k = 196 ∨ k = 197 ∨ k = 198 ∨ k = 199 ∨ k = 200 ∨ k = 201 ∨ k = 202 ∨ k = 203 ∨ k = 204 ∨ k = 205 ∨ k = 206 ∨ (k = 207 ∧ (j = 0)) ∨ (k = 208 ∧ (j = 0)) ∨ (k = 209 ∧ (j = 0)) ∨ (k = 210 ∧ (j = 0)) ∨ (k = 211 ∧ (j = 0)) ∨ k = 212 ∨ k = 213 ∨ k = 214 ∨ k = 215
theorem fr_MO_text_L47 {x1 : Int} {W : Nat → Int → Prop} {M0 : Mem} (hW : ∀ k j, (W_MO_text_L47) k j → W k j)  : ∀ (fu : Nat) (M : Mem) (v1_ : Int), Fr W M0 M → Post (fun r => Fr W M0 r.1) (t_MO_text_L47 x1 fu M v1_) := by
  intro fu
  induction fu with
  | zero => intro M v1_ h; exact post_none
  | succ fu ih =>
    intro M v1_ h
    rw [t_MO_text_L47]
    refine post_ite (fun c_1 => ?_) (fun c_1 => ?_)
    · exact (fr_MO_text_L80 (fun k j hk => hW k j (Or.elim hk (fun h => (Or.inl ⟨(h).1, (Or.elim (h).2 (fun h => (Or.inl h)) (fun h => (Or.elim h (fun h => (Or.inr (Or.inl h))) (fun h => (Or.elim h (fun h => (Or.inr (Or.inr (Or.inl h)))) (fun h => (Or.elim h (fun h => (Or.inr (Or.inr (Or.inr (Or.inl h))))) (fun h => (Or.elim h (fun h => (Or.inr (Or.inr (Or.inr (Or.inr (Or.inl h)))))) (fun h => (Or.elim h (fun h => (Or.inr (Or.inr (Or.inr (Or.inr (Or.inr (Or.inl h))))))) (fun h => (Or.elim h (fun h => (Or.inr (Or.inr (Or.inr (Or.inr (Or.inr (Or.inr (Or.inl h)))))))) (fun h => (Or.elim h (fun h => (Or.inr (Or.inr (Or.inr (Or.inr (Or.inr (Or.inr (Or.inr (Or.inl h))))))))) (fun h => (Or.elim h (fun h => (Or.inr (Or.inr (Or.inr (Or.inr (Or.inr (Or.inr (Or.inr (Or.inr (Or.inl h)))))))))) (fun h => (Or.elim h (fun h => (Or.inr (Or.inr (Or.inr (Or.inr (Or.inr (Or.inr (Or.inr (Or.inr (Or.inr (Or.inl h))))))))))) (fun h => (Or.elim h (fun h => (Or.inr (Or.inr (Or.inr (Or.inr (Or.inr (Or.inr (Or.inr (Or.inr (Or.inr (Or.inr (Or.inl h)))))))))))) (fun h => (Or.elim h (fun h => (Or.inr (Or.inr (Or.inr (Or.inr (Or.inr (Or.inr (Or.inr (Or.inr (Or.inr (Or.inr (Or.inr (Or.inl h))))))))))))) (fun h => (Or.elim h (fun h => (Or.inr (Or.inr (Or.inr (Or.inr (Or.inr (Or.inr (Or.inr (Or.inr (Or.inr (Or.inr (Or.inr (Or.inr (Or.inl h)))))))))))))) (fun h => (Or.elim h (fun h => (Or.inr (Or.inr (Or.inr (Or.inr (Or.inr (Or.inr (Or.inr (Or.inr (Or.inr (Or.inr (Or.inr (Or.inr (Or.inr (Or.inl h))))))))))))))) (fun h => (Or.elim h (fun h => (Or.inr (Or.inr (Or.inr (Or.inr (Or.inr (Or.inr (Or.inr (Or.inr (Or.inr (Or.inr (Or.inr (Or.inr (Or.inr (Or.inr (Or.inl h)))))))))))))))) (fun h => (Or.inr (Or.inr (Or.inr (Or.inr (Or.inr (Or.inr (Or.inr (Or.inr (Or.inr (Or.inr (Or.inr (Or.inr (Or.inr (Or.inr (Or.inr h)))))))))))))))))))))))))))))))))))))))))))))⟩)) (fun h => (Or.elim h (fun h => (Or.inr (Or.inl h))) (fun h => (Or.elim h (fun h => (Or.inr (Or.inr (Or.inl h)))) (fun h => (Or.elim h (fun h => (Or.inr (Or.inr (Or.inr (Or.inl h))))) (fun h => (Or.elim h (fun h => (Or.inr (Or.inr (Or.inr (Or.inr (Or.inl h)))))) (fun h => (Or.elim h (fun h => (Or.inr (Or.inr (Or.inr (Or.inr (Or.inr (Or.inl h))))))) (fun h => (Or.elim h (fun h => (Or.inr (Or.inr (Or.inr (Or.inr (Or.inr (Or.inr (Or.inl h)))))))) (fun h => (Or.elim h (fun h => (Or.inr (Or.inr (Or.inr (Or.inr (Or.inr (Or.inr (Or.inr (Or.inl h))))))))) (fun h => (Or.elim h (fun h => (Or.inr (Or.inr (Or.inr (Or.inr (Or.inr (Or.inr (Or.inr (Or.inr (Or.inl h)))))))))) (fun h => (Or.elim h (fun h => (Or.inr (Or.inr (Or.inr (Or.inr (Or.inr (Or.inr (Or.inr (Or.inr (Or.inr (Or.inl h))))))))))) (fun h => (Or.elim h (fun h => (Or.inr (Or.inr (Or.inr (Or.inr (Or.inr (Or.inr (Or.inr (Or.inr (Or.inr (Or.inr (Or.inl h)))))))))))) (fun h => (Or.elim h (fun h => (Or.inr (Or.inr (Or.inr (Or.inr (Or.inr (Or.inr (Or.inr (Or.inr (Or.inr (Or.inr (Or.inr (Or.inl h))))))))))))) (fun h => (Or.elim h (fun h => (Or.inr (Or.inr (Or.inr (Or.inr (Or.inr (Or.inr (Or.inr (Or.inr (Or.inr (Or.inr (Or.inr (Or.inr (Or.inl h)))))))))))))) (fun h => (Or.elim h (fun h => (Or.inr (Or.inr (Or.inr (Or.inr (Or.inr (Or.inr (Or.inr (Or.inr (Or.inr (Or.inr (Or.inr (Or.inr (Or.inr (Or.inl h))))))))))))))) (fun h => (Or.elim h (fun h => (Or.inr (Or.inr (Or.inr (Or.inr (Or.inr (Or.inr (Or.inr (Or.inr (Or.inr (Or.inr (Or.inr (Or.inr (Or.inr (Or.inr (Or.inl h)))))))))))))))) (fun h => (Or.elim h (fun h => (Or.inr (Or.inr (Or.inr (Or.inr (Or.inr (Or.inr (Or.inr (Or.inr (Or.inr (Or.inr (Or.inr (Or.inr (Or.inr (Or.inr (Or.inr (Or.inl ⟨(h).1, (h).2⟩))))))))))))))))) (fun h => (Or.elim h (fun h => (Or.inr (Or.inr (Or.inr (Or.inr (Or.inr (Or.inr (Or.inr (Or.inr (Or.inr (Or.inr (Or.inr (Or.inr (Or.inr (Or.inr (Or.inr (Or.inr (Or.inl ⟨(h).1, (h).2⟩)))))))))))))))))) (fun h => (Or.elim h (fun h => (Or.inr (Or.inr (Or.inr (Or.inr (Or.inr (Or.inr (Or.inr (Or.inr (Or.inr (Or.inr (Or.inr (Or.inr (Or.inr (Or.inr (Or.inr (Or.inr (Or.inr (Or.inl ⟨(h).1, (h).2⟩))))))))))))))))))) (fun h => (Or.elim h (fun h => (Or.inr (Or.inr (Or.inr (Or.inr (Or.inr (Or.inr (Or.inr (Or.inr (Or.inr (Or.inr (Or.inr (Or.inr (Or.inr (Or.inr (Or.inr (Or.inr (Or.inr (Or.inr (Or.inl ⟨(h).1, (h).2⟩)))))))))))))))))))) (fun h => (Or.elim h (fun h => (Or.inr (Or.inr (Or.inr (Or.inr (Or.inr (Or.inr (Or.inr (Or.inr (Or.inr (Or.inr (Or.inr (Or.inr (Or.inr (Or.inr (Or.inr (Or.inr (Or.inr (Or.inr (Or.inr (Or.inl ⟨(h).1, (h).2⟩))))))))))))))))))))) (fun h => (Or.elim h (fun h => (Or.inr (Or.inr (Or.inr (Or.inr (Or.inr (Or.inr (Or.inr (Or.inr (Or.inr (Or.inr (Or.inr (Or.inr (Or.inr (Or.inr (Or.inr (Or.inr (Or.inr (Or.inr (Or.inr (Or.inr (Or.inl h)))))))))))))))))))))) (fun h => (Or.elim h (fun h => (Or.inr (Or.inr (Or.inr (Or.inr (Or.inr (Or.inr (Or.inr (Or.inr (Or.inr (Or.inr (Or.inr (Or.inr (Or.inr (Or.inr (Or.inr (Or.inr (Or.inr (Or.inr (Or.inr (Or.inr (Or.inr (Or.inl h))))))))))))))))))))))) (fun h => (Or.elim h (fun h => (Or.inr (Or.inr (Or.inr (Or.inr (Or.inr (Or.inr (Or.inr (Or.inr (Or.inr (Or.inr (Or.inr (Or.inr (Or.inr (Or.inr (Or.inr (Or.inr (Or.inr (Or.inr (Or.inr (Or.inr (Or.inr (Or.inr (Or.inl h)))))))))))))))))))))))) (fun h => (Or.inr (Or.inr (Or.inr (Or.inr (Or.inr (Or.inr (Or.inr (Or.inr (Or.inr (Or.inr (Or.inr (Or.inr (Or.inr (Or.inr (Or.inr (Or.inr (Or.inr (Or.inr (Or.inr (Or.inr (Or.inr (Or.inr (Or.inr h))))))))))))))))))))))))))))))))))))))))))))))))))))))))))))))))))))))  _ _ _ h)
    · refine post_ite (fun c_2 => ?_) (fun c_2 => ?_)
      · exact (fr_MO_text_L64 (fun k j hk => hW k j (Or.inr (Or.inl hk))) (fun a0_ a1_ h9 => ih a0_ a1_ h9) h)
      · refine post_ite (fun c_3 => ?_) (fun c_3 => ?_)
        · exact (fr_MO_text_L64 (fun k j hk => hW k j (Or.inr (Or.inl hk))) (fun a0_ a1_ h9 => ih a0_ a1_ h9) h)
        · exact (fr_MO_text_L69 (fun k j hk => hW k j (Or.inr (Or.inl hk))) (fun a0_ a1_ h9 => ih a0_ a1_ h9) h)
def W_MO_text : Nat → Int → Prop := fun k j => (k = 191 ∧ (j = 0 ∨ j = 2 ∨ j = 17 ∨ j = 18 ∨ j = 19 ∨ j = 20 ∨ j = 21 ∨ j = 22 ∨ j = 23 ∨ j = 24 ∨ j = 25 ∨ j = 26 ∨ j = 27 ∨ j = 28 ∨ j = 29 ∨ j = 42 ∨ j = 43 ∨ j = 60 ∨ j = 61)) ∨ k = 193 ∨ k = 194 ∨ k = 195 ∨ k = 196 ∨ k = 197 ∨ k = 198 ∨ k = 199 ∨ k = 200 ∨ k = 201 ∨ k = 202 ∨ k = 203 ∨ k = 204 ∨ k = 205 ∨ k = 206 ∨ (k = 207 ∧ (j = 0)) ∨ (k = 208 ∧ (j = 0)) ∨ (k = 209 ∧ (j = 0)) ∨ (k = 210 ∧ (j = 0)) ∨ (k = 211 ∧ (j = 0)) ∨ k = 212 ∨ k = 213 ∨ k = 214 ∨ k = 215
theorem fr_MO_text {x1 : Int} {W : Nat → Int → Prop} {M0 : Mem} (hW : ∀ k j, (W_MO_text) k j → W k j)  {M : Mem} (h : Fr W M0 M) : Post (fun r => Fr W M0 r.1) (t_MO_text M x1) := by
  unfold t_MO_text
  refine post_let (fun M1 e_M1 => ?_)
  have h_M1 : Fr W M0 M1 := by rw [e_M1]; exact Fr.setI h (hW _ _ (Or.inl ⟨rfl, (Or.inl rfl)⟩))
  refine post_ite (fun c_1 => ?_) (fun c_1 => ?_)
  · exact post_some h_M1
  · refine post_ite (fun c_2 => ?_) (fun c_2 => ?_)
    · refine post_let (fun M5 e_M5 => ?_)
      have h_M5 : Fr W M0 M5 := by rw [e_M5]; exact Fr.setI h_M1 (hW _ _ (Or.inl ⟨rfl, (Or.inr (Or.inr (Or.inr (Or.inr (Or.inl rfl)))))⟩))
      refine post_let (fun M6 e_M6 => ?_)
      have h_M6 : Fr W M0 M6 := by rw [e_M6]; exact Fr.setI h_M5 (hW _ _ (Or.inl ⟨rfl, (Or.inr (Or.inl rfl))⟩))
      refine post_let (fun M7 e_M7 => ?_)
      have h_M7 : Fr W M0 M7 := by rw [e_M7]; exact Fr.setI h_M6 (hW _ _ (Or.inl ⟨rfl, (Or.inr (Or.inr (Or.inr (Or.inr (Or.inr (Or.inl rfl))))))⟩))
      refine post_let (fun M8 e_M8 => ?_)
      have h_M8 : Fr W M0 M8 := by rw [e_M8]; exact Fr.setI h_M7 (hW _ _ (Or.inl ⟨rfl, (Or.inr (Or.inr (Or.inr (Or.inr (Or.inr (Or.inr (Or.inr (Or.inr (Or.inr (Or.inl rfl))))))))))⟩))
      refine post_let (fun M9 e_M9 => ?_)
      have h_M9 : Fr W M0 M9 := by rw [e_M9]; exact Fr.setI h_M8 (hW _ _ (Or.inl ⟨rfl, (Or.inr (Or.inr (Or.inr (Or.inr (Or.inr (Or.inr (Or.inr (Or.inr (Or.inr (Or.inr (Or.inl rfl)))))))))))⟩))
      exact (fr_MO_text_L47 (fun k j hk => hW k j (Or.elim hk (fun h => (Or.inl ⟨(h).1, (Or.elim (h).2 (fun h => (Or.inr (Or.inr (Or.inl h)))) (fun h => (Or.elim h (fun h => (Or.inr (Or.inr (Or.inr (Or.inl h))))) (fun h => (Or.elim h (fun h => (Or.inr (Or.inr (Or.inr (Or.inr (Or.inr (Or.inl h))))))) (fun h => (Or.elim h (fun h => (Or.inr (Or.inr (Or.inr (Or.inr (Or.inr (Or.inr (Or.inl h)))))))) (fun h => (Or.elim h (fun h => (Or.inr (Or.inr (Or.inr (Or.inr (Or.inr (Or.inr (Or.inr (Or.inl h))))))))) (fun h => (Or.elim h (fun h => (Or.inr (Or.inr (Or.inr (Or.inr (Or.inr (Or.inr (Or.inr (Or.inr (Or.inl h)))))))))) (fun h => (Or.elim h (fun h => (Or.inr (Or.inr (Or.inr (Or.inr (Or.inr (Or.inr (Or.inr (Or.inr (Or.inr (Or.inl h))))))))))) (fun h => (Or.elim h (fun h => (Or.inr (Or.inr (Or.inr (Or.inr (Or.inr (Or.inr (Or.inr (Or.inr (Or.inr (Or.inr (Or.inl h)))))))))))) (fun h => (Or.elim h (fun h => (Or.inr (Or.inr (Or.inr (Or.inr (Or.inr (Or.inr (Or.inr (Or.inr (Or.inr (Or.inr (Or.inr (Or.inl h))))))))))))) (fun h => (Or.elim h (fun h => (Or.inr (Or.inr (Or.inr (Or.inr (Or.inr (Or.inr (Or.inr (Or.inr (Or.inr (Or.inr (Or.inr (Or.inr (Or.inl h)))))))))))))) (fun h => (Or.elim h (fun h => (Or.inr (Or.inr (Or.inr (Or.inr (Or.inr (Or.inr (Or.inr (Or.inr (Or.inr (Or.inr (Or.inr (Or.inr (Or.inr (Or.inl h))))))))))))))) (fun h => (Or.elim h (fun h => (Or.inr (Or.inr (Or.inr (Or.inr (Or.inr (Or.inr (Or.inr (Or.inr (Or.inr (Or.inr (Or.inr (Or.inr (Or.inr (Or.inr (Or.inl h)))))))))))))))) (fun h => (Or.elim h (fun h => (Or.inr (Or.inr (Or.inr (Or.inr (Or.inr (Or.inr (Or.inr (Or.inr (Or.inr (Or.inr (Or.inr (Or.inr (Or.inr (Or.inr (Or.inr (Or.inl h))))))))))))))))) (fun h => (Or.elim h (fun h => (Or.inr (Or.inr (Or.inr (Or.inr (Or.inr (Or.inr (Or.inr (Or.inr (Or.inr (Or.inr (Or.inr (Or.inr (Or.inr (Or.inr (Or.inr (Or.inr (Or.inl h)))))))))))))))))) (fun h => (Or.elim h (fun h => (Or.inr (Or.inr (Or.inr (Or.inr (Or.inr (Or.inr (Or.inr (Or.inr (Or.inr (Or.inr (Or.inr (Or.inr (Or.inr (Or.inr (Or.inr (Or.inr (Or.inr (Or.inl h))))))))))))))))))) (fun h => (Or.inr (Or.inr (Or.inr (Or.inr (Or.inr (Or.inr (Or.inr (Or.inr (Or.inr (Or.inr (Or.inr (Or.inr (Or.inr (Or.inr (Or.inr (Or.inr (Or.inr (Or.inr h))))))))))))))))))))))))))))))))))))))))))))))))⟩)) (fun h => (Or.elim h (fun h => (Or.inr (Or.inl h))) (fun h => (Or.elim h (fun h => (Or.inr (Or.inr (Or.inl h)))) (fun h => (Or.elim h (fun h => (Or.inr (Or.inr (Or.inr (Or.inl h))))) (fun h => (Or.elim h (fun h => (Or.inr (Or.inr (Or.inr (Or.inr (Or.inl h)))))) (fun h => (Or.elim h (fun h => (Or.inr (Or.inr (Or.inr (Or.inr (Or.inr (Or.inl h))))))) (fun h => (Or.elim h (fun h => (Or.inr (Or.inr (Or.inr (Or.inr (Or.inr (Or.inr (Or.inl h)))))))) (fun h => (Or.elim h (fun h => (Or.inr (Or.inr (Or.inr (Or.inr (Or.inr (Or.inr (Or.inr (Or.inl h))))))))) (fun h => (Or.elim h (fun h => (Or.inr (Or.inr (Or.inr (Or.inr (Or.inr (Or.inr (Or.inr (Or.inr (Or.inl h)))))))))) (fun h => (Or.elim h (fun h => (Or.inr (Or.inr (Or.inr (Or.inr (Or.inr (Or.inr (Or.inr (Or.inr (Or.inr (Or.inl h))))))))))) (fun h => (Or.elim h (fun h => (Or.inr (Or.inr (Or.inr (Or.inr (Or.inr (Or.inr (Or.inr (Or.inr (Or.inr (Or.inr (Or.inl h)))))))))))) (fun h => (Or.elim h (fun h => (Or.inr (Or.inr (Or.inr (Or.inr (Or.inr (Or.inr (Or.inr (Or.inr (Or.inr (Or.inr (Or.inr (Or.inl h))))))))))))) (fun h => (Or.elim h (fun h => (Or.inr (Or.inr (Or.inr (Or.inr (Or.inr (Or.inr (Or.inr (Or.inr (Or.inr (Or.inr (Or.inr (Or.inr (Or.inl h)))))))))))))) (fun h => (Or.elim h (fun h => (Or.inr (Or.inr (Or.inr (Or.inr (Or.inr (Or.inr (Or.inr (Or.inr (Or.inr (Or.inr (Or.inr (Or.inr (Or.inr (Or.inl h))))))))))))))) (fun h => (Or.elim h (fun h => (Or.inr (Or.inr (Or.inr (Or.inr (Or.inr (Or.inr (Or.inr (Or.inr (Or.inr (Or.inr (Or.inr (Or.inr (Or.inr (Or.inr (Or.inl h)))))))))))))))) (fun h => (Or.elim h (fun h => (Or.inr (Or.inr (Or.inr (Or.inr (Or.inr (Or.inr (Or.inr (Or.inr (Or.inr (Or.inr (Or.inr (Or.inr (Or.inr (Or.inr (Or.inr (Or.inl ⟨(h).1, (h).2⟩))))))))))))))))) (fun h => (Or.elim h (fun h => (Or.inr (Or.inr (Or.inr (Or.inr (Or.inr (Or.inr (Or.inr (Or.inr (Or.inr (Or.inr (Or.inr (Or.inr (Or.inr (Or.inr (Or.inr (Or.inr (Or.inl ⟨(h).1, (h).2⟩)))))))))))))))))) (fun h => (Or.elim h (fun h => (Or.inr (Or.inr (Or.inr (Or.inr (Or.inr (Or.inr (Or.inr (Or.inr (Or.inr (Or.inr (Or.inr (Or.inr (Or.inr (Or.inr (Or.inr (Or.inr (Or.inr (Or.inl ⟨(h).1, (h).2⟩))))))))))))))))))) (fun h => (Or.elim h (fun h => (Or.inr (Or.inr (Or.inr (Or.inr (Or.inr (Or.inr (Or.inr (Or.inr (Or.inr (Or.inr (Or.inr (Or.inr (Or.inr (Or.inr (Or.inr (Or.inr (Or.inr (Or.inr (Or.inl ⟨(h).1, (h).2⟩)))))))))))))))))))) (fun h => (Or.elim h (fun h => (Or.inr (Or.inr (Or.inr (Or.inr (Or.inr (Or.inr (Or.inr (Or.inr (Or.inr (Or.inr (Or.inr (Or.inr (Or.inr (Or.inr (Or.inr (Or.inr (Or.inr (Or.inr (Or.inr (Or.inl ⟨(h).1, (h).2⟩))))))))))))))))))))) (fun h => (Or.elim h (fun h => (Or.inr (Or.inr (Or.inr (Or.inr (Or.inr (Or.inr (Or.inr (Or.inr (Or.inr (Or.inr (Or.inr (Or.inr (Or.inr (Or.inr (Or.inr (Or.inr (Or.inr (Or.inr (Or.inr (Or.inr (Or.inl h)))))))))))))))))))))) (fun h => (Or.elim h (fun h => (Or.inr (Or.inr (Or.inr (Or.inr (Or.inr (Or.inr (Or.inr (Or.inr (Or.inr (Or.inr (Or.inr (Or.inr (Or.inr (Or.inr (Or.inr (Or.inr (Or.inr (Or.inr (Or.inr (Or.inr (Or.inr (Or.inl h))))))))))))))))))))))) (fun h => (Or.elim h (fun h => (Or.inr (Or.inr (Or.inr (Or.inr (Or.inr (Or.inr (Or.inr (Or.inr (Or.inr (Or.inr (Or.inr (Or.inr (Or.inr (Or.inr (Or.inr (Or.inr (Or.inr (Or.inr (Or.inr (Or.inr (Or.inr (Or.inr (Or.inl h)))))))))))))))))))))))) (fun h => (Or.inr (Or.inr (Or.inr (Or.inr (Or.inr (Or.inr (Or.inr (Or.inr (Or.inr (Or.inr (Or.inr (Or.inr (Or.inr (Or.inr (Or.inr (Or.inr (Or.inr (Or.inr (Or.inr (Or.inr (Or.inr (Or.inr (Or.inr h))))))))))))))))))))))))))))))))))))))))))))))))))))))))))))))))))))))  _ _ _ h_M9)
    · exact post_some h_M1
def W_MO_fault : Nat → Int → Prop := fun k j => (k = 191 ∧ (j = 0))
theorem fr_MO_fault {x1 : Int} {W : Nat → Int → Prop} {M0 : Mem} (hW : ∀ k j, (W_MO_fault) k j → W k j)  {M : Mem} (h : Fr W M0 M) : Fr W M0 (t_MO_fault M x1).1 := by
  show Pl (fun r => Fr W M0 r.1) (t_MO_fault M x1)
  unfold t_MO_fault
  refine pl_let (fun M1 e_M1 => ?_)
  have h_M1 : Fr W M0 M1 := by rw [e_M1]; exact Fr.setI h (hW _ _ ⟨rfl, rfl⟩)
  refine pl_ite (fun c_1 => ?_) (fun c_1 => ?_)
  · exact h_M1
  · refine pl_ite (fun c_2 => ?_) (fun c_2 => ?_)
    · exact h_M1
    · exact h_M1
def W_MO_named : Nat → Int → Prop := fun k j => (k = 191 ∧ (j = 0))
theorem fr_MO_named {x1 : Int} {x2 : Int} {W : Nat → Int → Prop} {M0 : Mem} (hW : ∀ k j, (W_MO_named) k j → W k j)  {M : Mem} (h : Fr W M0 M) : Post (fun r => Fr W M0 r.1) (t_MO_named M x1 x2) := by
  unfold t_MO_named
  refine post_let (fun M1 e_M1 => ?_)
  have h_M1 : Fr W M0 M1 := by rw [e_M1]; exact Fr.setI h (hW _ _ ⟨rfl, rfl⟩)
  refine post_ite (fun c_1 => ?_) (fun c_1 => ?_)
  · refine post_bindv (fun q8 => ?_)
    exact post_some h_M1
  · refine post_ite (fun c_2 => ?_) (fun c_2 => ?_)
    · refine post_bindv (fun q5 => ?_)
      exact post_some h_M1
    · exact post_some h_M1
def W_MO_copies_L95 : Nat → Int → Prop := fun k j => k = 213 ∨ k = 214 ∨ k = 215
theorem fr_MO_copies_L95 {x1 : Int} {x2 : Int} {W : Nat → Int → Prop} {M0 : Mem} (hW : ∀ k j, (W_MO_copies_L95) k j → W k j)  : ∀ (fu : Nat) (M : Mem) (v3_ : Int), Fr W M0 M → Post (fun r => Fr W M0 r) (t_MO_copies_L95 x1 x2 fu M v3_) := by
  intro fu
  induction fu with
  | zero => intro M v3_ h; exact post_none
  | succ fu ih =>
    intro M v3_ h
    rw [t_MO_copies_L95]
    refine post_ite (fun c_1 => ?_) (fun c_1 => ?_)
    · exact post_some h
    · refine post_guard (fun c_2 => ?_)
      refine post_guard (fun c_3 => ?_)
      refine post_let (fun M28 e_M28 => ?_)
      have h_M28 : Fr W M0 M28 := by rw [e_M28]; exact Fr.setI h (hW _ _ (Or.inl rfl))
      refine post_guard (fun c_4 => ?_)
      refine post_guard (fun c_5 => ?_)
      refine post_let (fun M32 e_M32 => ?_)
      have h_M32 : Fr W M0 M32 := by rw [e_M32]; exact Fr.setI h_M28 (hW _ _ (Or.inr (Or.inl rfl)))
      refine post_guard (fun c_6 => ?_)
      refine post_guard (fun c_7 => ?_)
      refine post_let (fun M36 e_M36 => ?_)
      have h_M36 : Fr W M0 M36 := by rw [e_M36]; exact Fr.setI h_M32 (hW _ _ (Or.inr (Or.inr rfl)))
      exact (ih _ _ h_M36)
def W_MO_copies_L62 : Nat → Int → Prop := fun k j => k = 212 ∨ k = 213 ∨ k = 214 ∨ k = 215
theorem fr_MO_copies_L62 {x1 : Int} {x2 : Int} {W : Nat → Int → Prop} {M0 : Mem} (hW : ∀ k j, (W_MO_copies_L62) k j → W k j)  : ∀ (fu : Nat) (M : Mem) (v3_ : Int), Fr W M0 M → Post (fun r => Fr W M0 r) (t_MO_copies_L62 x1 x2 fu M v3_) := by
  intro fu
  induction fu with
  | zero => intro M v3_ h; exact post_none
  | succ fu ih =>
    intro M v3_ h
    rw [t_MO_copies_L62]
    refine post_ite (fun c_1 => ?_) (fun c_1 => ?_)
    · exact (fr_MO_copies_L95 (fun k j hk => hW k j (Or.elim hk (fun h => (Or.inr (Or.inl h))) (fun h => (Or.elim h (fun h => (Or.inr (Or.inr (Or.inl h)))) (fun h => (Or.inr (Or.inr (Or.inr h))))))))  _ _ _ h)
    · refine post_guard (fun c_2 => ?_)
      refine post_guard (fun c_3 => ?_)
      refine post_let (fun M23 e_M23 => ?_)
      have h_M23 : Fr W M0 M23 := by rw [e_M23]; exact Fr.setI h (hW _ _ (Or.inl rfl))
      exact (ih _ _ h_M23)
def W_MO_copies : Nat → Int → Prop := fun k j => k = 207 ∨ k = 208 ∨ k = 209 ∨ k = 210 ∨ k = 211 ∨ k = 212 ∨ k = 213 ∨ k = 214 ∨ k = 215
theorem fr_MO_copies {x1 : Int} {x2 : Int} {W : Nat → Int → Prop} {M0 : Mem} (hW : ∀ k j, (W_MO_copies) k j → W k j)  {M : Mem} (h : Fr W M0 M) : Post (fun r => Fr W M0 r) (t_MO_copies M x1 x2) := by
  unfold t_MO_copies
  refine post_guard (fun c_1 => ?_)
  refine post_guard (fun c_2 => ?_)
  refine post_let (fun M4 e_M4 => ?_)
  have h_M4 : Fr W M0 M4 := by rw [e_M4]; exact Fr.setI h (hW _ _ (Or.inl rfl))
  refine post_guard (fun c_3 => ?_)
  refine post_guard (fun c_4 => ?_)
  refine post_let (fun M8 e_M8 => ?_)
  have h_M8 : Fr W M0 M8 := by rw [e_M8]; exact Fr.setI h_M4 (hW _ _ (Or.inr (Or.inl rfl)))
  refine post_guard (fun c_5 => ?_)
  refine post_guard (fun c_6 => ?_)
  refine post_let (fun M12 e_M12 => ?_)
  have h_M12 : Fr W M0 M12 := by rw [e_M12]; exact Fr.setI h_M8 (hW _ _ (Or.inr (Or.inr (Or.inl rfl))))
  refine post_guard (fun c_7 => ?_)
  refine post_guard (fun c_8 => ?_)
  refine post_let (fun M15 e_M15 => ?_)
  have h_M15 : Fr W M0 M15 := by rw [e_M15]; exact Fr.setL h_M12 (hW _ _ (Or.inr (Or.inr (Or.inr (Or.inl rfl)))))
  refine post_guard (fun c_9 => ?_)
  refine post_guard (fun c_10 => ?_)
  refine post_let (fun M18 e_M18 => ?_)
  have h_M18 : Fr W M0 M18 := by rw [e_M18]; exact Fr.setL h_M15 (hW _ _ (Or.inr (Or.inr (Or.inr (Or.inr (Or.inl rfl))))))
  exact (fr_MO_copies_L62 (fun k j hk => hW k j (Or.elim hk (fun h => (Or.inr (Or.inr (Or.inr (Or.inr (Or.inr (Or.inl h))))))) (fun h => (Or.elim h (fun h => (Or.inr (Or.inr (Or.inr (Or.inr (Or.inr (Or.inr (Or.inl h)))))))) (fun h => (Or.elim h (fun h => (Or.inr (Or.inr (Or.inr (Or.inr (Or.inr (Or.inr (Or.inr (Or.inl h))))))))) (fun h => (Or.inr (Or.inr (Or.inr (Or.inr (Or.inr (Or.inr (Or.inr (Or.inr h)))))))))))))))  _ _ _ h_M18)
def W_MO_copiesLog_L2 : Nat → Int → Prop := fun k j => k = 216 ∨ k = 217 ∨ k = 218
theorem fr_MO_copiesLog_L2 {x1 : Int} {x2 : Int} {W : Nat → Int → Prop} {M0 : Mem} (hW : ∀ k j, (W_MO_copiesLog_L2) k j → W k j)  : ∀ (fu : Nat) (M : Mem) (v3_ : Int), Fr W M0 M → Post (fun r => Fr W M0 r) (t_MO_copiesLog_L2 x1 x2 fu M v3_) := by
  intro fu
  induction fu with
  | zero => intro M v3_ h; exact post_none
  | succ fu ih =>
    intro M v3_ h
    rw [t_MO_copiesLog_L2]
    refine post_ite (fun c_1 => ?_) (fun c_1 => ?_)
    · exact post_some h
    · refine post_guard (fun c_2 => ?_)
      refine post_guard (fun c_3 => ?_)
      refine post_let (fun M5 e_M5 => ?_)
      have h_M5 : Fr W M0 M5 := by rw [e_M5]; exact Fr.setI h (hW _ _ (Or.inl rfl))
      refine post_guard (fun c_4 => ?_)
      refine post_guard (fun c_5 => ?_)
      refine post_let (fun M9 e_M9 => ?_)
      have h_M9 : Fr W M0 M9 := by rw [e_M9]; exact Fr.setI h_M5 (hW _ _ (Or.inr (Or.inl rfl)))
      refine post_guard (fun c_6 => ?_)
      refine post_guard (fun c_7 => ?_)
      refine post_let (fun M13 e_M13 => ?_)
      have h_M13 : Fr W M0 M13 := by rw [e_M13]; exact Fr.setI h_M9 (hW _ _ (Or.inr (Or.inr rfl)))
      exact (ih _ _ h_M13)
def W_MO_copiesLog : Nat → Int → Prop := fun k j => k = 216 ∨ k = 217 ∨ k = 218
theorem fr_MO_copiesLog {x1 : Int} {x2 : Int} {W : Nat → Int → Prop} {M0 : Mem} (hW : ∀ k j, (W_MO_copiesLog) k j → W k j)  {M : Mem} (h : Fr W M0 M) : Post (fun r => Fr W M0 r) (t_MO_copiesLog M x1 x2) := by
  unfold t_MO_copiesLog
  exact (fr_MO_copiesLog_L2 (fun k j hk => hW k j (Or.elim hk (fun h => (Or.inl h)) (fun h => (Or.elim h (fun h => (Or.inr (Or.inl h))) (fun h => (Or.inr (Or.inr h)))))))  _ _ _ h)
def W_MO_goesFrom_L113 : Nat → Int → Prop := fun k j => (k = 191 ∧ (j = 46 ∨ j = 47 ∨ j = 48))
theorem fr_MO_goesFrom_L113 {x1 : Int} {x2 : Int} {bk41 : Mem → Int → Int → Option (Mem)} {v2_ : Int} {v3_ : Int} {W : Nat → Int → Prop} {M0 : Mem} (hW : ∀ k j, (W_MO_goesFrom_L113) k j → W k j) (hbk41 : ∀ (a0_ : Mem) (a1_ : Int) (a2_ : Int), Fr W M0 a0_ → Post (fun r => Fr W M0 r) (bk41 a0_ a1_ a2_)) {M : Mem} (h : Fr W M0 M) : Post (fun r => Fr W M0 r) (t_MO_goesFrom_L113 x1 x2 bk41 M v2_ v3_) := by
  unfold t_MO_goesFrom_L113
  refine post_guard (fun c_1 => ?_)
  refine post_ite (fun c_2 => ?_) (fun c_2 => ?_)
  · exact hbk41 _ _ _ h
  · refine post_guard (fun c_3 => ?_)
    refine post_let (fun M27 e_M27 => ?_)
    have h_M27 : Fr W M0 M27 := by rw [e_M27]; exact Fr.setI h (hW _ _ ⟨rfl, (Or.inl rfl)⟩)
    refine post_guard (fun c_4 => ?_)
    refine post_let (fun M30 e_M30 => ?_)
    have h_M30 : Fr W M0 M30 := by rw [e_M30]; exact Fr.setI h_M27 (hW _ _ ⟨rfl, (Or.inr (Or.inr rfl))⟩)
    refine post_let (fun M31 e_M31 => ?_)
    have h_M31 : Fr W M0 M31 := by rw [e_M31]; exact Fr.setI h_M30 (hW _ _ ⟨rfl, (Or.inr (Or.inl rfl))⟩)
    exact post_some h_M31
def W_MO_goesFrom_L103 : Nat → Int → Prop := fun k j => (k = 191 ∧ (j = 46 ∨ j = 47 ∨ j = 48 ∨ j = 49))
theorem fr_MO_goesFrom_L103 {x1 : Int} {x2 : Int} {bk41 : Mem → Int → Int → Option (Mem)} {v2_ : Int} {v3_ : Int} {W : Nat → Int → Prop} {M0 : Mem} (hW : ∀ k j, (W_MO_goesFrom_L103) k j → W k j) (hbk41 : ∀ (a0_ : Mem) (a1_ : Int) (a2_ : Int), Fr W M0 a0_ → Post (fun r => Fr W M0 r) (bk41 a0_ a1_ a2_)) {M : Mem} (h : Fr W M0 M) : Post (fun r => Fr W M0 r) (t_MO_goesFrom_L103 x1 x2 bk41 M v2_ v3_) := by
  unfold t_MO_goesFrom_L103
  refine post_let (fun M33 e_M33 => ?_)
  have h_M33 : Fr W M0 M33 := by rw [e_M33]; exact Fr.setI h (hW _ _ ⟨rfl, (Or.inr (Or.inr (Or.inr rfl)))⟩)
  exact (fr_MO_goesFrom_L113 (fun k j hk => hW k j ⟨(hk).1, (Or.elim (hk).2 (fun h => (Or.inl h)) (fun h => (Or.elim h (fun h => (Or.inr (Or.inl h))) (fun h => (Or.inr (Or.inr (Or.inl h)))))))⟩) hbk41 h_M33)
def W_MO_goesFrom_L41 : Nat → Int → Prop := fun k j => (k = 191 ∧ (j = 46 ∨ j = 47 ∨ j = 48 ∨ j = 49 ∨ j = 50)) ∨ k = 219
theorem fr_MO_goesFrom_L41 {x1 : Int} {x2 : Int} {W : Nat → Int → Prop} {M0 : Mem} (hW : ∀ k j, (W_MO_goesFrom_L41) k j → W k j)  : ∀ (fu : Nat) (M : Mem) (v2_ : Int) (v3_ : Int), Fr W M0 M → Post (fun r => Fr W M0 r) (t_MO_goesFrom_L41 x1 x2 fu M v2_ v3_) := by
  intro fu
  induction fu with
  | zero => intro M v2_ v3_ h; exact post_none
  | succ fu ih =>
    intro M v2_ v3_ h
    rw [t_MO_goesFrom_L41]
    refine post_guard (fun c_1 => ?_)
    refine post_let (fun M8 e_M8 => ?_)
    have h_M8 : Fr W M0 M8 := by rw [e_M8]; exact Fr.setI h (hW _ _ (Or.inr rfl))
    refine post_bindv (fun q9 => ?_)
    refine post_ite (fun c_2 => ?_) (fun c_2 => ?_)
    · refine post_let (fun M20 e_M20 => ?_)
      have h_M20 : Fr W M0 M20 := by rw [e_M20]; exact Fr.setI h_M8 (hW _ _ (Or.inl ⟨rfl, (Or.inl rfl)⟩))
      refine post_let (fun M21 e_M21 => ?_)
      have h_M21 : Fr W M0 M21 := by rw [e_M21]; exact Fr.setI h_M20 (hW _ _ (Or.inl ⟨rfl, (Or.inr (Or.inl rfl))⟩))
      exact post_some h_M21
    · refine post_bindv (fun q12 => ?_)
      refine post_ite (fun c_3 => ?_) (fun c_3 => ?_)
      · exact (fr_MO_goesFrom_L113 (fun k j hk => hW k j (Or.inl ⟨(hk).1, (Or.elim (hk).2 (fun h => (Or.inl h)) (fun h => (Or.elim h (fun h => (Or.inr (Or.inl h))) (fun h => (Or.inr (Or.inr (Or.inl h)))))))⟩)) (fun a0_ a1_ a2_ h9 => ih a0_ a1_ a2_ h9) h_M8)
      · refine post_ite (fun c_4 => ?_) (fun c_4 => ?_)
        · refine post_guard (fun c_5 => ?_)
          refine post_let (fun M19 e_M19 => ?_)
          have h_M19 : Fr W M0 M19 := by rw [e_M19]; exact Fr.setI h_M8 (hW _ _ (Or.inl ⟨rfl, (Or.inr (Or.inr (Or.inr (Or.inr rfl))))⟩))
          exact (fr_MO_goesFrom_L103 (fun k j hk => hW k j (Or.inl ⟨(hk).1, (Or.elim (hk).2 (fun h => (Or.inl h)) (fun h => (Or.elim h (fun h => (Or.inr (Or.inl h))) (fun h => (Or.elim h (fun h => (Or.inr (Or.inr (Or.inl h)))) (fun h => (Or.inr (Or.inr (Or.inr (Or.inl h))))))))))⟩)) (fun a0_ a1_ a2_ h9 => ih a0_ a1_ a2_ h9) h_M19)
        · exact (fr_MO_goesFrom_L103 (fun k j hk => hW k j (Or.inl ⟨(hk).1, (Or.elim (hk).2 (fun h => (Or.inl h)) (fun h => (Or.elim h (fun h => (Or.inr (Or.inl h))) (fun h => (Or.elim h (fun h => (Or.inr (Or.inr (Or.inl h)))) (fun h => (Or.inr (Or.inr (Or.inr (Or.inl h))))))))))⟩)) (fun a0_ a1_ a2_ h9 => ih a0_ a1_ a2_ h9) h_M8)
def W_MO_goesFrom_L2 : Nat → Int → Prop := fun k j => (k = 191 ∧ (j = 46 ∨ j = 47 ∨ j = 48 ∨ j = 49 ∨ j = 50)) ∨ k = 219
theorem fr_MO_goesFrom_L2 {x1 : Int} {x2 : Int} {W : Nat → Int → Prop} {M0 : Mem} (hW : ∀ k j, (W_MO_goesFrom_L2) k j → W k j)  : ∀ (fu : Nat) (M : Mem) (v3_ : Int), Fr W M0 M → Post (fun r => Fr W M0 r) (t_MO_goesFrom_L2 x1 x2 fu M v3_) := by
  intro fu
  induction fu with
  | zero => intro M v3_ h; exact post_none
  | succ fu ih =>
    intro M v3_ h
    rw [t_MO_goesFrom_L2]
    refine post_ite (fun c_1 => ?_) (fun c_1 => ?_)
    · refine post_let (fun M2 e_M2 => ?_)
      have h_M2 : Fr W M0 M2 := by rw [e_M2]; exact Fr.setI h (hW _ _ (Or.inl ⟨rfl, (Or.inr (Or.inr (Or.inr (Or.inl rfl))))⟩))
      refine post_let (fun M3 e_M3 => ?_)
      have h_M3 : Fr W M0 M3 := by rw [e_M3]; exact Fr.setI h_M2 (hW _ _ (Or.inl ⟨rfl, (Or.inr (Or.inr (Or.inr (Or.inr rfl))))⟩))
      refine post_let (fun M4 e_M4 => ?_)
      have h_M4 : Fr W M0 M4 := by rw [e_M4]; exact Fr.setI h_M3 (hW _ _ (Or.inl ⟨rfl, (Or.inr (Or.inr (Or.inl rfl)))⟩))
      exact (fr_MO_goesFrom_L41 (fun k j hk => hW k j (Or.elim hk (fun h => (Or.inl ⟨(h).1, (Or.elim (h).2 (fun h => (Or.inl h)) (fun h => (Or.elim h (fun h => (Or.inr (Or.inl h))) (fun h => (Or.elim h (fun h => (Or.inr (Or.inr (Or.inl h)))) (fun h => (Or.elim h (fun h => (Or.inr (Or.inr (Or.inr (Or.inl h))))) (fun h => (Or.inr (Or.inr (Or.inr (Or.inr h))))))))))))⟩)) (fun h => (Or.inr h))))  _ _ _ _ h_M4)
    · refine post_guard (fun c_2 => ?_)
      refine post_let (fun M6 e_M6 => ?_)
      have h_M6 : Fr W M0 M6 := by rw [e_M6]; exact Fr.setI h (hW _ _ (Or.inr rfl))
      exact (ih _ _ h_M6)
def W_MO_goesFrom : Nat → Int → Prop := fun k j => (k = 191 ∧ (j = 46 ∨ j = 47 ∨ j = 48 ∨ j = 49 ∨ j = 50)) ∨ k = 219
theorem fr_MO_goesFrom {x1 : Int} {x2 : Int} {W : Nat → Int → Prop} {M0 : Mem} (hW : ∀ k j, (W_MO_goesFrom) k j → W k j)  {M : Mem} (h : Fr W M0 M) : Post (fun r => Fr W M0 r) (t_MO_goesFrom M x1 x2) := by
  unfold t_MO_goesFrom
  exact (fr_MO_goesFrom_L2 (fun k j hk => hW k j (Or.elim hk (fun h => (Or.inl ⟨(h).1, (Or.elim (h).2 (fun h => (Or.inl h)) (fun h => (Or.elim h (fun h => (Or.inr (Or.inl h))) (fun h => (Or.elim h (fun h => (Or.inr (Or.inr (Or.inl h)))) (fun h => (Or.elim h (fun h => (Or.inr (Or.inr (Or.inr (Or.inl h))))) (fun h => (Or.inr (Or.inr (Or.inr (Or.inr h))))))))))))⟩)) (fun h => (Or.inr h))))  _ _ _ h)
def W_MO_cell_L28 : Nat → Int → Prop := fun k j => (k = 191 ∧ (j = 0))
theorem fr_MO_cell_L28 {x1 : Int} {x2 : Int} {v4_ : Int} {W : Nat → Int → Prop} {M0 : Mem} (hW : ∀ k j, (W_MO_cell_L28) k j → W k j)  {M : Mem} (h : Fr W M0 M) : Post (fun r => Fr W M0 r.1) (t_MO_cell_L28 x1 x2 M v4_) := by
  unfold t_MO_cell_L28
  refine post_let (fun M6 e_M6 => ?_)
  have h_M6 : Fr W M0 M6 := by rw [e_M6]; exact Fr.setI h (hW _ _ ⟨rfl, rfl⟩)
  refine post_ite (fun c_1 => ?_) (fun c_1 => ?_)
  · refine post_ite (fun c_2 => ?_) (fun c_2 => ?_)
    · refine post_guard (fun c_3 => ?_)
      exact post_some h_M6
    · refine post_ite (fun c_4 => ?_) (fun c_4 => ?_)
      · refine post_guard (fun c_5 => ?_)
        refine post_ite (fun c_6 => ?_) (fun c_6 => ?_)
        · exact post_some h_M6
        · exact post_some h_M6
      · refine post_ite (fun c_7 => ?_) (fun c_7 => ?_)
        · refine post_guard (fun c_8 => ?_)
          refine post_ite (fun c_9 => ?_) (fun c_9 => ?_)
          · exact post_some h_M6
          · exact post_some h_M6
        · refine post_ite (fun c_10 => ?_) (fun c_10 => ?_)
          · exact post_some h_M6
          · refine post_ite (fun c_11 => ?_) (fun c_11 => ?_)
            · exact post_some h_M6
            · refine post_ite (fun c_12 => ?_) (fun c_12 => ?_)
              · refine post_bindv (fun q23 => ?_)
                exact post_some h_M6
              · refine post_ite (fun c_13 => ?_) (fun c_13 => ?_)
                · refine post_guard (fun c_14 => ?_)
                  refine post_ite (fun c_15 => ?_) (fun c_15 => ?_)
                  · refine post_bindv (fun q29 => ?_)
                    exact post_some h_M6
                  · exact post_some h_M6
                · refine post_bindv (fun q31 => ?_)
                  refine post_ite (fun c_16 => ?_) (fun c_16 => ?_)
                  · exact post_some h_M6
                  · exact post_some h_M6
  · exact post_some h_M6
def W_MO_cell_L23 : Nat → Int → Prop := fun k j => (k = 191 ∧ (j = 0))
theorem fr_MO_cell_L23 {x1 : Int} {x2 : Int} {W : Nat → Int → Prop} {M0 : Mem} (hW : ∀ k j, (W_MO_cell_L23) k j → W k j)  {M : Mem} (h : Fr W M0 M) : Post (fun r => Fr W M0 r.1) (t_MO_cell_L23 x1 x2 M) := by
  unfold t_MO_cell_L23
  exact (fr_MO_cell_L28 (fun k j hk => hW k j ⟨(hk).1, (hk).2⟩)  h)
def W_MO_cell : Nat → Int → Prop := fun k j => (k = 191 ∧ (j = 0))
theorem fr_MO_cell {x1 : Int} {x2 : Int} {W : Nat → Int → Prop} {M0 : Mem} (hW : ∀ k j, (W_MO_cell) k j → W k j)  {M : Mem} (h : Fr W M0 M) : Post (fun r => Fr W M0 r.1) (t_MO_cell M x1 x2) := by
  unfold t_MO_cell
  refine post_let (fun q1 _ => ?_)
  refine post_ite (fun c_1 => ?_) (fun c_1 => ?_)
  · exact (fr_MO_cell_L28 (fun k j hk => hW k j ⟨(hk).1, (hk).2⟩)  h)
  · refine post_ite (fun c_2 => ?_) (fun c_2 => ?_)
    · exact (fr_MO_cell_L23 (fun k j hk => hW k j ⟨(hk).1, (hk).2⟩)  h)
    · refine post_ite (fun c_3 => ?_) (fun c_3 => ?_)
      · exact (fr_MO_cell_L28 (fun k j hk => hW k j ⟨(hk).1, (hk).2⟩)  h)
      · exact (fr_MO_cell_L23 (fun k j hk => hW k j ⟨(hk).1, (hk).2⟩)  h)
def W_MO_callsJoy_L97 : Nat → Int → Prop := fun k j => False
theorem fr_MO_callsJoy_L97 {x1 : Int} {x2 : Int} {bk11 : Mem → Int → Int → Int → Int → Option (Mem)} {v3_ : Int} {v4_ : Int} {v5_ : Int} {v6_ : Int} {W : Nat → Int → Prop} {M0 : Mem} (hW : ∀ k j, (W_MO_callsJoy_L97) k j → W k j) (hbk11 : ∀ (a0_ : Mem) (a1_ : Int) (a2_ : Int) (a3_ : Int) (a4_ : Int), Fr W M0 a0_ → Post (fun r => Fr W M0 r) (bk11 a0_ a1_ a2_ a3_ a4_)) {M : Mem} (h : Fr W M0 M) : Post (fun r => Fr W M0 r) (t_MO_callsJoy_L97 x1 x2 bk11 M v3_ v4_ v5_ v6_) := by
  unfold t_MO_callsJoy_L97
  exact hbk11 _ _ _ _ _ h
def W_MO_callsJoy_L94 : Nat → Int → Prop := fun k j => False
theorem fr_MO_callsJoy_L94 {x1 : Int} {x2 : Int} {bk11 : Mem → Int → Int → Int → Int → Option (Mem)} {v3_ : Int} {v4_ : Int} {v5_ : Int} {v6_ : Int} {v7_ : Int} {W : Nat → Int → Prop} {M0 : Mem} (hW : ∀ k j, (W_MO_callsJoy_L94) k j → W k j) (hbk11 : ∀ (a0_ : Mem) (a1_ : Int) (a2_ : Int) (a3_ : Int) (a4_ : Int), Fr W M0 a0_ → Post (fun r => Fr W M0 r) (bk11 a0_ a1_ a2_ a3_ a4_)) {M : Mem} (h : Fr W M0 M) : Post (fun r => Fr W M0 r) (t_MO_callsJoy_L94 x1 x2 bk11 M v3_ v4_ v5_ v6_ v7_) := by
  unfold t_MO_callsJoy_L94
  exact (fr_MO_callsJoy_L97 (fun k j hk => hk.elim) hbk11 h)
def W_MO_callsJoy_L11 : Nat → Int → Prop := fun k j => (k = 191 ∧ (j = 46 ∨ j = 47 ∨ j = 48 ∨ j = 49 ∨ j = 50)) ∨ k = 219 ∨ (k = 220 ∧ (j = 0 ∨ j = 1 ∨ j = 2 ∨ j = 3 ∨ j = 4 ∨ j = 5 ∨ j = 6))
theorem fr_MO_callsJoy_L11 {x1 : Int} {x2 : Int} {W : Nat → Int → Prop} {M0 : Mem} (hW : ∀ k j, (W_MO_callsJoy_L11) k j → W k j)  : ∀ (fu : Nat) (M : Mem) (v3_ : Int) (v4_ : Int) (v5_ : Int) (v6_ : Int), Fr W M0 M → Post (fun r => Fr W M0 r) (t_MO_callsJoy_L11 x1 x2 fu M v3_ v4_ v5_ v6_) := by
  intro fu
  induction fu with
  | zero => intro M v3_ v4_ v5_ v6_ h; exact post_none
  | succ fu ih =>
    intro M v3_ v4_ v5_ v6_ h
    rw [t_MO_callsJoy_L11]
    refine post_ite (fun c_1 => ?_) (fun c_1 => ?_)
    · refine post_guard (fun c_2 => ?_)
      refine post_let (fun M5 e_M5 => ?_)
      have h_M5 : Fr W M0 M5 := by rw [e_M5]; exact Fr.setL h (hW _ _ (Or.inr (Or.inr ⟨rfl, (Or.inl rfl)⟩)))
      refine post_bindv (fun q6 => ?_)
      refine post_let (fun M8 e_M8 => ?_)
      have h_M8 : Fr W M0 M8 := by rw [e_M8]; exact Fr.setL h_M5 (hW _ _ (Or.inr (Or.inr ⟨rfl, (Or.inr (Or.inl rfl))⟩)))
      refine post_let (fun M9 e_M9 => ?_)
      have h_M9 : Fr W M0 M9 := by rw [e_M9]; exact Fr.setL h_M8 (hW _ _ (Or.inr (Or.inr ⟨rfl, (Or.inr (Or.inr (Or.inl rfl)))⟩)))
      refine post_let (fun M10 e_M10 => ?_)
      have h_M10 : Fr W M0 M10 := by rw [e_M10]; exact Fr.setL h_M9 (hW _ _ (Or.inr (Or.inr ⟨rfl, (Or.inr (Or.inr (Or.inr (Or.inl rfl))))⟩)))
      refine post_let (fun M11 e_M11 => ?_)
      have h_M11 : Fr W M0 M11 := by rw [e_M11]; exact Fr.setL h_M10 (hW _ _ (Or.inr (Or.inr ⟨rfl, (Or.inr (Or.inr (Or.inr (Or.inr (Or.inl rfl)))))⟩)))
      refine post_let (fun M12 e_M12 => ?_)
      have h_M12 : Fr W M0 M12 := by rw [e_M12]; exact Fr.setL h_M11 (hW _ _ (Or.inr (Or.inr ⟨rfl, (Or.inr (Or.inr (Or.inr (Or.inr (Or.inr (Or.inl rfl))))))⟩)))
      refine post_guard (fun c_3 => ?_)
      refine post_let (fun M15 e_M15 => ?_)
      have h_M15 : Fr W M0 M15 := by rw [e_M15]; exact Fr.setL h_M12 (hW _ _ (Or.inr (Or.inr ⟨rfl, (Or.inr (Or.inr (Or.inr (Or.inr (Or.inr (Or.inr rfl))))))⟩)))
      exact post_some h_M15
    · refine post_guard (fun c_4 => ?_)
      refine post_bind (Q := fun r => Fr W M0 r) (fr_MO_goesFrom (fun k j hk => hW k j (Or.elim hk (fun h => (Or.inl ⟨(h).1, (Or.elim (h).2 (fun h => (Or.inl h)) (fun h => (Or.elim h (fun h => (Or.inr (Or.inl h))) (fun h => (Or.elim h (fun h => (Or.inr (Or.inr (Or.inl h)))) (fun h => (Or.elim h (fun h => (Or.inr (Or.inr (Or.inr (Or.inl h))))) (fun h => (Or.inr (Or.inr (Or.inr (Or.inr h))))))))))))⟩)) (fun h => (Or.inr (Or.inl h)))))  h) (fun q18 h_q18 => ?_)
      refine post_ite (fun c_5 => ?_) (fun c_5 => ?_)
      · exact (fr_MO_callsJoy_L97 (fun k j hk => hk.elim) (fun a0_ a1_ a2_ a3_ a4_ h9 => ih a0_ a1_ a2_ a3_ a4_ h9) h_q18)
      · refine post_guard (fun c_6 => ?_)
        refine post_ite (fun c_7 => ?_) (fun c_7 => ?_)
        · refine post_guard (fun c_8 => ?_)
          refine post_ite (fun c_9 => ?_) (fun c_9 => ?_)
          · exact (fr_MO_callsJoy_L94 (fun k j hk => hk.elim) (fun a0_ a1_ a2_ a3_ a4_ h9 => ih a0_ a1_ a2_ a3_ a4_ h9) h_q18)
          · exact (fr_MO_callsJoy_L94 (fun k j hk => hk.elim) (fun a0_ a1_ a2_ a3_ a4_ h9 => ih a0_ a1_ a2_ a3_ a4_ h9) h_q18)
        · exact (fr_MO_callsJoy_L97 (fun k j hk => hk.elim) (fun a0_ a1_ a2_ a3_ a4_ h9 => ih a0_ a1_ a2_ a3_ a4_ h9) h_q18)
def W_MO_callsJoy : Nat → Int → Prop := fun k j => (k = 191 ∧ (j = 46 ∨ j = 47 ∨ j = 48 ∨ j = 49 ∨ j = 50)) ∨ k = 219 ∨ (k = 220 ∧ (j = 0 ∨ j = 1 ∨ j = 2 ∨ j = 3 ∨ j = 4 ∨ j = 5 ∨ j = 6))
theorem fr_MO_callsJoy {x1 : Int} {x2 : Int} {W : Nat → Int → Prop} {M0 : Mem} (hW : ∀ k j, (W_MO_callsJoy) k j → W k j)  {M : Mem} (h : Fr W M0 M) : Post (fun r => Fr W M0 r) (t_MO_callsJoy M x1 x2) := by
  unfold t_MO_callsJoy
  exact (fr_MO_callsJoy_L11 (fun k j hk => hW k j (Or.elim hk (fun h => (Or.inl ⟨(h).1, (Or.elim (h).2 (fun h => (Or.inl h)) (fun h => (Or.elim h (fun h => (Or.inr (Or.inl h))) (fun h => (Or.elim h (fun h => (Or.inr (Or.inr (Or.inl h)))) (fun h => (Or.elim h (fun h => (Or.inr (Or.inr (Or.inr (Or.inl h))))) (fun h => (Or.inr (Or.inr (Or.inr (Or.inr h))))))))))))⟩)) (fun h => (Or.elim h (fun h => (Or.inr (Or.inl h))) (fun h => (Or.inr (Or.inr ⟨(h).1, (Or.elim (h).2 (fun h => (Or.inl h)) (fun h => (Or.elim h (fun h => (Or.inr (Or.inl h))) (fun h => (Or.elim h (fun h => (Or.inr (Or.inr (Or.inl h)))) (fun h => (Or.elim h (fun h => (Or.inr (Or.inr (Or.inr (Or.inl h))))) (fun h => (Or.elim h (fun h => (Or.inr (Or.inr (Or.inr (Or.inr (Or.inl h)))))) (fun h => (Or.elim h (fun h => (Or.inr (Or.inr (Or.inr (Or.inr (Or.inr (Or.inl h))))))) (fun h => (Or.inr (Or.inr (Or.inr (Or.inr (Or.inr (Or.inr h))))))))))))))))))⟩)))))))  _ _ _ _ _ _ h)
def W_MO_works_L40 : Nat → Int → Prop := fun k j => k = 221
theorem fr_MO_works_L40 {x1 : Int} {v1_ : Int} {v2_ : Int} {W : Nat → Int → Prop} {M0 : Mem} (hW : ∀ k j, (W_MO_works_L40) k j → W k j)  {M : Mem} (h : Fr W M0 M) : Post (fun r => Fr W M0 r.1) (t_MO_works_L40 x1 M v1_ v2_) := by
  unfold t_MO_works_L40
  refine post_let (fun q56 _ => ?_)
  refine post_guard (fun c_1 => ?_)
  refine post_let (fun M59 e_M59 => ?_)
  have h_M59 : Fr W M0 M59 := by rw [e_M59]; exact Fr.setL h (hW _ _ rfl)
  exact post_some h_M59
def W_MO_works_L407 : Nat → Int → Prop := fun k j => k = 221
theorem fr_MO_works_L407 {x1 : Int} {v1_ : Int64} {W : Nat → Int → Prop} {M0 : Mem} (hW : ∀ k j, (W_MO_works_L407) k j → W k j)  {M : Mem} (h : Fr W M0 M) : Post (fun r => Fr W M0 r.1) (t_MO_works_L407 x1 M v1_) := by
  unfold t_MO_works_L407
  refine post_guard (fun c_1 => ?_)
  refine post_let (fun M37 e_M37 => ?_)
  have h_M37 : Fr W M0 M37 := by rw [e_M37]; exact Fr.setL h (hW _ _ rfl)
  refine post_ite (fun c_2 => ?_) (fun c_2 => ?_)
  · exact post_some h_M37
  · refine post_ite (fun c_3 => ?_) (fun c_3 => ?_)
    · exact post_some h_M37
    · exact post_some h_M37
def W_MO_works_L212 : Nat → Int → Prop := fun k j => k = 221
theorem fr_MO_works_L212 {x1 : Int} {v1_ : Int64} {v2_ : Int64} {W : Nat → Int → Prop} {M0 : Mem} (hW : ∀ k j, (W_MO_works_L212) k j → W k j)  {M : Mem} (h : Fr W M0 M) : Post (fun r => Fr W M0 r.1) (t_MO_works_L212 x1 M v1_ v2_) := by
  unfold t_MO_works_L212
  exact (fr_MO_works_L407 (fun k j hk => hW k j hk)  h)
def W_MO_works_L250 : Nat → Int → Prop := fun k j => k = 221
theorem fr_MO_works_L250 {x1 : Int} {v1_ : Int} {W : Nat → Int → Prop} {M0 : Mem} (hW : ∀ k j, (W_MO_works_L250) k j → W k j)  {M : Mem} (h : Fr W M0 M) : Post (fun r => Fr W M0 r.1) (t_MO_works_L250 x1 M v1_) := by
  unfold t_MO_works_L250
  refine post_let (fun q40 _ => ?_)
  exact (fr_MO_works_L407 (fun k j hk => hW k j hk)  h)
def W_MO_works_L270 : Nat → Int → Prop := fun k j => k = 221
theorem fr_MO_works_L270 {x1 : Int} {v1_ : Int} {W : Nat → Int → Prop} {M0 : Mem} (hW : ∀ k j, (W_MO_works_L270) k j → W k j)  {M : Mem} (h : Fr W M0 M) : Post (fun r => Fr W M0 r.1) (t_MO_works_L270 x1 M v1_) := by
  unfold t_MO_works_L270
  refine post_let (fun q44 _ => ?_)
  exact (fr_MO_works_L407 (fun k j hk => hW k j hk)  h)
def W_MO_works_L290 : Nat → Int → Prop := fun k j => k = 221
theorem fr_MO_works_L290 {x1 : Int} {v1_ : Int} {W : Nat → Int → Prop} {M0 : Mem} (hW : ∀ k j, (W_MO_works_L290) k j → W k j)  {M : Mem} (h : Fr W M0 M) : Post (fun r => Fr W M0 r.1) (t_MO_works_L290 x1 M v1_) := by
  unfold t_MO_works_L290
  refine post_let (fun q42 _ => ?_)
  exact (fr_MO_works_L407 (fun k j hk => hW k j hk)  h)
def W_MO_works_L310 : Nat → Int → Prop := fun k j => k = 221
theorem fr_MO_works_L310 {x1 : Int} {v1_ : Int} {W : Nat → Int → Prop} {M0 : Mem} (hW : ∀ k j, (W_MO_works_L310) k j → W k j)  {M : Mem} (h : Fr W M0 M) : Post (fun r => Fr W M0 r.1) (t_MO_works_L310 x1 M v1_) := by
  unfold t_MO_works_L310
  refine post_let (fun q46 _ => ?_)
  exact (fr_MO_works_L407 (fun k j hk => hW k j hk)  h)
def W_MO_works_L330 : Nat → Int → Prop := fun k j => k = 221
theorem fr_MO_works_L330 {x1 : Int} {v1_ : Int} {W : Nat → Int → Prop} {M0 : Mem} (hW : ∀ k j, (W_MO_works_L330) k j → W k j)  {M : Mem} (h : Fr W M0 M) : Post (fun r => Fr W M0 r.1) (t_MO_works_L330 x1 M v1_) := by
  unfold t_MO_works_L330
  refine post_let (fun q50 _ => ?_)
  exact (fr_MO_works_L407 (fun k j hk => hW k j hk)  h)
def W_MO_works_L350 : Nat → Int → Prop := fun k j => k = 221
theorem fr_MO_works_L350 {x1 : Int} {v1_ : Int} {W : Nat → Int → Prop} {M0 : Mem} (hW : ∀ k j, (W_MO_works_L350) k j → W k j)  {M : Mem} (h : Fr W M0 M) : Post (fun r => Fr W M0 r.1) (t_MO_works_L350 x1 M v1_) := by
  unfold t_MO_works_L350
  refine post_let (fun q48 _ => ?_)
  exact (fr_MO_works_L407 (fun k j hk => hW k j hk)  h)
def W_MO_works_L376 : Nat → Int → Prop := fun k j => k = 221
theorem fr_MO_works_L376 {x1 : Int} {v1_ : Int} {W : Nat → Int → Prop} {M0 : Mem} (hW : ∀ k j, (W_MO_works_L376) k j → W k j)  {M : Mem} (h : Fr W M0 M) : Post (fun r => Fr W M0 r.1) (t_MO_works_L376 x1 M v1_) := by
  unfold t_MO_works_L376
  refine post_let (fun q52 _ => ?_)
  exact (fr_MO_works_L407 (fun k j hk => hW k j hk)  h)
def W_MO_works_L375 : Nat → Int → Prop := fun k j => k = 221
theorem fr_MO_works_L375 {x1 : Int} {W : Nat → Int → Prop} {M0 : Mem} (hW : ∀ k j, (W_MO_works_L375) k j → W k j)  {M : Mem} (h : Fr W M0 M) : Post (fun r => Fr W M0 r.1) (t_MO_works_L375 x1 M) := by
  unfold t_MO_works_L375
  exact (fr_MO_works_L376 (fun k j hk => hW k j hk)  h)
def W_MO_works_L402 : Nat → Int → Prop := fun k j => k = 221
theorem fr_MO_works_L402 {x1 : Int} {v1_ : Int} {W : Nat → Int → Prop} {M0 : Mem} (hW : ∀ k j, (W_MO_works_L402) k j → W k j)  {M : Mem} (h : Fr W M0 M) : Post (fun r => Fr W M0 r.1) (t_MO_works_L402 x1 M v1_) := by
  unfold t_MO_works_L402
  refine post_let (fun q54 _ => ?_)
  exact (fr_MO_works_L407 (fun k j hk => hW k j hk)  h)
def W_MO_works_L397 : Nat → Int → Prop := fun k j => k = 221
theorem fr_MO_works_L397 {x1 : Int} {W : Nat → Int → Prop} {M0 : Mem} (hW : ∀ k j, (W_MO_works_L397) k j → W k j)  {M : Mem} (h : Fr W M0 M) : Post (fun r => Fr W M0 r.1) (t_MO_works_L397 x1 M) := by
  unfold t_MO_works_L397
  exact (fr_MO_works_L402 (fun k j hk => hW k j hk)  h)
def W_MO_works : Nat → Int → Prop := fun k j => (k = 191 ∧ (j = 54)) ∨ k = 221
theorem fr_MO_works {x1 : Int} {W : Nat → Int → Prop} {M0 : Mem} (hW : ∀ k j, (W_MO_works) k j → W k j)  {M : Mem} (h : Fr W M0 M) : Post (fun r => Fr W M0 r.1) (t_MO_works M x1) := by
  unfold t_MO_works
  refine post_guard (fun c_1 => ?_)
  refine post_ite (fun c_2 => ?_) (fun c_2 => ?_)
  · refine post_ite (fun c_3 => ?_) (fun c_3 => ?_)
    · exact (fr_MO_works_L40 (fun k j hk => hW k j (Or.inr hk))  h)
    · exact (fr_MO_works_L40 (fun k j hk => hW k j (Or.inr hk))  h)
  · refine post_guard (fun c_4 => ?_)
    refine post_let (fun M7 e_M7 => ?_)
    have h_M7 : Fr W M0 M7 := by rw [e_M7]; exact Fr.setI h (hW _ _ (Or.inl ⟨rfl, rfl⟩))
    refine post_ite (fun c_5 => ?_) (fun c_5 => ?_)
    · refine post_ite (fun c_6 => ?_) (fun c_6 => ?_)
      · exact (fr_MO_works_L212 (fun k j hk => hW k j (Or.inr hk))  h_M7)
      · refine post_ite (fun c_7 => ?_) (fun c_7 => ?_)
        · exact post_none
        · refine post_ite (fun c_8 => ?_) (fun c_8 => ?_)
          · exact (fr_MO_works_L212 (fun k j hk => hW k j (Or.inr hk))  h_M7)
          · exact post_some h_M7
    · refine post_ite (fun c_9 => ?_) (fun c_9 => ?_)
      · exact (fr_MO_works_L407 (fun k j hk => hW k j (Or.inr hk))  h_M7)
      · refine post_ite (fun c_10 => ?_) (fun c_10 => ?_)
        · exact (fr_MO_works_L407 (fun k j hk => hW k j (Or.inr hk))  h_M7)
        · refine post_ite (fun c_11 => ?_) (fun c_11 => ?_)
          · refine post_ite (fun c_12 => ?_) (fun c_12 => ?_)
            · exact post_some h_M7
            · exact (fr_MO_works_L407 (fun k j hk => hW k j (Or.inr hk))  h_M7)
          · refine post_ite (fun c_13 => ?_) (fun c_13 => ?_)
            · refine post_ite (fun c_14 => ?_) (fun c_14 => ?_)
              · exact (fr_MO_works_L250 (fun k j hk => hW k j (Or.inr hk))  h_M7)
              · exact (fr_MO_works_L250 (fun k j hk => hW k j (Or.inr hk))  h_M7)
            · refine post_ite (fun c_15 => ?_) (fun c_15 => ?_)
              · refine post_ite (fun c_16 => ?_) (fun c_16 => ?_)
                · exact (fr_MO_works_L290 (fun k j hk => hW k j (Or.inr hk))  h_M7)
                · exact (fr_MO_works_L290 (fun k j hk => hW k j (Or.inr hk))  h_M7)
              · refine post_ite (fun c_17 => ?_) (fun c_17 => ?_)
                · refine post_ite (fun c_18 => ?_) (fun c_18 => ?_)
                  · exact (fr_MO_works_L270 (fun k j hk => hW k j (Or.inr hk))  h_M7)
                  · exact (fr_MO_works_L270 (fun k j hk => hW k j (Or.inr hk))  h_M7)
                · refine post_ite (fun c_19 => ?_) (fun c_19 => ?_)
                  · refine post_ite (fun c_20 => ?_) (fun c_20 => ?_)
                    · exact (fr_MO_works_L310 (fun k j hk => hW k j (Or.inr hk))  h_M7)
                    · exact (fr_MO_works_L310 (fun k j hk => hW k j (Or.inr hk))  h_M7)
                  · refine post_ite (fun c_21 => ?_) (fun c_21 => ?_)
                    · refine post_ite (fun c_22 => ?_) (fun c_22 => ?_)
                      · exact (fr_MO_works_L350 (fun k j hk => hW k j (Or.inr hk))  h_M7)
                      · exact (fr_MO_works_L350 (fun k j hk => hW k j (Or.inr hk))  h_M7)
                    · refine post_ite (fun c_23 => ?_) (fun c_23 => ?_)
                      · refine post_ite (fun c_24 => ?_) (fun c_24 => ?_)
                        · exact (fr_MO_works_L330 (fun k j hk => hW k j (Or.inr hk))  h_M7)
                        · exact (fr_MO_works_L330 (fun k j hk => hW k j (Or.inr hk))  h_M7)
                      · refine post_ite (fun c_25 => ?_) (fun c_25 => ?_)
                        · refine post_ite (fun c_26 => ?_) (fun c_26 => ?_)
                          · exact (fr_MO_works_L375 (fun k j hk => hW k j (Or.inr hk))  h_M7)
                          · refine post_ite (fun c_27 => ?_) (fun c_27 => ?_)
                            · exact (fr_MO_works_L375 (fun k j hk => hW k j (Or.inr hk))  h_M7)
                            · exact (fr_MO_works_L376 (fun k j hk => hW k j (Or.inr hk))  h_M7)
                        · refine post_ite (fun c_28 => ?_) (fun c_28 => ?_)
                          · refine post_ite (fun c_29 => ?_) (fun c_29 => ?_)
                            · exact (fr_MO_works_L402 (fun k j hk => hW k j (Or.inr hk))  h_M7)
                            · exact (fr_MO_works_L397 (fun k j hk => hW k j (Or.inr hk))  h_M7)
                          · exact (fr_MO_works_L397 (fun k j hk => hW k j (Or.inr hk))  h_M7)
def W_MO_goes_L96 : Nat → Int → Prop := fun k j => False
theorem fr_MO_goes_L96 {x1 : Int} {bk12 : Mem → Int → Option (Mem × Int)} {v2_ : Int} {W : Nat → Int → Prop} {M0 : Mem} (hW : ∀ k j, (W_MO_goes_L96) k j → W k j) (hbk12 : ∀ (a0_ : Mem) (a1_ : Int), Fr W M0 a0_ → Post (fun r => Fr W M0 r.1) (bk12 a0_ a1_)) {M : Mem} (h : Fr W M0 M) : Post (fun r => Fr W M0 r.1) (t_MO_goes_L96 x1 bk12 M v2_) := by
  unfold t_MO_goes_L96
  exact hbk12 _ _ h
def W_MO_goes_L85 : Nat → Int → Prop := fun k j => (k = 191 ∧ (j = 54)) ∨ k = 221
theorem fr_MO_goes_L85 {x1 : Int} {bk12 : Mem → Int → Option (Mem × Int)} {v2_ : Int} {v4_ : Int} {v5_ : Int64} {W : Nat → Int → Prop} {M0 : Mem} (hW : ∀ k j, (W_MO_goes_L85) k j → W k j) (hbk12 : ∀ (a0_ : Mem) (a1_ : Int), Fr W M0 a0_ → Post (fun r => Fr W M0 r.1) (bk12 a0_ a1_)) {M : Mem} (h : Fr W M0 M) : Post (fun r => Fr W M0 r.1) (t_MO_goes_L85 x1 bk12 M v2_ v4_ v5_) := by
  unfold t_MO_goes_L85
  refine post_guard (fun c_1 => ?_)
  refine post_let (fun M25 e_M25 => ?_)
  have h_M25 : Fr W M0 M25 := by rw [e_M25]; exact Fr.setL h (hW _ _ (Or.inr rfl))
  refine post_let (fun M27 e_M27 => ?_)
  have h_M27 : Fr W M0 M27 := by rw [e_M27]; exact Fr.setI h_M25 (hW _ _ (Or.inl ⟨rfl, rfl⟩))
  exact (fr_MO_goes_L96 (fun k j hk => hk.elim) hbk12 h_M27)
def W_MO_goes_L12 : Nat → Int → Prop := fun k j => (k = 191 ∧ (j = 54)) ∨ k = 221
theorem fr_MO_goes_L12 {x1 : Int} {W : Nat → Int → Prop} {M0 : Mem} (hW : ∀ k j, (W_MO_goes_L12) k j → W k j)  : ∀ (fu : Nat) (M : Mem) (v2_ : Int), Fr W M0 M → Post (fun r => Fr W M0 r.1) (t_MO_goes_L12 x1 fu M v2_) := by
  intro fu
  induction fu with
  | zero => intro M v2_ h; exact post_none
  | succ fu ih =>
    intro M v2_ h
    rw [t_MO_goes_L12]
    refine post_guard (fun c_1 => ?_)
    refine post_ite (fun c_2 => ?_) (fun c_2 => ?_)
    · exact post_some h
    · refine post_guard (fun c_3 => ?_)
      refine post_ite (fun c_4 => ?_) (fun c_4 => ?_)
      · refine post_guard (fun c_5 => ?_)
        refine post_bind (Q := fun r => Fr W M0 r.1) (fr_MO_works (fun k j hk => hW k j (Or.elim hk (fun h => (Or.inl ⟨(h).1, (h).2⟩)) (fun h => (Or.inr h))))  h) (fun q21 h_q21 => ?_)
        refine post_ite (fun c_6 => ?_) (fun c_6 => ?_)
        · exact post_some h_q21
        · exact (fr_MO_goes_L96 (fun k j hk => hk.elim) (fun a0_ a1_ h9 => ih a0_ a1_ h9) h_q21)
      · refine post_guard (fun c_7 => ?_)
        refine post_ite (fun c_8 => ?_) (fun c_8 => ?_)
        · refine post_guard (fun c_9 => ?_)
          exact (fr_MO_goes_L85 (fun k j hk => hW k j (Or.elim hk (fun h => (Or.inl ⟨(h).1, (h).2⟩)) (fun h => (Or.inr h)))) (fun a0_ a1_ h9 => ih a0_ a1_ h9) h)
        · refine post_guard (fun c_10 => ?_)
          refine post_guard (fun c_11 => ?_)
          exact (fr_MO_goes_L85 (fun k j hk => hW k j (Or.elim hk (fun h => (Or.inl ⟨(h).1, (h).2⟩)) (fun h => (Or.inr h)))) (fun a0_ a1_ h9 => ih a0_ a1_ h9) h)
def W_MO_goes : Nat → Int → Prop := fun k j => (k = 191 ∧ (j = 54)) ∨ k = 221
theorem fr_MO_goes {x1 : Int} {W : Nat → Int → Prop} {M0 : Mem} (hW : ∀ k j, (W_MO_goes) k j → W k j)  {M : Mem} (h : Fr W M0 M) : Post (fun r => Fr W M0 r.1) (t_MO_goes M x1) := by
  unfold t_MO_goes
  refine post_let (fun M1 e_M1 => ?_)
  have h_M1 : Fr W M0 M1 := by rw [e_M1]; exact Fr.setI h (hW _ _ (Or.inl ⟨rfl, rfl⟩))
  refine post_guard (fun c_1 => ?_)
  exact (fr_MO_goes_L12 (fun k j hk => hW k j (Or.elim hk (fun h => (Or.inl ⟨(h).1, (h).2⟩)) (fun h => (Or.inr h))))  _ _ _ h_M1)
def W_MO_within : Nat → Int → Prop := fun k j => (k = 191 ∧ (j = 54)) ∨ k = 221
theorem fr_MO_within {x1 : Int} {x2 : Int} {x3 : Int} {W : Nat → Int → Prop} {M0 : Mem} (hW : ∀ k j, (W_MO_within) k j → W k j)  {M : Mem} (h : Fr W M0 M) : Post (fun r => Fr W M0 r.1) (t_MO_within M x1 x2 x3) := by
  unfold t_MO_within
  refine post_bindv (fun q1 => ?_)
  refine post_ite (fun c_1 => ?_) (fun c_1 => ?_)
  · exact post_some h
  · refine post_bind (Q := fun r => Fr W M0 r.1) (fr_MO_goes (fun k j hk => hW k j (Or.elim hk (fun h => (Or.inl ⟨(h).1, (h).2⟩)) (fun h => (Or.inr h))))  h) (fun q4 h_q4 => ?_)
    refine post_ite (fun c_2 => ?_) (fun c_2 => ?_)
    · exact post_some h_q4
    · exact post_some h_q4
def W_MO_joyOf : Nat → Int → Prop := fun k j => (k = 191 ∧ (j = 46 ∨ j = 47 ∨ j = 48 ∨ j = 49 ∨ j = 50 ∨ j = 54)) ∨ k = 219 ∨ (k = 220 ∧ (j = 0 ∨ j = 1 ∨ j = 2 ∨ j = 3 ∨ j = 4 ∨ j = 5 ∨ j = 6)) ∨ k = 221
theorem fr_MO_joyOf {x1 : Int} {x2 : Int} {W : Nat → Int → Prop} {M0 : Mem} (hW : ∀ k j, (W_MO_joyOf) k j → W k j)  {M : Mem} (h : Fr W M0 M) : Post (fun r => Fr W M0 r.1) (t_MO_joyOf M x1 x2) := by
  unfold t_MO_joyOf
  refine post_bind (Q := fun r => Fr W M0 r) (fr_MO_callsJoy (fun k j hk => hW k j (Or.elim hk (fun h => (Or.inl ⟨(h).1, (Or.elim (h).2 (fun h => (Or.inl h)) (fun h => (Or.elim h (fun h => (Or.inr (Or.inl h))) (fun h => (Or.elim h (fun h => (Or.inr (Or.inr (Or.inl h)))) (fun h => (Or.elim h (fun h => (Or.inr (Or.inr (Or.inr (Or.inl h))))) (fun h => (Or.inr (Or.inr (Or.inr (Or.inr (Or.inl h)))))))))))))⟩)) (fun h => (Or.elim h (fun h => (Or.inr (Or.inl h))) (fun h => (Or.inr (Or.inr (Or.inl ⟨(h).1, (Or.elim (h).2 (fun h => (Or.inl h)) (fun h => (Or.elim h (fun h => (Or.inr (Or.inl h))) (fun h => (Or.elim h (fun h => (Or.inr (Or.inr (Or.inl h)))) (fun h => (Or.elim h (fun h => (Or.inr (Or.inr (Or.inr (Or.inl h))))) (fun h => (Or.elim h (fun h => (Or.inr (Or.inr (Or.inr (Or.inr (Or.inl h)))))) (fun h => (Or.elim h (fun h => (Or.inr (Or.inr (Or.inr (Or.inr (Or.inr (Or.inl h))))))) (fun h => (Or.inr (Or.inr (Or.inr (Or.inr (Or.inr (Or.inr h))))))))))))))))))⟩))))))))  h) (fun q1 h_q1 => ?_)
  refine post_bind (Q := fun r => Fr W M0 r.1) (fr_MO_within (fun k j hk => hW k j (Or.elim hk (fun h => (Or.inl ⟨(h).1, (Or.inr (Or.inr (Or.inr (Or.inr (Or.inr (h).2)))))⟩)) (fun h => (Or.inr (Or.inr (Or.inr h))))))  h_q1) (fun q3 h_q3 => ?_)
  exact post_some h_q3
def W_MO_ward : Nat → Int → Prop := fun k j => (k = 191 ∧ (j = 0 ∨ j = 46 ∨ j = 47 ∨ j = 48 ∨ j = 49 ∨ j = 50 ∨ j = 54)) ∨ k = 219 ∨ (k = 220 ∧ (j = 0 ∨ j = 1 ∨ j = 2 ∨ j = 3 ∨ j = 4 ∨ j = 5 ∨ j = 6)) ∨ k = 221
theorem fr_MO_ward {x1 : Int} {x2 : Int} {W : Nat → Int → Prop} {M0 : Mem} (hW : ∀ k j, (W_MO_ward) k j → W k j)  {M : Mem} (h : Fr W M0 M) : Post (fun r => Fr W M0 r.1) (t_MO_ward M x1 x2) := by
  unfold t_MO_ward
  refine post_let (fun M1 e_M1 => ?_)
  have h_M1 : Fr W M0 M1 := by rw [e_M1]; exact Fr.setI h (hW _ _ (Or.inl ⟨rfl, (Or.inl rfl)⟩))
  refine post_let (fun q2 _ => ?_)
  refine post_ite (fun c_1 => ?_) (fun c_1 => ?_)
  · exact post_some h_M1
  · refine post_ite (fun c_2 => ?_) (fun c_2 => ?_)
    · refine post_guard (fun c_3 => ?_)
      exact post_some h_M1
    · refine post_ite (fun c_4 => ?_) (fun c_4 => ?_)
      · refine post_guard (fun c_5 => ?_)
        exact post_some h_M1
      · refine post_ite (fun c_6 => ?_) (fun c_6 => ?_)
        · refine post_bindv (fun q12 => ?_)
          exact post_some h_M1
        · refine post_ite (fun c_7 => ?_) (fun c_7 => ?_)
          · refine post_bind (Q := fun r => Fr W M0 r.1) (fr_MO_joyOf (fun k j hk => hW k j (Or.elim hk (fun h => (Or.inl ⟨(h).1, (Or.elim (h).2 (fun h => (Or.inr (Or.inl h))) (fun h => (Or.elim h (fun h => (Or.inr (Or.inr (Or.inl h)))) (fun h => (Or.elim h (fun h => (Or.inr (Or.inr (Or.inr (Or.inl h))))) (fun h => (Or.elim h (fun h => (Or.inr (Or.inr (Or.inr (Or.inr (Or.inl h)))))) (fun h => (Or.elim h (fun h => (Or.inr (Or.inr (Or.inr (Or.inr (Or.inr (Or.inl h))))))) (fun h => (Or.inr (Or.inr (Or.inr (Or.inr (Or.inr (Or.inr h))))))))))))))))⟩)) (fun h => (Or.elim h (fun h => (Or.inr (Or.inl h))) (fun h => (Or.elim h (fun h => (Or.inr (Or.inr (Or.inl ⟨(h).1, (Or.elim (h).2 (fun h => (Or.inl h)) (fun h => (Or.elim h (fun h => (Or.inr (Or.inl h))) (fun h => (Or.elim h (fun h => (Or.inr (Or.inr (Or.inl h)))) (fun h => (Or.elim h (fun h => (Or.inr (Or.inr (Or.inr (Or.inl h))))) (fun h => (Or.elim h (fun h => (Or.inr (Or.inr (Or.inr (Or.inr (Or.inl h)))))) (fun h => (Or.elim h (fun h => (Or.inr (Or.inr (Or.inr (Or.inr (Or.inr (Or.inl h))))))) (fun h => (Or.inr (Or.inr (Or.inr (Or.inr (Or.inr (Or.inr h))))))))))))))))))⟩)))) (fun h => (Or.inr (Or.inr (Or.inr h))))))))))  h_M1) (fun q15 h_q15 => ?_)
            exact post_some h_q15
          · exact post_some h_M1
def W_MO_thing : Nat → Int → Prop := fun k j => (k = 191 ∧ (j = 0))
theorem fr_MO_thing {x1 : Int} {x2 : Int} {W : Nat → Int → Prop} {M0 : Mem} (hW : ∀ k j, (W_MO_thing) k j → W k j)  {M : Mem} (h : Fr W M0 M) : Post (fun r => Fr W M0 r.1) (t_MO_thing M x1 x2) := by
  unfold t_MO_thing
  refine post_let (fun M1 e_M1 => ?_)
  have h_M1 : Fr W M0 M1 := by rw [e_M1]; exact Fr.setI h (hW _ _ ⟨rfl, rfl⟩)
  refine post_let (fun q2 _ => ?_)
  refine post_ite (fun c_1 => ?_) (fun c_1 => ?_)
  · exact post_some h_M1
  · refine post_ite (fun c_2 => ?_) (fun c_2 => ?_)
    · refine post_guard (fun c_3 => ?_)
      exact post_some h_M1
    · refine post_ite (fun c_4 => ?_) (fun c_4 => ?_)
      · refine post_guard (fun c_5 => ?_)
        exact post_some h_M1
      · refine post_ite (fun c_6 => ?_) (fun c_6 => ?_)
        · refine post_guard (fun c_7 => ?_)
          exact post_some h_M1
        · refine post_ite (fun c_8 => ?_) (fun c_8 => ?_)
          · refine post_guard (fun c_9 => ?_)
            exact post_some h_M1
          · exact post_some h_M1
def W_MO_callsPush_L165 : Nat → Int → Prop := fun k j => k = 220
theorem fr_MO_callsPush_L165 {x1 : Int} {x2 : Int} {v2_ : Int} {v3_ : Int} {W : Nat → Int → Prop} {M0 : Mem} (hW : ∀ k j, (W_MO_callsPush_L165) k j → W k j)  {M : Mem} (h : Fr W M0 M) : Post (fun r => Fr W M0 r) (t_MO_callsPush_L165 x1 x2 M v2_ v3_) := by
  unfold t_MO_callsPush_L165
  refine post_let (fun q36 _ => ?_)
  refine post_guard (fun c_1 => ?_)
  refine post_let (fun M39 e_M39 => ?_)
  have h_M39 : Fr W M0 M39 := by rw [e_M39]; exact Fr.setL h (hW _ _ rfl)
  refine post_let (fun M41 e_M41 => ?_)
  have h_M41 : Fr W M0 M41 := by rw [e_M41]; exact Fr.setL h_M39 (hW _ _ rfl)
  exact post_some h_M41
def W_MO_callsPush_L164 : Nat → Int → Prop := fun k j => k = 220
theorem fr_MO_callsPush_L164 {x1 : Int} {x2 : Int} {v2_ : Int} {W : Nat → Int → Prop} {M0 : Mem} (hW : ∀ k j, (W_MO_callsPush_L164) k j → W k j)  {M : Mem} (h : Fr W M0 M) : Post (fun r => Fr W M0 r) (t_MO_callsPush_L164 x1 x2 M v2_) := by
  unfold t_MO_callsPush_L164
  exact (fr_MO_callsPush_L165 (fun k j hk => hW k j hk)  h)
def W_MO_callsPush_L115 : Nat → Int → Prop := fun k j => k = 220
theorem fr_MO_callsPush_L115 {x1 : Int} {x2 : Int} {v3_ : Int} {v5_ : Int} {v6_ : Int64} {W : Nat → Int → Prop} {M0 : Mem} (hW : ∀ k j, (W_MO_callsPush_L115) k j → W k j)  {M : Mem} (h : Fr W M0 M) : Post (fun r => Fr W M0 r) (t_MO_callsPush_L115 x1 x2 M v3_ v5_ v6_) := by
  unfold t_MO_callsPush_L115
  refine post_guard (fun c_1 => ?_)
  refine post_let (fun M26 e_M26 => ?_)
  have h_M26 : Fr W M0 M26 := by rw [e_M26]; exact Fr.setL h (hW _ _ rfl)
  refine post_bindv (fun q27 => ?_)
  refine post_let (fun q29 _ => ?_)
  refine post_let (fun M31 e_M31 => ?_)
  have h_M31 : Fr W M0 M31 := by rw [e_M31]; exact Fr.setL h_M26 (hW _ _ rfl)
  refine post_bindv (fun q32 => ?_)
  refine post_ite (fun c_2 => ?_) (fun c_2 => ?_)
  · exact (fr_MO_callsPush_L164 (fun k j hk => hW k j hk)  h_M31)
  · refine post_ite (fun c_3 => ?_) (fun c_3 => ?_)
    · exact (fr_MO_callsPush_L165 (fun k j hk => hW k j hk)  h_M31)
    · exact (fr_MO_callsPush_L164 (fun k j hk => hW k j hk)  h_M31)
def W_MO_callsPush_L88 : Nat → Int → Prop := fun k j => k = 220
theorem fr_MO_callsPush_L88 {x1 : Int} {x2 : Int} {v3_ : Int} {v4_ : Int} {v6_ : Int} {v7_ : Int} {W : Nat → Int → Prop} {M0 : Mem} (hW : ∀ k j, (W_MO_callsPush_L88) k j → W k j)  {M : Mem} (h : Fr W M0 M) : Post (fun r => Fr W M0 r) (t_MO_callsPush_L88 x1 x2 M v3_ v4_ v6_ v7_) := by
  unfold t_MO_callsPush_L88
  refine post_let (fun q18 _ => ?_)
  refine post_guard (fun c_1 => ?_)
  refine post_let (fun M21 e_M21 => ?_)
  have h_M21 : Fr W M0 M21 := by rw [e_M21]; exact Fr.setL h (hW _ _ rfl)
  refine post_ite (fun c_2 => ?_) (fun c_2 => ?_)
  · exact (fr_MO_callsPush_L115 (fun k j hk => hW k j hk)  h_M21)
  · refine post_guard (fun c_3 => ?_)
    exact (fr_MO_callsPush_L115 (fun k j hk => hW k j hk)  h_M21)
def W_MO_callsPush_L63 : Nat → Int → Prop := fun k j => k = 220
theorem fr_MO_callsPush_L63 {x1 : Int} {x2 : Int} {v3_ : Int} {v5_ : Int} {v6_ : Int64} {W : Nat → Int → Prop} {M0 : Mem} (hW : ∀ k j, (W_MO_callsPush_L63) k j → W k j)  {M : Mem} (h : Fr W M0 M) : Post (fun r => Fr W M0 r) (t_MO_callsPush_L63 x1 x2 M v3_ v5_ v6_) := by
  unfold t_MO_callsPush_L63
  refine post_guard (fun c_1 => ?_)
  refine post_let (fun M14 e_M14 => ?_)
  have h_M14 : Fr W M0 M14 := by rw [e_M14]; exact Fr.setL h (hW _ _ rfl)
  refine post_bindv (fun q15 => ?_)
  refine post_ite (fun c_2 => ?_) (fun c_2 => ?_)
  · exact (fr_MO_callsPush_L88 (fun k j hk => hW k j hk)  h_M14)
  · exact (fr_MO_callsPush_L88 (fun k j hk => hW k j hk)  h_M14)
def W_MO_callsPush_L40 : Nat → Int → Prop := fun k j => k = 220
theorem fr_MO_callsPush_L40 {x1 : Int} {x2 : Int} {v3_ : Int} {v4_ : Int} {v6_ : Int} {v7_ : Int64} {W : Nat → Int → Prop} {M0 : Mem} (hW : ∀ k j, (W_MO_callsPush_L40) k j → W k j)  {M : Mem} (h : Fr W M0 M) : Post (fun r => Fr W M0 r) (t_MO_callsPush_L40 x1 x2 M v3_ v4_ v6_ v7_) := by
  unfold t_MO_callsPush_L40
  refine post_guard (fun c_1 => ?_)
  refine post_let (fun M9 e_M9 => ?_)
  have h_M9 : Fr W M0 M9 := by rw [e_M9]; exact Fr.setL h (hW _ _ rfl)
  refine post_ite (fun c_2 => ?_) (fun c_2 => ?_)
  · exact (fr_MO_callsPush_L63 (fun k j hk => hW k j hk)  h_M9)
  · refine post_bindv (fun q11 => ?_)
    exact (fr_MO_callsPush_L63 (fun k j hk => hW k j hk)  h_M9)
def W_MO_callsPush : Nat → Int → Prop := fun k j => k = 220
theorem fr_MO_callsPush {x1 : Int} {x2 : Int} {W : Nat → Int → Prop} {M0 : Mem} (hW : ∀ k j, (W_MO_callsPush) k j → W k j)  {M : Mem} (h : Fr W M0 M) : Post (fun r => Fr W M0 r) (t_MO_callsPush M x1 x2) := by
  unfold t_MO_callsPush
  refine post_bindv (fun q1 => ?_)
  refine post_guard (fun c_1 => ?_)
  refine post_ite (fun c_2 => ?_) (fun c_2 => ?_)
  · exact (fr_MO_callsPush_L40 (fun k j hk => hW k j hk)  h)
  · refine post_guard (fun c_3 => ?_)
    exact (fr_MO_callsPush_L40 (fun k j hk => hW k j hk)  h)
def W_MO_law_L92 : Nat → Int → Prop := fun k j => (k = 191 ∧ (j = 54)) ∨ k = 221
theorem fr_MO_law_L92 {x1 : Int} {x2 : Int} {x3 : Int} {W : Nat → Int → Prop} {M0 : Mem} (hW : ∀ k j, (W_MO_law_L92) k j → W k j)  {M : Mem} (h : Fr W M0 M) : Post (fun r => Fr W M0 r.1) (t_MO_law_L92 x1 x2 x3 M) := by
  unfold t_MO_law_L92
  refine post_bind (Q := fun r => Fr W M0 r.1) (fr_MO_goes (fun k j hk => hW k j (Or.elim hk (fun h => (Or.inl ⟨(h).1, (h).2⟩)) (fun h => (Or.inr h))))  h) (fun q25 h_q25 => ?_)
  refine post_ite (fun c_1 => ?_) (fun c_1 => ?_)
  · exact post_some h_q25
  · exact post_some h_q25
def W_MO_law : Nat → Int → Prop := fun k j => (k = 191 ∧ (j = 0 ∨ j = 46 ∨ j = 47 ∨ j = 48 ∨ j = 49 ∨ j = 50 ∨ j = 54)) ∨ k = 219 ∨ k = 220 ∨ k = 221
theorem fr_MO_law {x1 : Int} {x2 : Int} {x3 : Int} {W : Nat → Int → Prop} {M0 : Mem} (hW : ∀ k j, (W_MO_law) k j → W k j)  {M : Mem} (h : Fr W M0 M) : Post (fun r => Fr W M0 r.1) (t_MO_law M x1 x2 x3) := by
  unfold t_MO_law
  refine post_let (fun M1 e_M1 => ?_)
  have h_M1 : Fr W M0 M1 := by rw [e_M1]; exact Fr.setI h (hW _ _ (Or.inl ⟨rfl, (Or.inl rfl)⟩))
  refine post_ite (fun c_1 => ?_) (fun c_1 => ?_)
  · exact post_some h_M1
  · refine post_ite (fun c_2 => ?_) (fun c_2 => ?_)
    · exact post_some h_M1
    · refine post_bindv (fun q4 => ?_)
      refine post_ite (fun c_3 => ?_) (fun c_3 => ?_)
      · exact post_some h_M1
      · refine post_ite (fun c_4 => ?_) (fun c_4 => ?_)
        · refine post_let (fun q20 _ => ?_)
          refine post_ite (fun c_5 => ?_) (fun c_5 => ?_)
          · exact post_some h_M1
          · refine post_bind (Q := fun r => Fr W M0 r) (fr_MO_callsJoy (fun k j hk => hW k j (Or.elim hk (fun h => (Or.inl ⟨(h).1, (Or.elim (h).2 (fun h => (Or.inr (Or.inl h))) (fun h => (Or.elim h (fun h => (Or.inr (Or.inr (Or.inl h)))) (fun h => (Or.elim h (fun h => (Or.inr (Or.inr (Or.inr (Or.inl h))))) (fun h => (Or.elim h (fun h => (Or.inr (Or.inr (Or.inr (Or.inr (Or.inl h)))))) (fun h => (Or.inr (Or.inr (Or.inr (Or.inr (Or.inr (Or.inl h))))))))))))))⟩)) (fun h => (Or.elim h (fun h => (Or.inr (Or.inl h))) (fun h => (Or.inr (Or.inr (Or.inl (h).1))))))))  h_M1) (fun q23 h_q23 => ?_)
            exact (fr_MO_law_L92 (fun k j hk => hW k j (Or.elim hk (fun h => (Or.inl ⟨(h).1, (Or.inr (Or.inr (Or.inr (Or.inr (Or.inr (Or.inr (h).2))))))⟩)) (fun h => (Or.inr (Or.inr (Or.inr h))))))  h_q23)
        · refine post_bindv (fun q8 => ?_)
          refine post_ite (fun c_6 => ?_) (fun c_6 => ?_)
          · exact post_some h_M1
          · refine post_ite (fun c_7 => ?_) (fun c_7 => ?_)
            · exact post_some h_M1
            · refine post_ite (fun c_8 => ?_) (fun c_8 => ?_)
              · exact post_some h_M1
              · refine post_bindv (fun q13 => ?_)
                refine post_bindv (fun q15 => ?_)
                refine post_ite (fun c_9 => ?_) (fun c_9 => ?_)
                · exact post_some h_M1
                · refine post_bind (Q := fun r => Fr W M0 r) (fr_MO_callsPush (fun k j hk => hW k j (Or.inr (Or.inr (Or.inl hk))))  h_M1) (fun q18 h_q18 => ?_)
                  exact (fr_MO_law_L92 (fun k j hk => hW k j (Or.elim hk (fun h => (Or.inl ⟨(h).1, (Or.inr (Or.inr (Or.inr (Or.inr (Or.inr (Or.inr (h).2))))))⟩)) (fun h => (Or.inr (Or.inr (Or.inr h))))))  h_q18)
def W_MO_rest : Nat → Int → Prop := fun k j => (k = 191 ∧ (j = 0 ∨ j = 46 ∨ j = 47 ∨ j = 48 ∨ j = 49 ∨ j = 50)) ∨ k = 219
theorem fr_MO_rest {x1 : Int} {W : Nat → Int → Prop} {M0 : Mem} (hW : ∀ k j, (W_MO_rest) k j → W k j)  {M : Mem} (h : Fr W M0 M) : Post (fun r => Fr W M0 r.1) (t_MO_rest M x1) := by
  unfold t_MO_rest
  refine post_let (fun M1 e_M1 => ?_)
  have h_M1 : Fr W M0 M1 := by rw [e_M1]; exact Fr.setI h (hW _ _ (Or.inl ⟨rfl, (Or.inl rfl)⟩))
  refine post_bindv (fun q2 => ?_)
  refine post_ite (fun c_1 => ?_) (fun c_1 => ?_)
  · exact post_some h_M1
  · refine post_bind (Q := fun r => Fr W M0 r) (fr_MO_goesFrom (fun k j hk => hW k j (Or.elim hk (fun h => (Or.inl ⟨(h).1, (Or.elim (h).2 (fun h => (Or.inr (Or.inl h))) (fun h => (Or.elim h (fun h => (Or.inr (Or.inr (Or.inl h)))) (fun h => (Or.elim h (fun h => (Or.inr (Or.inr (Or.inr (Or.inl h))))) (fun h => (Or.elim h (fun h => (Or.inr (Or.inr (Or.inr (Or.inr (Or.inl h)))))) (fun h => (Or.inr (Or.inr (Or.inr (Or.inr (Or.inr h)))))))))))))⟩)) (fun h => (Or.inr h))))  h_M1) (fun q5 h_q5 => ?_)
    refine post_ite (fun c_2 => ?_) (fun c_2 => ?_)
    · exact post_some h_q5
    · exact post_some h_q5
def W_MO_way_L68 : Nat → Int → Prop := fun k j => False
theorem fr_MO_way_L68 {x1 : Int} {x2 : Int} {W : Nat → Int → Prop} {M0 : Mem} (hW : ∀ k j, (W_MO_way_L68) k j → W k j)  : ∀ (fu : Nat) (M : Mem) (v1_ : Int) (v2_ : Int) (v3_ : Int), Fr W M0 M → Post (fun r => Fr W M0 r.1) (t_MO_way_L68 x1 x2 fu M v1_ v2_ v3_) := by
  intro fu
  induction fu with
  | zero => intro M v1_ v2_ v3_ h; exact post_none
  | succ fu ih =>
    intro M v1_ v2_ v3_ h
    rw [t_MO_way_L68]
    refine post_ite (fun c_1 => ?_) (fun c_1 => ?_)
    · exact post_some h
    · refine post_bindv (fun q17 => ?_)
      exact (ih _ _ _ _ h)
def W_MO_way_L62 : Nat → Int → Prop := fun k j => False
theorem fr_MO_way_L62 {x1 : Int} {x2 : Int} {v2_ : Int} {W : Nat → Int → Prop} {M0 : Mem} (hW : ∀ k j, (W_MO_way_L62) k j → W k j)  {M : Mem} (h : Fr W M0 M) : Post (fun r => Fr W M0 r.1) (t_MO_way_L62 x1 x2 M v2_) := by
  unfold t_MO_way_L62
  exact (fr_MO_way_L68 (fun k j hk => hk.elim)  _ _ _ _ _ h)
def W_MO_way : Nat → Int → Prop := fun k j => (k = 191 ∧ (j = 0 ∨ j = 46 ∨ j = 47 ∨ j = 48 ∨ j = 49 ∨ j = 50)) ∨ k = 219
theorem fr_MO_way {x1 : Int} {x2 : Int} {W : Nat → Int → Prop} {M0 : Mem} (hW : ∀ k j, (W_MO_way) k j → W k j)  {M : Mem} (h : Fr W M0 M) : Post (fun r => Fr W M0 r.1) (t_MO_way M x1 x2) := by
  unfold t_MO_way
  refine post_let (fun M1 e_M1 => ?_)
  have h_M1 : Fr W M0 M1 := by rw [e_M1]; exact Fr.setI h (hW _ _ (Or.inl ⟨rfl, (Or.inl rfl)⟩))
  refine post_bindv (fun q2 => ?_)
  refine post_ite (fun c_1 => ?_) (fun c_1 => ?_)
  · exact post_some h_M1
  · refine post_ite (fun c_2 => ?_) (fun c_2 => ?_)
    · refine post_bind (Q := fun r => Fr W M0 r) (fr_MO_goesFrom (fun k j hk => hW k j (Or.elim hk (fun h => (Or.inl ⟨(h).1, (Or.elim (h).2 (fun h => (Or.inr (Or.inl h))) (fun h => (Or.elim h (fun h => (Or.inr (Or.inr (Or.inl h)))) (fun h => (Or.elim h (fun h => (Or.inr (Or.inr (Or.inr (Or.inl h))))) (fun h => (Or.elim h (fun h => (Or.inr (Or.inr (Or.inr (Or.inr (Or.inl h)))))) (fun h => (Or.inr (Or.inr (Or.inr (Or.inr (Or.inr h)))))))))))))⟩)) (fun h => (Or.inr h))))  h_M1) (fun q6 h_q6 => ?_)
      refine post_ite (fun c_3 => ?_) (fun c_3 => ?_)
      · exact (fr_MO_way_L62 (fun k j hk => hk.elim)  h_q6)
      · refine post_ite (fun c_4 => ?_) (fun c_4 => ?_)
        · exact post_some h_q6
        · refine post_ite (fun c_5 => ?_) (fun c_5 => ?_)
          · exact post_none
          · exact (fr_MO_way_L62 (fun k j hk => hk.elim)  h_q6)
    · exact post_some h_M1
def W_MO_falls : Nat → Int → Prop := fun k j => (k = 191 ∧ (j = 0 ∨ j = 46 ∨ j = 47 ∨ j = 48 ∨ j = 49 ∨ j = 50)) ∨ k = 219
theorem fr_MO_falls {x1 : Int} {x2 : Int} {W : Nat → Int → Prop} {M0 : Mem} (hW : ∀ k j, (W_MO_falls) k j → W k j)  {M : Mem} (h : Fr W M0 M) : Post (fun r => Fr W M0 r.1) (t_MO_falls M x1 x2) := by
  unfold t_MO_falls
  refine post_let (fun M1 e_M1 => ?_)
  have h_M1 : Fr W M0 M1 := by rw [e_M1]; exact Fr.setI h (hW _ _ (Or.inl ⟨rfl, (Or.inl rfl)⟩))
  refine post_bindv (fun q2 => ?_)
  refine post_ite (fun c_1 => ?_) (fun c_1 => ?_)
  · exact post_some h_M1
  · refine post_ite (fun c_2 => ?_) (fun c_2 => ?_)
    · exact post_some h_M1
    · refine post_ite (fun c_3 => ?_) (fun c_3 => ?_)
      · refine post_bind (Q := fun r => Fr W M0 r) (fr_MO_goesFrom (fun k j hk => hW k j (Or.elim hk (fun h => (Or.inl ⟨(h).1, (Or.elim (h).2 (fun h => (Or.inr (Or.inl h))) (fun h => (Or.elim h (fun h => (Or.inr (Or.inr (Or.inl h)))) (fun h => (Or.elim h (fun h => (Or.inr (Or.inr (Or.inr (Or.inl h))))) (fun h => (Or.elim h (fun h => (Or.inr (Or.inr (Or.inr (Or.inr (Or.inl h)))))) (fun h => (Or.inr (Or.inr (Or.inr (Or.inr (Or.inr h)))))))))))))⟩)) (fun h => (Or.inr h))))  h_M1) (fun q7 h_q7 => ?_)
        refine post_ite (fun c_4 => ?_) (fun c_4 => ?_)
        · exact post_some h_q7
        · refine post_ite (fun c_5 => ?_) (fun c_5 => ?_)
          · exact post_some h_q7
          · refine post_ite (fun c_6 => ?_) (fun c_6 => ?_)
            · exact post_some h_q7
            · exact post_some h_q7
      · exact post_some h_M1
def W_MO_beat_L138 : Nat → Int → Prop := fun k j => False
theorem fr_MO_beat_L138 {x1 : Int} {bk4 : Mem → Int → Int → Option (Mem × Int)} {v2_ : Int} {v3_ : Int} {W : Nat → Int → Prop} {M0 : Mem} (hW : ∀ k j, (W_MO_beat_L138) k j → W k j) (hbk4 : ∀ (a0_ : Mem) (a1_ : Int) (a2_ : Int), Fr W M0 a0_ → Post (fun r => Fr W M0 r.1) (bk4 a0_ a1_ a2_)) {M : Mem} (h : Fr W M0 M) : Post (fun r => Fr W M0 r.1) (t_MO_beat_L138 x1 bk4 M v2_ v3_) := by
  unfold t_MO_beat_L138
  exact hbk4 _ _ _ h
def W_MO_beat_L113 : Nat → Int → Prop := fun k j => k = 213 ∨ k = 214 ∨ k = 215
theorem fr_MO_beat_L113 {x1 : Int} {bk4 : Mem → Int → Int → Option (Mem × Int)} {v2_ : Int} {v3_ : Int} {v4_ : Int} {v5_ : Int} {v7_ : Int} {v8_ : Int} {v9_ : Int} {W : Nat → Int → Prop} {M0 : Mem} (hW : ∀ k j, (W_MO_beat_L113) k j → W k j) (hbk4 : ∀ (a0_ : Mem) (a1_ : Int) (a2_ : Int), Fr W M0 a0_ → Post (fun r => Fr W M0 r.1) (bk4 a0_ a1_ a2_)) {M : Mem} (h : Fr W M0 M) : Post (fun r => Fr W M0 r.1) (t_MO_beat_L113 x1 bk4 M v2_ v3_ v4_ v5_ v7_ v8_ v9_) := by
  unfold t_MO_beat_L113
  refine post_guard (fun c_1 => ?_)
  refine post_let (fun M29 e_M29 => ?_)
  have h_M29 : Fr W M0 M29 := by rw [e_M29]; exact Fr.setI h (hW _ _ (Or.inr (Or.inr rfl)))
  refine post_guard (fun c_2 => ?_)
  refine post_guard (fun c_3 => ?_)
  refine post_let (fun M33 e_M33 => ?_)
  have h_M33 : Fr W M0 M33 := by rw [e_M33]; exact Fr.setI h_M29 (hW _ _ (Or.inr (Or.inl rfl)))
  refine post_guard (fun c_4 => ?_)
  refine post_let (fun M35 e_M35 => ?_)
  have h_M35 : Fr W M0 M35 := by rw [e_M35]; exact Fr.setI h_M33 (hW _ _ (Or.inl rfl))
  exact (fr_MO_beat_L138 (fun k j hk => hk.elim) hbk4 h_M35)
def W_MO_beat_L84 : Nat → Int → Prop := fun k j => k = 213 ∨ k = 214 ∨ k = 215
theorem fr_MO_beat_L84 {x1 : Int} {bk4 : Mem → Int → Int → Option (Mem × Int)} {v2_ : Int} {v3_ : Int} {v4_ : Int} {v5_ : Int} {W : Nat → Int → Prop} {M0 : Mem} (hW : ∀ k j, (W_MO_beat_L84) k j → W k j) (hbk4 : ∀ (a0_ : Mem) (a1_ : Int) (a2_ : Int), Fr W M0 a0_ → Post (fun r => Fr W M0 r.1) (bk4 a0_ a1_ a2_)) {M : Mem} (h : Fr W M0 M) : Post (fun r => Fr W M0 r.1) (t_MO_beat_L84 x1 bk4 M v2_ v3_ v4_ v5_) := by
  unfold t_MO_beat_L84
  refine post_guard (fun c_1 => ?_)
  refine post_guard (fun c_2 => ?_)
  refine post_bindv (fun q25 => ?_)
  refine post_ite (fun c_3 => ?_) (fun c_3 => ?_)
  · exact (fr_MO_beat_L113 (fun k j hk => hW k j (Or.elim hk (fun h => (Or.inl h)) (fun h => (Or.elim h (fun h => (Or.inr (Or.inl h))) (fun h => (Or.inr (Or.inr h))))))) hbk4 h)
  · exact (fr_MO_beat_L113 (fun k j hk => hW k j (Or.elim hk (fun h => (Or.inl h)) (fun h => (Or.elim h (fun h => (Or.inr (Or.inl h))) (fun h => (Or.inr (Or.inr h))))))) hbk4 h)
def W_MO_beat_L34 : Nat → Int → Prop := fun k j => k = 213 ∨ k = 214 ∨ k = 215
theorem fr_MO_beat_L34 {x1 : Int} {bk4 : Mem → Int → Int → Option (Mem × Int)} {v2_ : Int} {v3_ : Int} {W : Nat → Int → Prop} {M0 : Mem} (hW : ∀ k j, (W_MO_beat_L34) k j → W k j) (hbk4 : ∀ (a0_ : Mem) (a1_ : Int) (a2_ : Int), Fr W M0 a0_ → Post (fun r => Fr W M0 r.1) (bk4 a0_ a1_ a2_)) {M : Mem} (h : Fr W M0 M) : Post (fun r => Fr W M0 r.1) (t_MO_beat_L34 x1 bk4 M v2_ v3_) := by
  unfold t_MO_beat_L34
  refine post_guard (fun c_1 => ?_)
  refine post_bindv (fun q13 => ?_)
  refine post_ite (fun c_2 => ?_) (fun c_2 => ?_)
  · exact (fr_MO_beat_L138 (fun k j hk => hk.elim) hbk4 h)
  · refine post_ite (fun c_3 => ?_) (fun c_3 => ?_)
    · exact (fr_MO_beat_L84 (fun k j hk => hW k j (Or.elim hk (fun h => (Or.inl h)) (fun h => (Or.elim h (fun h => (Or.inr (Or.inl h))) (fun h => (Or.inr (Or.inr h))))))) hbk4 h)
    · refine post_bindv (fun q18 => ?_)
      refine post_ite (fun c_4 => ?_) (fun c_4 => ?_)
      · exact (fr_MO_beat_L84 (fun k j hk => hW k j (Or.elim hk (fun h => (Or.inl h)) (fun h => (Or.elim h (fun h => (Or.inr (Or.inl h))) (fun h => (Or.inr (Or.inr h))))))) hbk4 h)
      · exact (fr_MO_beat_L138 (fun k j hk => hk.elim) hbk4 h)
def W_MO_beat_L4 : Nat → Int → Prop := fun k j => k = 208 ∨ k = 213 ∨ k = 214 ∨ k = 215
theorem fr_MO_beat_L4 {x1 : Int} {W : Nat → Int → Prop} {M0 : Mem} (hW : ∀ k j, (W_MO_beat_L4) k j → W k j)  : ∀ (fu : Nat) (M : Mem) (v2_ : Int) (v3_ : Int), Fr W M0 M → Post (fun r => Fr W M0 r.1) (t_MO_beat_L4 x1 fu M v2_ v3_) := by
  intro fu
  induction fu with
  | zero => intro M v2_ v3_ h; exact post_none
  | succ fu ih =>
    intro M v2_ v3_ h
    rw [t_MO_beat_L4]
    refine post_ite (fun c_1 => ?_) (fun c_1 => ?_)
    · refine post_guard (fun c_2 => ?_)
      refine post_guard (fun c_3 => ?_)
      refine post_let (fun M6 e_M6 => ?_)
      have h_M6 : Fr W M0 M6 := by rw [e_M6]; exact Fr.setI h (hW _ _ (Or.inl rfl))
      exact post_some h_M6
    · refine post_ite (fun c_4 => ?_) (fun c_4 => ?_)
      · refine post_ite (fun c_5 => ?_) (fun c_5 => ?_)
        · exact (fr_MO_beat_L138 (fun k j hk => hk.elim) (fun a0_ a1_ a2_ h9 => ih a0_ a1_ a2_ h9) h)
        · exact (fr_MO_beat_L34 (fun k j hk => hW k j (Or.elim hk (fun h => (Or.inr (Or.inl h))) (fun h => (Or.elim h (fun h => (Or.inr (Or.inr (Or.inl h)))) (fun h => (Or.inr (Or.inr (Or.inr h)))))))) (fun a0_ a1_ a2_ h9 => ih a0_ a1_ a2_ h9) h)
      · exact (fr_MO_beat_L34 (fun k j hk => hW k j (Or.elim hk (fun h => (Or.inr (Or.inl h))) (fun h => (Or.elim h (fun h => (Or.inr (Or.inr (Or.inl h)))) (fun h => (Or.inr (Or.inr (Or.inr h)))))))) (fun a0_ a1_ a2_ h9 => ih a0_ a1_ a2_ h9) h)
def W_MO_beat : Nat → Int → Prop := fun k j => k = 208 ∨ k = 213 ∨ k = 214 ∨ k = 215
theorem fr_MO_beat {x1 : Int} {W : Nat → Int → Prop} {M0 : Mem} (hW : ∀ k j, (W_MO_beat) k j → W k j)  {M : Mem} (h : Fr W M0 M) : Post (fun r => Fr W M0 r.1) (t_MO_beat M x1) := by
  unfold t_MO_beat
  exact (fr_MO_beat_L4 (fun k j hk => hW k j (Or.elim hk (fun h => (Or.inl h)) (fun h => (Or.elim h (fun h => (Or.inr (Or.inl h))) (fun h => (Or.elim h (fun h => (Or.inr (Or.inr (Or.inl h)))) (fun h => (Or.inr (Or.inr (Or.inr h))))))))))  _ _ _ _ h)
def W_MO_beats_L31 : Nat → Int → Prop := fun k j => k = 208 ∨ k = 213 ∨ k = 214 ∨ k = 215
theorem fr_MO_beats_L31 {x1 : Int} {W : Nat → Int → Prop} {M0 : Mem} (hW : ∀ k j, (W_MO_beats_L31) k j → W k j)  : ∀ (fu : Nat) (M : Mem) (v2_ : Int) (v3_ : Int), Fr W M0 M → Post (fun r => Fr W M0 r.1) (t_MO_beats_L31 x1 fu M v2_ v3_) := by
  intro fu
  induction fu with
  | zero => intro M v2_ v3_ h; exact post_none
  | succ fu ih =>
    intro M v2_ v3_ h
    rw [t_MO_beats_L31]
    refine post_ite (fun c_1 => ?_) (fun c_1 => ?_)
    · exact post_some h
    · refine post_bind (Q := fun r => Fr W M0 r.1) (fr_MO_beat (fun k j hk => hW k j (Or.elim hk (fun h => (Or.inl h)) (fun h => (Or.elim h (fun h => (Or.inr (Or.inl h))) (fun h => (Or.elim h (fun h => (Or.inr (Or.inr (Or.inl h)))) (fun h => (Or.inr (Or.inr (Or.inr h))))))))))  h) (fun q7 h_q7 => ?_)
      exact (ih _ _ _ h_q7)
def W_MO_beats_L27 : Nat → Int → Prop := fun k j => k = 208 ∨ k = 213 ∨ k = 214 ∨ k = 215
theorem fr_MO_beats_L27 {x1 : Int} {W : Nat → Int → Prop} {M0 : Mem} (hW : ∀ k j, (W_MO_beats_L27) k j → W k j)  {M : Mem} (h : Fr W M0 M) : Post (fun r => Fr W M0 r.1) (t_MO_beats_L27 x1 M) := by
  unfold t_MO_beats_L27
  exact (fr_MO_beats_L31 (fun k j hk => hW k j (Or.elim hk (fun h => (Or.inl h)) (fun h => (Or.elim h (fun h => (Or.inr (Or.inl h))) (fun h => (Or.elim h (fun h => (Or.inr (Or.inr (Or.inl h)))) (fun h => (Or.inr (Or.inr (Or.inr h))))))))))  _ _ _ _ h)
def W_MO_beats : Nat → Int → Prop := fun k j => (k = 191 ∧ (j = 0 ∨ j = 43)) ∨ k = 208 ∨ k = 213 ∨ k = 214 ∨ k = 215
theorem fr_MO_beats {x1 : Int} {W : Nat → Int → Prop} {M0 : Mem} (hW : ∀ k j, (W_MO_beats) k j → W k j)  {M : Mem} (h : Fr W M0 M) : Post (fun r => Fr W M0 r.1) (t_MO_beats M x1) := by
  unfold t_MO_beats
  refine post_let (fun M1 e_M1 => ?_)
  have h_M1 : Fr W M0 M1 := by rw [e_M1]; exact Fr.setI h (hW _ _ (Or.inl ⟨rfl, (Or.inl rfl)⟩))
  refine post_ite (fun c_1 => ?_) (fun c_1 => ?_)
  · exact post_some h_M1
  · refine post_ite (fun c_2 => ?_) (fun c_2 => ?_)
    · refine post_ite (fun c_3 => ?_) (fun c_3 => ?_)
      · exact (fr_MO_beats_L27 (fun k j hk => hW k j (Or.elim hk (fun h => (Or.inr (Or.inl h))) (fun h => (Or.elim h (fun h => (Or.inr (Or.inr (Or.inl h)))) (fun h => (Or.elim h (fun h => (Or.inr (Or.inr (Or.inr (Or.inl h))))) (fun h => (Or.inr (Or.inr (Or.inr (Or.inr h)))))))))))  h_M1)
      · refine post_let (fun M5 e_M5 => ?_)
        have h_M5 : Fr W M0 M5 := by rw [e_M5]; exact Fr.setI h_M1 (hW _ _ (Or.inl ⟨rfl, (Or.inr rfl)⟩))
        exact (fr_MO_beats_L27 (fun k j hk => hW k j (Or.elim hk (fun h => (Or.inr (Or.inl h))) (fun h => (Or.elim h (fun h => (Or.inr (Or.inr (Or.inl h)))) (fun h => (Or.elim h (fun h => (Or.inr (Or.inr (Or.inr (Or.inl h))))) (fun h => (Or.inr (Or.inr (Or.inr (Or.inr h)))))))))))  h_M5)
    · exact post_some h_M1
def W_MO_keepNow_L45 : Nat → Int → Prop := fun k j => (k = 191 ∧ (j = 43)) ∨ k = 207 ∨ k = 208 ∨ k = 209 ∨ k = 210 ∨ k = 211 ∨ k = 212 ∨ k = 213 ∨ k = 214 ∨ k = 215
theorem fr_MO_keepNow_L45  {W : Nat → Int → Prop} {M0 : Mem} (hW : ∀ k j, (W_MO_keepNow_L45) k j → W k j)  {M : Mem} (h : Fr W M0 M) : Post (fun r => Fr W M0 r) (t_MO_keepNow_L45 M) := by
  unfold t_MO_keepNow_L45
  refine post_bind (Q := fun r => Fr W M0 r) (fr_MO_copies (fun k j hk => hW k j (Or.elim hk (fun h => (Or.inr (Or.inl h))) (fun h => (Or.elim h (fun h => (Or.inr (Or.inr (Or.inl h)))) (fun h => (Or.elim h (fun h => (Or.inr (Or.inr (Or.inr (Or.inl h))))) (fun h => (Or.elim h (fun h => (Or.inr (Or.inr (Or.inr (Or.inr (Or.inl h)))))) (fun h => (Or.elim h (fun h => (Or.inr (Or.inr (Or.inr (Or.inr (Or.inr (Or.inl h))))))) (fun h => (Or.elim h (fun h => (Or.inr (Or.inr (Or.inr (Or.inr (Or.inr (Or.inr (Or.inl h)))))))) (fun h => (Or.elim h (fun h => (Or.inr (Or.inr (Or.inr (Or.inr (Or.inr (Or.inr (Or.inr (Or.inl h))))))))) (fun h => (Or.elim h (fun h => (Or.inr (Or.inr (Or.inr (Or.inr (Or.inr (Or.inr (Or.inr (Or.inr (Or.inl h)))))))))) (fun h => (Or.inr (Or.inr (Or.inr (Or.inr (Or.inr (Or.inr (Or.inr (Or.inr (Or.inr h))))))))))))))))))))))))))  h) (fun q4 h_q4 => ?_)
  refine post_let (fun M7 e_M7 => ?_)
  have h_M7 : Fr W M0 M7 := by rw [e_M7]; exact Fr.setI h_q4 (hW _ _ (Or.inl ⟨rfl, rfl⟩))
  exact post_some h_M7
end
