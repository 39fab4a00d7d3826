section
def W_MO_years_L41 : Nat → Int → Prop := fun k j => (k = 207 ∧ (j = 0)) ∨ (k = 209 ∧ (j = 0)) ∨ k = 211 ∨ k = 212 ∨ k = 216 ∨ k = 217 ∨ k = 218
theorem fr_MO_years_L41 {x1 : Int} {W : Nat → Int → Prop} {M0 : Mem} (hW : ∀ k j, (W_MO_years_L41) k j → W k j)  : ∀ (fu : Nat) (M : Mem) (v2_ : Int), Fr W M0 M → Post (fun r => Fr W M0 r.1) (t_MO_years_L41 x1 fu M v2_) := by
  intro fu
  induction fu with
  | zero => intro M v2_ h; exact post_none
  | succ fu ih =>
    intro M v2_ h
    rw [t_MO_years_L41]
    refine post_ite (fun c_1 => ?_) (fun c_1 => ?_)
    · exact post_some h
    · refine post_guard (fun c_2 => ?_)
      refine post_let (fun M12 e_M12 => ?_)
      have h_M12 : Fr W M0 M12 := by rw [e_M12]; exact Fr.setI h (hW _ _ (Or.inr (Or.inr (Or.inr (Or.inr (Or.inl rfl))))))
      refine post_guard (fun c_3 => ?_)
      refine post_let (fun M14 e_M14 => ?_)
      have h_M14 : Fr W M0 M14 := by rw [e_M14]; exact Fr.setI h_M12 (hW _ _ (Or.inr (Or.inr (Or.inr (Or.inr (Or.inr (Or.inl rfl)))))))
      refine post_guard (fun c_4 => ?_)
      refine post_let (fun M16 e_M16 => ?_)
      have h_M16 : Fr W M0 M16 := by rw [e_M16]; exact Fr.setI h_M14 (hW _ _ (Or.inr (Or.inr (Or.inr (Or.inr (Or.inr (Or.inr rfl)))))))
      refine post_ite (fun c_5 => ?_) (fun c_5 => ?_)
      · exact (fr_MO_years_L149 (fun k j hk => hW k j (Or.inl ⟨(hk).1, (hk).2⟩)) (fun a0_ a1_ h9 => ih a0_ a1_ h9) h_M16)
      · refine post_bind (Q := fun r => Fr W M0 r.1) (fr_MO_draw (fun k j hk => hW k j (Or.inr (Or.inl ⟨(hk).1, (hk).2⟩)))  h_M16) (fun q20 h_q20 => ?_)
        refine post_guard (fun c_6 => ?_)
        refine post_let (fun M23 e_M23 => ?_)
        have h_M23 : Fr W M0 M23 := by rw [e_M23]; exact Fr.setI h_q20 (hW _ _ (Or.inr (Or.inr (Or.inr (Or.inr (Or.inl rfl))))))
        refine post_guard (fun c_7 => ?_)
        refine post_guard (fun c_8 => ?_)
        refine post_let (fun M27 e_M27 => ?_)
        have h_M27 : Fr W M0 M27 := by rw [e_M27]; exact Fr.setI h_M23 (hW _ _ (Or.inr (Or.inr (Or.inr (Or.inr (Or.inr (Or.inr rfl)))))))
        refine post_bind (Q := fun r => Fr W M0 r.1) (fr_MO_draw (fun k j hk => hW k j (Or.inr (Or.inl ⟨(hk).1, (hk).2⟩)))  h_M27) (fun q28 h_q28 => ?_)
        refine post_guard (fun c_9 => ?_)
        refine post_let (fun M31 e_M31 => ?_)
        have h_M31 : Fr W M0 M31 := by rw [e_M31]; exact Fr.setI h_q28 (hW _ _ (Or.inr (Or.inr (Or.inr (Or.inl rfl)))))
        refine post_guard (fun c_10 => ?_)
        refine post_guard (fun c_11 => ?_)
        refine post_let (fun M35 e_M35 => ?_)
        have h_M35 : Fr W M0 M35 := by rw [e_M35]; exact Fr.setI h_M31 (hW _ _ (Or.inr (Or.inr (Or.inr (Or.inr (Or.inr (Or.inl rfl)))))))
        refine post_bind (Q := fun r => Fr W M0 r) (fr_MO_floods (fun k j hk => hW k j (Or.inr (Or.inr (Or.inl hk))))  h_M35) (fun q36 h_q36 => ?_)
        exact (fr_MO_years_L149 (fun k j hk => hW k j (Or.inl ⟨(hk).1, (hk).2⟩)) (fun a0_ a1_ h9 => ih a0_ a1_ h9) h_q36)
def W_MO_years_L39 : Nat → Int → Prop := fun k j => (k = 207 ∧ (j = 0)) ∨ (k = 209 ∧ (j = 0)) ∨ k = 211 ∨ k = 212 ∨ k = 216 ∨ k = 217 ∨ k = 218
theorem fr_MO_years_L39 {x1 : Int} {W : Nat → Int → Prop} {M0 : Mem} (hW : ∀ k j, (W_MO_years_L39) k j → W k j)  {M : Mem} (h : Fr W M0 M) : Post (fun r => Fr W M0 r.1) (t_MO_years_L39 x1 M) := by
  unfold t_MO_years_L39
  exact (fr_MO_years_L41 (fun k j hk => hW k j (Or.elim hk (fun h => (Or.inl ⟨(h).1, (h).2⟩)) (fun h => (Or.elim h (fun h => (Or.inr (Or.inl ⟨(h).1, (h).2⟩))) (fun h => (Or.elim h (fun h => (Or.inr (Or.inr (Or.inl h)))) (fun h => (Or.elim h (fun h => (Or.inr (Or.inr (Or.inr (Or.inl h))))) (fun h => (Or.elim h (fun h => (Or.inr (Or.inr (Or.inr (Or.inr (Or.inl h)))))) (fun h => (Or.elim h (fun h => (Or.inr (Or.inr (Or.inr (Or.inr (Or.inr (Or.inl h))))))) (fun h => (Or.inr (Or.inr (Or.inr (Or.inr (Or.inr (Or.inr h)))))))))))))))))))  _ _ _ h)
def W_MO_years : Nat → Int → Prop := fun k j => (k = 191 ∧ (j = 0 ∨ j = 43)) ∨ (k = 207 ∧ (j = 0)) ∨ (k = 209 ∧ (j = 0)) ∨ k = 211 ∨ k = 212 ∨ k = 216 ∨ k = 217 ∨ k = 218
theorem fr_MO_years {x1 : Int} {W : Nat → Int → Prop} {M0 : Mem} (hW : ∀ k j, (W_MO_years) k j → W k j)  {M : Mem} (h : Fr W M0 M) : Post (fun r => Fr W M0 r.1) (t_MO_years M x1) := by
  unfold t_MO_years
  refine post_let (fun M1 e_M1 => ?_)
  have h_M1 : Fr W M0 M1 := by rw [e_M1]; exact Fr.setI h (hW _ _ (Or.inl ⟨rfl, (Or.inl rfl)⟩))
  refine post_ite (fun c_1 => ?_) (fun c_1 => ?_)
  · exact post_some h_M1
  · refine post_ite (fun c_2 => ?_) (fun c_2 => ?_)
    · exact post_some h_M1
    · refine post_ite (fun c_3 => ?_) (fun c_3 => ?_)
      · refine post_ite (fun c_4 => ?_) (fun c_4 => ?_)
        · exact (fr_MO_years_L39 (fun k j hk => hW k j (Or.elim hk (fun h => (Or.inr (Or.inl ⟨(h).1, (h).2⟩))) (fun h => (Or.elim h (fun h => (Or.inr (Or.inr (Or.inl ⟨(h).1, (h).2⟩)))) (fun h => (Or.elim h (fun h => (Or.inr (Or.inr (Or.inr (Or.inl h))))) (fun h => (Or.elim h (fun h => (Or.inr (Or.inr (Or.inr (Or.inr (Or.inl h)))))) (fun h => (Or.elim h (fun h => (Or.inr (Or.inr (Or.inr (Or.inr (Or.inr (Or.inl h))))))) (fun h => (Or.elim h (fun h => (Or.inr (Or.inr (Or.inr (Or.inr (Or.inr (Or.inr (Or.inl h)))))))) (fun h => (Or.inr (Or.inr (Or.inr (Or.inr (Or.inr (Or.inr (Or.inr h))))))))))))))))))))  h_M1)
        · refine post_let (fun M7 e_M7 => ?_)
          have h_M7 : Fr W M0 M7 := by rw [e_M7]; exact Fr.setI h_M1 (hW _ _ (Or.inl ⟨rfl, (Or.inr rfl)⟩))
          exact (fr_MO_years_L39 (fun k j hk => hW k j (Or.elim hk (fun h => (Or.inr (Or.inl ⟨(h).1, (h).2⟩))) (fun h => (Or.elim h (fun h => (Or.inr (Or.inr (Or.inl ⟨(h).1, (h).2⟩)))) (fun h => (Or.elim h (fun h => (Or.inr (Or.inr (Or.inr (Or.inl h))))) (fun h => (Or.elim h (fun h => (Or.inr (Or.inr (Or.inr (Or.inr (Or.inl h)))))) (fun h => (Or.elim h (fun h => (Or.inr (Or.inr (Or.inr (Or.inr (Or.inr (Or.inl h))))))) (fun h => (Or.elim h (fun h => (Or.inr (Or.inr (Or.inr (Or.inr (Or.inr (Or.inr (Or.inl h)))))))) (fun h => (Or.inr (Or.inr (Or.inr (Or.inr (Or.inr (Or.inr (Or.inr h))))))))))))))))))))  h_M7)
      · exact post_some h_M1
def W_MO_voted : Nat → Int → Prop := fun k j => (k = 191 ∧ (j = 0))
theorem fr_MO_voted {x1 : Int} {x2 : Int} {W : Nat → Int → Prop} {M0 : Mem} (hW : ∀ k j, (W_MO_voted) k j → W k j)  {M : Mem} (h : Fr W M0 M) : Post (fun r => Fr W M0 r.1) (t_MO_voted M x1 x2) := by
  unfold t_MO_voted
  refine post_let (fun M1 e_M1 => ?_)
  have h_M1 : Fr W M0 M1 := by rw [e_M1]; exact Fr.setI h (hW _ _ ⟨rfl, rfl⟩)
  refine post_ite (fun c_1 => ?_) (fun c_1 => ?_)
  · exact post_some h_M1
  · refine post_ite (fun c_2 => ?_) (fun c_2 => ?_)
    · refine post_ite (fun c_3 => ?_) (fun c_3 => ?_)
      · refine post_guard (fun c_4 => ?_)
        exact post_some h_M1
      · refine post_ite (fun c_5 => ?_) (fun c_5 => ?_)
        · refine post_guard (fun c_6 => ?_)
          exact post_some h_M1
        · refine post_ite (fun c_7 => ?_) (fun c_7 => ?_)
          · refine post_guard (fun c_8 => ?_)
            exact post_some h_M1
          · exact post_some h_M1
    · exact post_some h_M1
def W_MO_tried_L91 : Nat → Int → Prop := fun k j => (k = 191 ∧ (j = 44 ∨ j = 45)) ∨ k = 208 ∨ k = 213 ∨ k = 214 ∨ k = 215
theorem fr_MO_tried_L91 {x1 : Int} {x2 : Int} {x3 : Int} {W : Nat → Int → Prop} {M0 : Mem} (hW : ∀ k j, (W_MO_tried_L91) k j → W k j)  : ∀ (fu : Nat) (M : Mem) (v2_ : Int) (v3_ : Int), Fr W M0 M → Post (fun r => Fr W M0 r.1) (t_MO_tried_L91 x1 x2 x3 fu M v2_ v3_) := by
  intro fu
  induction fu with
  | zero => intro M v2_ v3_ h; exact post_none
  | succ fu ih =>
    intro M v2_ v3_ h
    rw [t_MO_tried_L91]
    refine post_ite (fun c_1 => ?_) (fun c_1 => ?_)
    · refine post_let (fun M19 e_M19 => ?_)
      have h_M19 : Fr W M0 M19 := by rw [e_M19]; exact Fr.setI h (hW _ _ (Or.inl ⟨rfl, (Or.inl rfl)⟩))
      refine post_let (fun M20 e_M20 => ?_)
      have h_M20 : Fr W M0 M20 := by rw [e_M20]; exact Fr.setI h_M19 (hW _ _ (Or.inl ⟨rfl, (Or.inr rfl)⟩))
      exact post_some h_M20
    · refine post_bind (Q := fun r => Fr W M0 r.1) (fr_MO_beat (fun k j hk => hW k j (Or.elim hk (fun h => (Or.inr (Or.inl h))) (fun h => (Or.elim h (fun h => (Or.inr (Or.inr (Or.inl h)))) (fun h => (Or.elim h (fun h => (Or.inr (Or.inr (Or.inr (Or.inl h))))) (fun h => (Or.inr (Or.inr (Or.inr (Or.inr h)))))))))))  h) (fun q21 h_q21 => ?_)
      exact (ih _ _ _ h_q21)
def W_MO_tried_L49 : Nat → Int → Prop := fun k j => (k = 191 ∧ (j = 44 ∨ j = 45)) ∨ k = 207 ∨ k = 208 ∨ k = 209 ∨ k = 210 ∨ k = 211 ∨ k = 212 ∨ k = 213 ∨ k = 214 ∨ k = 215
theorem fr_MO_tried_L49 {x1 : Int} {x2 : Int} {x3 : Int} {v4_ : Int} {W : Nat → Int → Prop} {M0 : Mem} (hW : ∀ k j, (W_MO_tried_L49) k j → W k j)  {M : Mem} (h : Fr W M0 M) : Post (fun r => Fr W M0 r.1) (t_MO_tried_L49 x1 x2 x3 M v4_) := by
  unfold t_MO_tried_L49
  refine post_ite (fun c_1 => ?_) (fun c_1 => ?_)
  · exact post_some h
  · refine post_ite (fun c_2 => ?_) (fun c_2 => ?_)
    · exact post_some h
    · refine post_ite (fun c_3 => ?_) (fun c_3 => ?_)
      · refine post_bind (Q := fun r => Fr W M0 r) (fr_MO_copies (fun k j hk => hW k j (Or.elim hk (fun h => (Or.inr (Or.inl h))) (fun h => (Or.elim h (fun h => (Or.inr (Or.inr (Or.inl h)))) (fun h => (Or.elim h (fun h => (Or.inr (Or.inr (Or.inr (Or.inl h))))) (fun h => (Or.elim h (fun h => (Or.inr (Or.inr (Or.inr (Or.inr (Or.inl h)))))) (fun h => (Or.elim h (fun h => (Or.inr (Or.inr (Or.inr (Or.inr (Or.inr (Or.inl h))))))) (fun h => (Or.elim h (fun h => (Or.inr (Or.inr (Or.inr (Or.inr (Or.inr (Or.inr (Or.inl h)))))))) (fun h => (Or.elim h (fun h => (Or.inr (Or.inr (Or.inr (Or.inr (Or.inr (Or.inr (Or.inr (Or.inl h))))))))) (fun h => (Or.elim h (fun h => (Or.inr (Or.inr (Or.inr (Or.inr (Or.inr (Or.inr (Or.inr (Or.inr (Or.inl h)))))))))) (fun h => (Or.inr (Or.inr (Or.inr (Or.inr (Or.inr (Or.inr (Or.inr (Or.inr (Or.inr h))))))))))))))))))))))))))  h) (fun q14 h_q14 => ?_)
        refine post_let (fun M16 e_M16 => ?_)
        have h_M16 : Fr W M0 M16 := by rw [e_M16]; exact Fr.setI h_q14 (hW _ _ (Or.inl ⟨rfl, (Or.inl rfl)⟩))
        refine post_let (fun M17 e_M17 => ?_)
        have h_M17 : Fr W M0 M17 := by rw [e_M17]; exact Fr.setI h_M16 (hW _ _ (Or.inl ⟨rfl, (Or.inr rfl)⟩))
        exact (fr_MO_tried_L91 (fun k j hk => hW k j (Or.elim hk (fun h => (Or.inl ⟨(h).1, (Or.elim (h).2 (fun h => (Or.inl h)) (fun h => (Or.inr h)))⟩)) (fun h => (Or.elim h (fun h => (Or.inr (Or.inr (Or.inl h)))) (fun h => (Or.elim h (fun h => (Or.inr (Or.inr (Or.inr (Or.inr (Or.inr (Or.inr (Or.inr (Or.inl h))))))))) (fun h => (Or.elim h (fun h => (Or.inr (Or.inr (Or.inr (Or.inr (Or.inr (Or.inr (Or.inr (Or.inr (Or.inl h)))))))))) (fun h => (Or.inr (Or.inr (Or.inr (Or.inr (Or.inr (Or.inr (Or.inr (Or.inr (Or.inr h))))))))))))))))))  _ _ _ _ h_M17)
      · exact post_some h
def W_MO_tried_L48 : Nat → Int → Prop := fun k j => (k = 191 ∧ (j = 44 ∨ j = 45)) ∨ k = 207 ∨ k = 208 ∨ k = 209 ∨ k = 210 ∨ k = 211 ∨ k = 212 ∨ k = 213 ∨ k = 214 ∨ k = 215
theorem fr_MO_tried_L48 {x1 : Int} {x2 : Int} {x3 : Int} {W : Nat → Int → Prop} {M0 : Mem} (hW : ∀ k j, (W_MO_tried_L48) k j → W k j)  {M : Mem} (h : Fr W M0 M) : Post (fun r => Fr W M0 r.1) (t_MO_tried_L48 x1 x2 x3 M) := by
  unfold t_MO_tried_L48
  exact (fr_MO_tried_L49 (fun k j hk => hW k j (Or.elim hk (fun h => (Or.inl ⟨(h).1, (Or.elim (h).2 (fun h => (Or.inl h)) (fun h => (Or.inr h)))⟩)) (fun h => (Or.elim h (fun h => (Or.inr (Or.inl h))) (fun h => (Or.elim h (fun h => (Or.inr (Or.inr (Or.inl h)))) (fun h => (Or.elim h (fun h => (Or.inr (Or.inr (Or.inr (Or.inl h))))) (fun h => (Or.elim h (fun h => (Or.inr (Or.inr (Or.inr (Or.inr (Or.inl h)))))) (fun h => (Or.elim h (fun h => (Or.inr (Or.inr (Or.inr (Or.inr (Or.inr (Or.inl h))))))) (fun h => (Or.elim h (fun h => (Or.inr (Or.inr (Or.inr (Or.inr (Or.inr (Or.inr (Or.inl h)))))))) (fun h => (Or.elim h (fun h => (Or.inr (Or.inr (Or.inr (Or.inr (Or.inr (Or.inr (Or.inr (Or.inl h))))))))) (fun h => (Or.elim h (fun h => (Or.inr (Or.inr (Or.inr (Or.inr (Or.inr (Or.inr (Or.inr (Or.inr (Or.inl h)))))))))) (fun h => (Or.inr (Or.inr (Or.inr (Or.inr (Or.inr (Or.inr (Or.inr (Or.inr (Or.inr h))))))))))))))))))))))))))))  h)
def W_MO_tried : Nat → Int → Prop := fun k j => (k = 191 ∧ (j = 0 ∨ j = 44 ∨ j = 45)) ∨ k = 207 ∨ k = 208 ∨ k = 209 ∨ k = 210 ∨ k = 211 ∨ k = 212 ∨ k = 213 ∨ k = 214 ∨ k = 215
theorem fr_MO_tried {x1 : Int} {x2 : Int} {x3 : Int} {W : Nat → Int → Prop} {M0 : Mem} (hW : ∀ k j, (W_MO_tried) k j → W k j)  {M : Mem} (h : Fr W M0 M) : Post (fun r => Fr W M0 r.1) (t_MO_tried M x1 x2 x3) := by
  unfold t_MO_tried
  refine post_let (fun M1 e_M1 => ?_)
  have h_M1 : Fr W M0 M1 := by rw [e_M1]; exact Fr.setI h (hW _ _ (Or.inl ⟨rfl, (Or.inl rfl)⟩))
  refine post_ite (fun c_1 => ?_) (fun c_1 => ?_)
  · refine post_let (fun q9 _ => ?_)
    exact (fr_MO_tried_L49 (fun k j hk => hW k j (Or.elim hk (fun h => (Or.inl ⟨(h).1, (Or.elim (h).2 (fun h => (Or.inr (Or.inl h))) (fun h => (Or.inr (Or.inr h))))⟩)) (fun h => (Or.elim h (fun h => (Or.inr (Or.inl h))) (fun h => (Or.elim h (fun h => (Or.inr (Or.inr (Or.inl h)))) (fun h => (Or.elim h (fun h => (Or.inr (Or.inr (Or.inr (Or.inl h))))) (fun h => (Or.elim h (fun h => (Or.inr (Or.inr (Or.inr (Or.inr (Or.inl h)))))) (fun h => (Or.elim h (fun h => (Or.inr (Or.inr (Or.inr (Or.inr (Or.inr (Or.inl h))))))) (fun h => (Or.elim h (fun h => (Or.inr (Or.inr (Or.inr (Or.inr (Or.inr (Or.inr (Or.inl h)))))))) (fun h => (Or.elim h (fun h => (Or.inr (Or.inr (Or.inr (Or.inr (Or.inr (Or.inr (Or.inr (Or.inl h))))))))) (fun h => (Or.elim h (fun h => (Or.inr (Or.inr (Or.inr (Or.inr (Or.inr (Or.inr (Or.inr (Or.inr (Or.inl h)))))))))) (fun h => (Or.inr (Or.inr (Or.inr (Or.inr (Or.inr (Or.inr (Or.inr (Or.inr (Or.inr h))))))))))))))))))))))))))))  h_M1)
  · refine post_ite (fun c_2 => ?_) (fun c_2 => ?_)
    · refine post_let (fun q7 _ => ?_)
      exact (fr_MO_tried_L49 (fun k j hk => hW k j (Or.elim hk (fun h => (Or.inl ⟨(h).1, (Or.elim (h).2 (fun h => (Or.inr (Or.inl h))) (fun h => (Or.inr (Or.inr h))))⟩)) (fun h => (Or.elim h (fun h => (Or.inr (Or.inl h))) (fun h => (Or.elim h (fun h => (Or.inr (Or.inr (Or.inl h)))) (fun h => (Or.elim h (fun h => (Or.inr (Or.inr (Or.inr (Or.inl h))))) (fun h => (Or.elim h (fun h => (Or.inr (Or.inr (Or.inr (Or.inr (Or.inl h)))))) (fun h => (Or.elim h (fun h => (Or.inr (Or.inr (Or.inr (Or.inr (Or.inr (Or.inl h))))))) (fun h => (Or.elim h (fun h => (Or.inr (Or.inr (Or.inr (Or.inr (Or.inr (Or.inr (Or.inl h)))))))) (fun h => (Or.elim h (fun h => (Or.inr (Or.inr (Or.inr (Or.inr (Or.inr (Or.inr (Or.inr (Or.inl h))))))))) (fun h => (Or.elim h (fun h => (Or.inr (Or.inr (Or.inr (Or.inr (Or.inr (Or.inr (Or.inr (Or.inr (Or.inl h)))))))))) (fun h => (Or.inr (Or.inr (Or.inr (Or.inr (Or.inr (Or.inr (Or.inr (Or.inr (Or.inr h))))))))))))))))))))))))))))  h_M1)
    · refine post_ite (fun c_3 => ?_) (fun c_3 => ?_)
      · exact (fr_MO_tried_L48 (fun k j hk => hW k j (Or.elim hk (fun h => (Or.inl ⟨(h).1, (Or.elim (h).2 (fun h => (Or.inr (Or.inl h))) (fun h => (Or.inr (Or.inr h))))⟩)) (fun h => (Or.elim h (fun h => (Or.inr (Or.inl h))) (fun h => (Or.elim h (fun h => (Or.inr (Or.inr (Or.inl h)))) (fun h => (Or.elim h (fun h => (Or.inr (Or.inr (Or.inr (Or.inl h))))) (fun h => (Or.elim h (fun h => (Or.inr (Or.inr (Or.inr (Or.inr (Or.inl h)))))) (fun h => (Or.elim h (fun h => (Or.inr (Or.inr (Or.inr (Or.inr (Or.inr (Or.inl h))))))) (fun h => (Or.elim h (fun h => (Or.inr (Or.inr (Or.inr (Or.inr (Or.inr (Or.inr (Or.inl h)))))))) (fun h => (Or.elim h (fun h => (Or.inr (Or.inr (Or.inr (Or.inr (Or.inr (Or.inr (Or.inr (Or.inl h))))))))) (fun h => (Or.elim h (fun h => (Or.inr (Or.inr (Or.inr (Or.inr (Or.inr (Or.inr (Or.inr (Or.inr (Or.inl h)))))))))) (fun h => (Or.inr (Or.inr (Or.inr (Or.inr (Or.inr (Or.inr (Or.inr (Or.inr (Or.inr h))))))))))))))))))))))))))))  h_M1)
      · refine post_ite (fun c_4 => ?_) (fun c_4 => ?_)
        · exact (fr_MO_tried_L48 (fun k j hk => hW k j (Or.elim hk (fun h => (Or.inl ⟨(h).1, (Or.elim (h).2 (fun h => (Or.inr (Or.inl h))) (fun h => (Or.inr (Or.inr h))))⟩)) (fun h => (Or.elim h (fun h => (Or.inr (Or.inl h))) (fun h => (Or.elim h (fun h => (Or.inr (Or.inr (Or.inl h)))) (fun h => (Or.elim h (fun h => (Or.inr (Or.inr (Or.inr (Or.inl h))))) (fun h => (Or.elim h (fun h => (Or.inr (Or.inr (Or.inr (Or.inr (Or.inl h)))))) (fun h => (Or.elim h (fun h => (Or.inr (Or.inr (Or.inr (Or.inr (Or.inr (Or.inl h))))))) (fun h => (Or.elim h (fun h => (Or.inr (Or.inr (Or.inr (Or.inr (Or.inr (Or.inr (Or.inl h)))))))) (fun h => (Or.elim h (fun h => (Or.inr (Or.inr (Or.inr (Or.inr (Or.inr (Or.inr (Or.inr (Or.inl h))))))))) (fun h => (Or.elim h (fun h => (Or.inr (Or.inr (Or.inr (Or.inr (Or.inr (Or.inr (Or.inr (Or.inr (Or.inl h)))))))))) (fun h => (Or.inr (Or.inr (Or.inr (Or.inr (Or.inr (Or.inr (Or.inr (Or.inr (Or.inr h))))))))))))))))))))))))))))  h_M1)
        · refine post_ite (fun c_5 => ?_) (fun c_5 => ?_)
          · exact (fr_MO_tried_L49 (fun k j hk => hW k j (Or.elim hk (fun h => (Or.inl ⟨(h).1, (Or.elim (h).2 (fun h => (Or.inr (Or.inl h))) (fun h => (Or.inr (Or.inr h))))⟩)) (fun h => (Or.elim h (fun h => (Or.inr (Or.inl h))) (fun h => (Or.elim h (fun h => (Or.inr (Or.inr (Or.inl h)))) (fun h => (Or.elim h (fun h => (Or.inr (Or.inr (Or.inr (Or.inl h))))) (fun h => (Or.elim h (fun h => (Or.inr (Or.inr (Or.inr (Or.inr (Or.inl h)))))) (fun h => (Or.elim h (fun h => (Or.inr (Or.inr (Or.inr (Or.inr (Or.inr (Or.inl h))))))) (fun h => (Or.elim h (fun h => (Or.inr (Or.inr (Or.inr (Or.inr (Or.inr (Or.inr (Or.inl h)))))))) (fun h => (Or.elim h (fun h => (Or.inr (Or.inr (Or.inr (Or.inr (Or.inr (Or.inr (Or.inr (Or.inl h))))))))) (fun h => (Or.elim h (fun h => (Or.inr (Or.inr (Or.inr (Or.inr (Or.inr (Or.inr (Or.inr (Or.inr (Or.inl h)))))))))) (fun h => (Or.inr (Or.inr (Or.inr (Or.inr (Or.inr (Or.inr (Or.inr (Or.inr (Or.inr h))))))))))))))))))))))))))))  h_M1)
          · exact (fr_MO_tried_L48 (fun k j hk => hW k j (Or.elim hk (fun h => (Or.inl ⟨(h).1, (Or.elim (h).2 (fun h => (Or.inr (Or.inl h))) (fun h => (Or.inr (Or.inr h))))⟩)) (fun h => (Or.elim h (fun h => (Or.inr (Or.inl h))) (fun h => (Or.elim h (fun h => (Or.inr (Or.inr (Or.inl h)))) (fun h => (Or.elim h (fun h => (Or.inr (Or.inr (Or.inr (Or.inl h))))) (fun h => (Or.elim h (fun h => (Or.inr (Or.inr (Or.inr (Or.inr (Or.inl h)))))) (fun h => (Or.elim h (fun h => (Or.inr (Or.inr (Or.inr (Or.inr (Or.inr (Or.inl h))))))) (fun h => (Or.elim h (fun h => (Or.inr (Or.inr (Or.inr (Or.inr (Or.inr (Or.inr (Or.inl h)))))))) (fun h => (Or.elim h (fun h => (Or.inr (Or.inr (Or.inr (Or.inr (Or.inr (Or.inr (Or.inr (Or.inl h))))))))) (fun h => (Or.elim h (fun h => (Or.inr (Or.inr (Or.inr (Or.inr (Or.inr (Or.inr (Or.inr (Or.inr (Or.inl h)))))))))) (fun h => (Or.inr (Or.inr (Or.inr (Or.inr (Or.inr (Or.inr (Or.inr (Or.inr (Or.inr h))))))))))))))))))))))))))))  h_M1)
def W_MO_undo : Nat → Int → Prop := fun k j => (k = 191 ∧ (j = 0 ∨ j = 43)) ∨ k = 207 ∨ k = 208 ∨ k = 209 ∨ k = 210 ∨ k = 211 ∨ k = 212 ∨ k = 213 ∨ k = 214 ∨ k = 215
theorem fr_MO_undo  {W : Nat → Int → Prop} {M0 : Mem} (hW : ∀ k j, (W_MO_undo) k j → W k j)  {M : Mem} (h : Fr W M0 M) : Post (fun r => Fr W M0 r.1) (t_MO_undo M) := by
  unfold t_MO_undo
  refine post_let (fun M1 e_M1 => ?_)
  have h_M1 : Fr W M0 M1 := by rw [e_M1]; exact Fr.setI h (hW _ _ (Or.inl ⟨rfl, (Or.inl rfl)⟩))
  refine post_ite (fun c_1 => ?_) (fun c_1 => ?_)
  · exact post_some h_M1
  · refine post_let (fun M5 e_M5 => ?_)
    have h_M5 : Fr W M0 M5 := by rw [e_M5]; exact Fr.setI h_M1 (hW _ _ (Or.inl ⟨rfl, (Or.inr rfl)⟩))
    refine post_bind (Q := fun r => Fr W M0 r) (fr_MO_copies (fun k j hk => hW k j (Or.elim hk (fun h => (Or.inr (Or.inl h))) (fun h => (Or.elim h (fun h => (Or.inr (Or.inr (Or.inl h)))) (fun h => (Or.elim h (fun h => (Or.inr (Or.inr (Or.inr (Or.inl h))))) (fun h => (Or.elim h (fun h => (Or.inr (Or.inr (Or.inr (Or.inr (Or.inl h)))))) (fun h => (Or.elim h (fun h => (Or.inr (Or.inr (Or.inr (Or.inr (Or.inr (Or.inl h))))))) (fun h => (Or.elim h (fun h => (Or.inr (Or.inr (Or.inr (Or.inr (Or.inr (Or.inr (Or.inl h)))))))) (fun h => (Or.elim h (fun h => (Or.inr (Or.inr (Or.inr (Or.inr (Or.inr (Or.inr (Or.inr (Or.inl h))))))))) (fun h => (Or.elim h (fun h => (Or.inr (Or.inr (Or.inr (Or.inr (Or.inr (Or.inr (Or.inr (Or.inr (Or.inl h)))))))))) (fun h => (Or.inr (Or.inr (Or.inr (Or.inr (Or.inr (Or.inr (Or.inr (Or.inr (Or.inr h))))))))))))))))))))))))))  h_M5) (fun q7 h_q7 => ?_)
    exact post_some h_q7
def W_MO_keep : Nat → Int → Prop := fun k j => (k = 191 ∧ (j = 0 ∨ j = 42)) ∨ k = 207 ∨ k = 208 ∨ k = 209 ∨ k = 210 ∨ k = 211 ∨ k = 212 ∨ k = 213 ∨ k = 214 ∨ k = 215 ∨ k = 216 ∨ k = 217 ∨ k = 218
theorem fr_MO_keep  {W : Nat → Int → Prop} {M0 : Mem} (hW : ∀ k j, (W_MO_keep) k j → W k j)  {M : Mem} (h : Fr W M0 M) : Post (fun r => Fr W M0 r.1) (t_MO_keep M) := by
  unfold t_MO_keep
  refine post_let (fun M1 e_M1 => ?_)
  have h_M1 : Fr W M0 M1 := by rw [e_M1]; exact Fr.setI h (hW _ _ (Or.inl ⟨rfl, (Or.inl rfl)⟩))
  refine post_bind (Q := fun r => Fr W M0 r) (fr_MO_copies (fun k j hk => hW k j (Or.elim hk (fun h => (Or.inr (Or.inl h))) (fun h => (Or.elim h (fun h => (Or.inr (Or.inr (Or.inl h)))) (fun h => (Or.elim h (fun h => (Or.inr (Or.inr (Or.inr (Or.inl h))))) (fun h => (Or.elim h (fun h => (Or.inr (Or.inr (Or.inr (Or.inr (Or.inl h)))))) (fun h => (Or.elim h (fun h => (Or.inr (Or.inr (Or.inr (Or.inr (Or.inr (Or.inl h))))))) (fun h => (Or.elim h (fun h => (Or.inr (Or.inr (Or.inr (Or.inr (Or.inr (Or.inr (Or.inl h)))))))) (fun h => (Or.elim h (fun h => (Or.inr (Or.inr (Or.inr (Or.inr (Or.inr (Or.inr (Or.inr (Or.inl h))))))))) (fun h => (Or.elim h (fun h => (Or.inr (Or.inr (Or.inr (Or.inr (Or.inr (Or.inr (Or.inr (Or.inr (Or.inl h)))))))))) (fun h => (Or.inr (Or.inr (Or.inr (Or.inr (Or.inr (Or.inr (Or.inr (Or.inr (Or.inr (Or.inl h)))))))))))))))))))))))))))  h_M1) (fun q2 h_q2 => ?_)
  refine post_bind (Q := fun r => Fr W M0 r) (fr_MO_copiesLog (fun k j hk => hW k j (Or.elim hk (fun h => (Or.inr (Or.inr (Or.inr (Or.inr (Or.inr (Or.inr (Or.inr (Or.inr (Or.inr (Or.inr (Or.inl h)))))))))))) (fun h => (Or.elim h (fun h => (Or.inr (Or.inr (Or.inr (Or.inr (Or.inr (Or.inr (Or.inr (Or.inr (Or.inr (Or.inr (Or.inr (Or.inl h))))))))))))) (fun h => (Or.inr (Or.inr (Or.inr (Or.inr (Or.inr (Or.inr (Or.inr (Or.inr (Or.inr (Or.inr (Or.inr (Or.inr h)))))))))))))))))  h_q2) (fun q4 h_q4 => ?_)
  refine post_let (fun M6 e_M6 => ?_)
  have h_M6 : Fr W M0 M6 := by rw [e_M6]; exact Fr.setI h_q4 (hW _ _ (Or.inl ⟨rfl, (Or.inr rfl)⟩))
  exact post_some h_M6
def W_MO_back : Nat → Int → Prop := fun k j => (k = 191 ∧ (j = 0 ∨ j = 43)) ∨ k = 207 ∨ k = 208 ∨ k = 209 ∨ k = 210 ∨ k = 211 ∨ k = 212 ∨ k = 213 ∨ k = 214 ∨ k = 215 ∨ k = 216 ∨ k = 217 ∨ k = 218
theorem fr_MO_back  {W : Nat → Int → Prop} {M0 : Mem} (hW : ∀ k j, (W_MO_back) k j → W k j)  {M : Mem} (h : Fr W M0 M) : Post (fun r => Fr W M0 r.1) (t_MO_back M) := by
  unfold t_MO_back
  refine post_let (fun M1 e_M1 => ?_)
  have h_M1 : Fr W M0 M1 := by rw [e_M1]; exact Fr.setI h (hW _ _ (Or.inl ⟨rfl, (Or.inl rfl)⟩))
  refine post_ite (fun c_1 => ?_) (fun c_1 => ?_)
  · exact post_some h_M1
  · refine post_bind (Q := fun r => Fr W M0 r) (fr_MO_copies (fun k j hk => hW k j (Or.elim hk (fun h => (Or.inr (Or.inl h))) (fun h => (Or.elim h (fun h => (Or.inr (Or.inr (Or.inl h)))) (fun h => (Or.elim h (fun h => (Or.inr (Or.inr (Or.inr (Or.inl h))))) (fun h => (Or.elim h (fun h => (Or.inr (Or.inr (Or.inr (Or.inr (Or.inl h)))))) (fun h => (Or.elim h (fun h => (Or.inr (Or.inr (Or.inr (Or.inr (Or.inr (Or.inl h))))))) (fun h => (Or.elim h (fun h => (Or.inr (Or.inr (Or.inr (Or.inr (Or.inr (Or.inr (Or.inl h)))))))) (fun h => (Or.elim h (fun h => (Or.inr (Or.inr (Or.inr (Or.inr (Or.inr (Or.inr (Or.inr (Or.inl h))))))))) (fun h => (Or.elim h (fun h => (Or.inr (Or.inr (Or.inr (Or.inr (Or.inr (Or.inr (Or.inr (Or.inr (Or.inl h)))))))))) (fun h => (Or.inr (Or.inr (Or.inr (Or.inr (Or.inr (Or.inr (Or.inr (Or.inr (Or.inr (Or.inl h)))))))))))))))))))))))))))  h_M1) (fun q4 h_q4 => ?_)
    refine post_bind (Q := fun r => Fr W M0 r) (fr_MO_copiesLog (fun k j hk => hW k j (Or.elim hk (fun h => (Or.inr (Or.inr (Or.inr (Or.inr (Or.inr (Or.inr (Or.inr (Or.inr (Or.inr (Or.inr (Or.inl h)))))))))))) (fun h => (Or.elim h (fun h => (Or.inr (Or.inr (Or.inr (Or.inr (Or.inr (Or.inr (Or.inr (Or.inr (Or.inr (Or.inr (Or.inr (Or.inl h))))))))))))) (fun h => (Or.inr (Or.inr (Or.inr (Or.inr (Or.inr (Or.inr (Or.inr (Or.inr (Or.inr (Or.inr (Or.inr (Or.inr h)))))))))))))))))  h_q4) (fun q6 h_q6 => ?_)
    refine post_let (fun M8 e_M8 => ?_)
    have h_M8 : Fr W M0 M8 := by rw [e_M8]; exact Fr.setI h_q6 (hW _ _ (Or.inl ⟨rfl, (Or.inr rfl)⟩))
    exact post_some h_M8
def W_MO_count_L196 : Nat → Int → Prop := fun k j => False
theorem fr_MO_count_L196 {x1 : Int} {bk164 : Mem → Int → Int → Option (Mem × Int)} {v1_ : Int} {v2_ : Int} {v3_ : Int} {W : Nat → Int → Prop} {M0 : Mem} (hW : ∀ k j, (W_MO_count_L196) k j → W k j) (hbk164 : ∀ (a0_ : Mem) (a1_ : Int) (a2_ : Int), Fr W M0 a0_ → Post (fun r => Fr W M0 r.1) (bk164 a0_ a1_ a2_)) {M : Mem} (h : Fr W M0 M) : Post (fun r => Fr W M0 r.1) (t_MO_count_L196 x1 bk164 M v1_ v2_ v3_) := by
  unfold t_MO_count_L196
  exact hbk164 _ _ _ h
def W_MO_count_L164 : Nat → Int → Prop := fun k j => False
theorem fr_MO_count_L164 {x1 : Int} {W : Nat → Int → Prop} {M0 : Mem} (hW : ∀ k j, (W_MO_count_L164) k j → W k j)  : ∀ (fu : Nat) (M : Mem) (v1_ : Int) (v2_ : Int), Fr W M0 M → Post (fun r => Fr W M0 r.1) (t_MO_count_L164 x1 fu M v1_ v2_) := by
  intro fu
  induction fu with
  | zero => intro M v1_ v2_ h; exact post_none
  | succ fu ih =>
    intro M v1_ v2_ h
    rw [t_MO_count_L164]
    refine post_ite (fun c_1 => ?_) (fun c_1 => ?_)
    · exact post_some h
    · refine post_guard (fun c_2 => ?_)
      refine post_bindv (fun q34 => ?_)
      refine post_ite (fun c_3 => ?_) (fun c_3 => ?_)
      · exact (fr_MO_count_L196 (fun k j hk => hk.elim) (fun a0_ a1_ a2_ h9 => ih a0_ a1_ a2_ h9) h)
      · exact (fr_MO_count_L196 (fun k j hk => hk.elim) (fun a0_ a1_ a2_ h9 => ih a0_ a1_ a2_ h9) h)
def W_MO_count : Nat → Int → Prop := fun k j => (k = 191 ∧ (j = 0))
theorem fr_MO_count {x1 : Int} {W : Nat → Int → Prop} {M0 : Mem} (hW : ∀ k j, (W_MO_count) k j → W k j)  {M : Mem} (h : Fr W M0 M) : Post (fun r => Fr W M0 r.1) (t_MO_count M x1) := by
  unfold t_MO_count
  refine post_let (fun M1 e_M1 => ?_)
  have h_M1 : Fr W M0 M1 := by rw [e_M1]; exact Fr.setI h (hW _ _ ⟨rfl, rfl⟩)
  refine post_ite (fun c_1 => ?_) (fun c_1 => ?_)
  · exact post_some h_M1
  · refine post_ite (fun c_2 => ?_) (fun c_2 => ?_)
    · exact post_some h_M1
    · refine post_ite (fun c_3 => ?_) (fun c_3 => ?_)
      · exact post_some h_M1
      · refine post_ite (fun c_4 => ?_) (fun c_4 => ?_)
        · exact post_some h_M1
        · refine post_ite (fun c_5 => ?_) (fun c_5 => ?_)
          · exact post_some h_M1
          · refine post_ite (fun c_6 => ?_) (fun c_6 => ?_)
            · exact post_some h_M1
            · refine post_ite (fun c_7 => ?_) (fun c_7 => ?_)
              · exact post_some h_M1
              · refine post_ite (fun c_8 => ?_) (fun c_8 => ?_)
                · exact post_some h_M1
                · refine post_ite (fun c_9 => ?_) (fun c_9 => ?_)
                  · refine post_let (fun q19 _ => ?_)
                    exact post_some h_M1
                  · refine post_ite (fun c_10 => ?_) (fun c_10 => ?_)
                    · exact post_some h_M1
                    · refine post_ite (fun c_11 => ?_) (fun c_11 => ?_)
                      · refine post_bindv (fun q24 => ?_)
                        exact post_some h_M1
                      · refine post_ite (fun c_12 => ?_) (fun c_12 => ?_)
                        · refine post_bindv (fun q27 => ?_)
                          exact post_some h_M1
                        · refine post_ite (fun c_13 => ?_) (fun c_13 => ?_)
                          · exact (fr_MO_count_L164 (fun k j hk => hk.elim)  _ _ _ _ h_M1)
                          · exact post_some h_M1
end
section
/-! ===== the town as rows of numbers: 0 scalars (0 wide, 1 high, 2 wards, 3 things, 4 knots, 5 seed, 9 push told, 10 joy told, 11, 12 their lengths), 1 names of wards, 2 their downs, 3 rich, 4 names of things, 5 worth, 6 their cells, 7 owners, 8 walls, 9 stairs, 10, 11 push, 12, 13 joy ===== -/
abbrev TV : Type := Nat → Int → Int
def cellsV (V : TV) : Int := V 0 0 * V 0 1
def bsW (w h c d : Int) : Int := if d = 0 then (if c < w then -1 else c - w) else if d = 1 then (if c % w = w - 1 then -1 else c + 1) else if d = 2 then (if w * h - w ≤ c then -1 else c + w) else if d = 3 then (if c % w = 0 then -1 else c - 1) else -1
def bsV (V : TV) (c d : Int) : Int := bsW (V 0 0) (V 0 1) c d
def dnV (V : TV) (D : Int → Int) (c : Int) : Int := if V 7 c < 0 then 4 else D (V 7 c)
def wlV (V : TV) : Int → Bool := fun c => decide (V 8 c = 1)
def nxV (V : TV) (D : Int → Int) (nets : Int64) (wl : Int → Bool) (c : Int) : Int := if tb nets c = true then -1 else if bsV V c (dnV V D c) < 0 then -1 else if wl (bsV V c (dnV V D c)) = true then -1 else bsV V c (dnV V D c)
def lnV (V : TV) (a b : Int) : Int := if V 7 a = V 7 b then 0 else 1
/-- what a town keeps to -/
def VOK (V : TV) : Prop := (1 ≤ V 0 0 ∧ V 0 0 ≤ 8 ∧ 1 ≤ V 0 1 ∧ V 0 1 ≤ 6 ∧ 0 ≤ V 0 2 ∧ V 0 2 ≤ 4 ∧ 0 ≤ V 0 3 ∧ V 0 3 ≤ 8 ∧ 0 ≤ V 0 4 ∧ V 0 4 ≤ 64 ∧ 0 ≤ V 0 5 ∧ V 0 5 ≤ 99999) ∧ (∀ w, 0 ≤ w → w < V 0 2 → 0 ≤ V 2 w ∧ V 2 w ≤ 4 ∧ 0 ≤ V 3 w ∧ V 3 w ≤ 99) ∧ (∀ t, 0 ≤ t → t < V 0 3 → 0 ≤ V 5 t ∧ V 5 t ≤ 99 ∧ 0 ≤ V 6 t ∧ V 6 t < cellsV V ∧ V 8 (V 6 t) = 0) ∧ (∀ c, 0 ≤ c → c < 48 → -1 ≤ V 7 c ∧ V 7 c < V 0 2 ∧ (V 8 c = 0 ∨ V 8 c = 1) ∧ (V 9 c = 0 ∨ V 9 c = 1))
theorem VOK.cells {V : TV} (h : VOK V) : 1 ≤ cellsV V ∧ cellsV V ≤ 48 := by
  obtain ⟨⟨a1, a2, a3, a4, -⟩, -⟩ := h
  unfold cellsV
  generalize V 0 0 = w at *
  generalize V 0 1 = g at *
  have hw : w = 1 ∨ w = 2 ∨ w = 3 ∨ w = 4 ∨ w = 5 ∨ w = 6 ∨ w = 7 ∨ w = 8 := by omega
  rcases hw with rfl | rfl | rfl | rfl | rfl | rfl | rfl | rfl <;> omega
/-- all sides of all towns' cells -/
theorem bs_all : ∀ w : Nat, w < 8 → ∀ h : Nat, h < 6 → ∀ c : Nat, c < (w + 1) * (h + 1) → ∀ d : Nat, d < 4 → -1 ≤ bsW (w + 1) (h + 1) c d ∧ bsW (w + 1) (h + 1) c d < (w + 1) * (h + 1) := by decide +kernel
theorem bs_rng {V : TV} (hV : VOK V) {c : Int} (h0 : 0 ≤ c) (h1 : c < cellsV V) (d : Int) : -1 ≤ bsV V c d ∧ bsV V c d < cellsV V := by
  have hc := hV.cells
  obtain ⟨⟨a1, a2, a3, a4, -⟩, -⟩ := hV
  by_cases hd : 0 ≤ d ∧ d < 4
  · unfold bsV cellsV at *
    obtain ⟨w, hw⟩ : ∃ w : Nat, V 0 0 = (w : Int) + 1 := ⟨(V 0 0 - 1).toNat, by omega⟩
    obtain ⟨g, hg⟩ : ∃ g : Nat, V 0 1 = (g : Int) + 1 := ⟨(V 0 1 - 1).toNat, by omega⟩
    rw [hw, hg] at h1 ⊢
    have hh : c.toNat < (w + 1) * (g + 1) := by
      have h2 : ((c.toNat : Nat) : Int) < (((w + 1) * (g + 1) : Nat) : Int) := by rw [Int.toNat_of_nonneg h0]; push_cast; exact h1
      exact Int.ofNat_lt.mp h2
    have := bs_all w (by omega) g (by omega) c.toNat hh d.toNat (by omega)
    rw [Int.toNat_of_nonneg h0, Int.toNat_of_nonneg hd.1] at this
    exact this
  · unfold bsV bsW
    rw [if_neg (by omega), if_neg (by omega), if_neg (by omega), if_neg (by omega)]
    omega
theorem nx_rng {V : TV} (hV : VOK V) (D : Int → Int) (nets : Int64) (wl : Int → Bool) {c : Int} (h0 : 0 ≤ c) (h1 : c < cellsV V) : -1 ≤ nxV V D nets wl c ∧ nxV V D nets wl c < cellsV V := by
  have hb := bs_rng hV h0 h1 (dnV V D c)
  have hc := hV.cells
  unfold nxV
  split
  · omega
  · split
    · omega
    · split <;> omega
/-! the class's picture of a town (settled), of a scene; the reference's -/
def CT0 (M : Mem) (T : Nat) (V : TV) : Prop := (M.1 T 11 = V 0 0 ∧ M.1 T 12 = V 0 1 ∧ M.1 T 14 = V 0 2 ∧ M.1 T 15 = V 0 3 ∧ M.1 T 16 = V 0 4 ∧ M.1 T 17 = V 0 5) ∧ (∀ w, 0 ≤ w → w < V 0 2 → M.1 (T + 1) w = V 1 w ∧ M.1 (T + 2) w = V 2 w ∧ M.1 (T + 3) w = V 3 w) ∧ (∀ t, 0 ≤ t → t < V 0 3 → M.1 (T + 5) t = V 4 t ∧ M.1 (T + 6) t = V 5 t ∧ M.1 (T + 7) t = V 6 t) ∧ (∀ c, 0 ≤ c → c < 48 → M.1 (T + 8) c = V 7 c ∧ tb (M.2 T 18) c = decide (V 8 c = 1) ∧ tb (M.2 T 19) c = decide (V 9 c = 1))
def sizeV (V : TV) (w : Int) : Nat → Int
  | 0 => 0
  | n + 1 => sizeV V w n + (if V 7 (n : Int) = w then 1 else 0)
def CTs (M : Mem) (T : Nat) (V : TV) : Prop := M.1 T 13 = cellsV V ∧ (∀ w, 0 ≤ w → w < V 0 2 → M.1 (T + 4) w = sizeV V w (cellsV V).toNat) ∧ (∀ c, 0 ≤ c → c < cellsV V → ∀ d, 0 ≤ d → d < 4 → M.1 (T + 9) (c * 4 + d) = bsV V c d)
def MT0 (M : Mem) (V : TV) : Prop := (M.1 193 0 = V 0 0 ∧ M.1 193 1 = V 0 1 ∧ M.1 193 2 = V 0 2 ∧ M.1 193 6 = V 0 3 ∧ M.1 193 8 = V 0 4 ∧ M.1 193 7 = V 0 5) ∧ (∀ w, 0 ≤ w → w < V 0 2 → M.1 194 w = V 1 w ∧ M.1 195 w = V 2 w ∧ M.1 196 w = V 3 w) ∧ (∀ t, 0 ≤ t → t < V 0 3 → M.1 200 t = V 4 t ∧ M.1 201 t = V 5 t ∧ M.1 202 t = V 6 t) ∧ (∀ c, 0 ≤ c → c < 48 → M.1 197 c = V 7 c + 1 ∧ M.1 198 c = V 8 c ∧ M.1 199 c = V 9 c)
/-- a scene's picture: downs, places, nets, walls -/
def CSc (M : Mem) (k : Nat) (V : TV) (D A : Int → Int) (nets : Int64) (wl : Int → Bool) : Prop := (∀ w, 0 ≤ w → w < V 0 2 → M.1 (k + 1) w = D w) ∧ (∀ t, 0 ≤ t → t < V 0 3 → M.1 (k + 2) t = A t) ∧ M.2 k 5 = nets ∧ (∀ c, 0 ≤ c → c < 48 → tb (M.2 k 4) c = wl c)
def MSc (M : Mem) (at_ : Int) (V : TV) (D A : Int → Int) (nets : Int64) : Prop := (∀ w, 0 ≤ w → w < V 0 2 → M.1 212 (4 * at_ + w) = D w) ∧ (∀ t, 0 ≤ t → t < V 0 3 → M.1 213 (8 * at_ + t) = A t) ∧ M.2 210 at_ = nets
/-! the class's readers -/
theorem look_in {M : Mem} {r N : Nat} {i : Int} (h0 : 0 ≤ i) (h1 : i < (N : Int)) : t_WF_look M r N i = M.1 r i := by
  unfold t_WF_look
  rw [if_neg (by omega), if_neg (by omega)]
theorem look_out {M : Mem} {r N : Nat} {i : Int} (h : i < 0 ∨ (N : Int) ≤ i) : t_WF_look M r N i = -1 := by
  unfold t_WF_look
  by_cases h0 : i < 0
  · rw [if_pos h0]
  · rw [if_neg h0, if_pos (by omega)]
section CR
variable {M : Mem} {T : Nat} {V : TV} {k : Nat} {D A : Int → Int} {nets : Int64} {wl : Int → Bool}
theorem c_hasCell (hs : CTs M T V) (c : Int) : t_Town_hasCell M T c = if 0 ≤ c ∧ c < cellsV V then 1 else 0 := by
  unfold t_Town_hasCell
  rw [hs.1]
  by_cases h0 : c < 0
  · rw [if_pos h0, if_neg (by omega)]
  · rw [if_neg h0]
    by_cases h1 : cellsV V ≤ c
    · rw [if_pos h1, if_neg (by omega)]
    · rw [if_neg h1, if_pos (by omega)]
theorem c_hasWard (h : CT0 M T V) (w : Int) : t_Town_hasWard M T w = if 0 ≤ w ∧ w < V 0 2 then 1 else 0 := by
  unfold t_Town_hasWard
  rw [h.1.2.2.1]
  by_cases h0 : w < 0
  · rw [if_pos h0, if_neg (by omega)]
  · rw [if_neg h0]
    by_cases h1 : V 0 2 ≤ w
    · rw [if_pos h1, if_neg (by omega)]
    · rw [if_neg h1, if_pos (by omega)]
theorem c_hasThing (h : CT0 M T V) (t : Int) : t_Town_hasThing M T t = if 0 ≤ t ∧ t < V 0 3 then 1 else 0 := by
  unfold t_Town_hasThing
  rw [h.1.2.2.2.1]
  by_cases h0 : t < 0
  · rw [if_pos h0, if_neg (by omega)]
  · rw [if_neg h0]
    by_cases h1 : V 0 3 ≤ t
    · rw [if_pos h1, if_neg (by omega)]
    · rw [if_neg h1, if_pos (by omega)]
theorem c_owner (h : CT0 M T V) {c : Int} (h0 : 0 ≤ c) (h1 : c < 48) : t_Town_ownerOf M T c = V 7 c := by
  unfold t_Town_ownerOf
  simp only [qlet]
  rw [look_in h0 (by omega), (h.2.2.2 c h0 h1).1]
theorem c_line (h : CT0 M T V) {a b : Int} (a0 : 0 ≤ a) (a1 : a < 48) (b0 : 0 ≤ b) (b1 : b < 48) : t_Town_isLine M T a b = lnV V a b := by
  unfold t_Town_isLine lnV
  simp only [qlet]
  rw [c_owner h a0 a1, c_owner h b0 b1]
theorem c_down (h : CT0 M T V) (hV : VOK V) (hc : CSc M k V D A nets wl) {c : Int} (h0 : 0 ≤ c) (h1 : c < 48) : t_Scene_downOf M k T c = dnV V D c := by
  have ho := hV.2.2.2 c h0 h1
  have hw := hV.1
  unfold t_Scene_downOf dnV
  simp only [qlet]
  rw [look_in h0 (by omega), (h.2.2.2 c h0 h1).1]
  by_cases h2 : V 7 c < 0
  · rw [if_neg (by omega), if_pos h2]
  · rw [if_pos (by omega), if_neg h2, look_in (by omega) (by omega)]
    exact hc.1 _ (by omega) (by omega)
theorem c_beside (hs : CTs M T V) (hV : VOK V) {c : Int} (h0 : 0 ≤ c) (h1 : c < cellsV V) (d : Int) : t_Town_beside M T c d = bsV V c d := by
  have hc := hV.cells
  unfold t_Town_beside
  simp only [qlet]
  have e1 : (if 0 ≤ c ∧ c < cellsV V then (1 : Int) else 0) = 1 := if_pos ⟨h0, h1⟩
  rw [c_hasCell hs, e1, if_neg (show ¬ (1 : Int) = 0 by decide)]
  by_cases h2 : d < 0
  · rw [if_pos h2]
    unfold bsV bsW
    rw [if_neg (by omega), if_neg (by omega), if_neg (by omega), if_neg (by omega)]
  · rw [if_neg h2]
    by_cases h3 : 4 ≤ d
    · rw [if_pos h3]
      unfold bsV bsW
      rw [if_neg (by omega), if_neg (by omega), if_neg (by omega), if_neg (by omega)]
    · rw [if_neg h3, w32_id (x := c * 4) (by unfold InR; omega), w32_id (by unfold InR; omega), look_in (by omega) (by omega)]
      exact hs.2.2 c h0 h1 d (by omega) (by omega)
theorem c_next (h : CT0 M T V) (hs : CTs M T V) (hV : VOK V) (hc : CSc M k V D A nets wl) {c : Int} (h0 : 0 ≤ c) (h1 : c < cellsV V) : t_Scene_nextOf M k T c = nxV V D nets wl c := by
  have hC := hV.cells
  have hb := bs_rng hV h0 h1 (dnV V D c)
  unfold t_Scene_nextOf nxV
  simp only [qlet]
  rw [hc.2.2.1, bitOf_tb M nets h0 (by omega), c_down h hV hc h0 (by omega), c_beside hs hV h0 h1]
  cases e : tb nets c with
  | true => rfl
  | false =>
    have f1 : (if false = true then (1 : Int) else 0) = 0 := rfl
    have t1 : (if true = true then (1 : Int) else 0) = 1 := rfl
    rw [f1, if_neg (show ¬ (0 : Int) = 1 by decide), if_neg (show ¬ false = true by decide)]
    by_cases h2 : bsV V c (dnV V D c) < 0
    · rw [if_pos h2, if_pos h2]
    · rw [if_neg h2, if_neg h2, bitOf_tb M _ (by omega) (by omega), hc.2.2.2 _ (by omega) (by omega)]
      cases e2 : wl (bsV V c (dnV V D c)) with
      | true => rfl
      | false => rfl
end CR
/-! the reference's readers -/
section MR
variable {M : Mem} {V : TV} {at_ : Int} {D A : Int → Int} {nets : Int64}
theorem m_cells (h : MT0 M V) (hV : VOK V) : t_MO_cells M = cellsV V := by
  have hc := hV.cells
  unfold t_MO_cells
  rw [h.1.1, h.1.2.1]
  exact w32_id (by unfold InR; unfold cellsV at hc; omega)
theorem m_isCell (h : MT0 M V) (hV : VOK V) (c : Int) : t_MO_isCell M c = if 0 ≤ c ∧ c < cellsV V then 1 else 0 := by
  unfold t_MO_isCell
  simp only [qlet]
  rw [m_cells h hV]
  by_cases h0 : c < 0
  · rw [if_pos h0, if_neg (by omega)]
  · rw [if_neg h0]
    by_cases h1 : cellsV V ≤ c
    · rw [if_pos h1, if_neg (by omega)]
    · rw [if_neg h1, if_pos (by omega)]
theorem m_isWard (h : MT0 M V) (w : Int) : t_MO_isWard M w = if 0 ≤ w ∧ w < V 0 2 then 1 else 0 := by
  unfold t_MO_isWard
  rw [h.1.2.2.1]
  by_cases h0 : w < 0
  · rw [if_pos h0, if_neg (by omega)]
  · rw [if_neg h0]
    by_cases h1 : V 0 2 ≤ w
    · rw [if_pos h1, if_neg (by omega)]
    · rw [if_neg h1, if_pos (by omega)]
theorem m_isThing (h : MT0 M V) (t : Int) : t_MO_isThing M t = if 0 ≤ t ∧ t < V 0 3 then 1 else 0 := by
  unfold t_MO_isThing
  rw [h.1.2.2.2.1]
  by_cases h0 : t < 0
  · rw [if_pos h0, if_neg (by omega)]
  · rw [if_neg h0]
    by_cases h1 : V 0 3 ≤ t
    · rw [if_pos h1, if_neg (by omega)]
    · rw [if_neg h1, if_pos (by omega)]
theorem m_line (h : MT0 M V) {a b : Int} (a0 : 0 ≤ a) (a1 : a < 48) (b0 : 0 ≤ b) (b1 : b < 48) : t_MO_isLine M a b = some (lnV V a b) := by
  unfold t_MO_isLine lnV
  rw [qguard_pos ⟨a0, by omega⟩, qguard_pos ⟨b0, by omega⟩, (h.2.2.2 a a0 a1).1, (h.2.2.2 b b0 b1).1]
  by_cases e : V 7 a = V 7 b
  · rw [if_pos e, if_pos (by omega)]
  · rw [if_neg e, if_neg (by omega)]
theorem m_down (h : MT0 M V) (hV : VOK V) (hm : MSc M at_ V D A nets) (ht : ¬ M.1 191 44 = 3) (ha : 0 ≤ at_ ∧ at_ < 23) {c : Int} (h0 : 0 ≤ c) (h1 : c < 48) : t_MO_downOf M at_ c = some (dnV V D c) := by
  have ho := hV.2.2.2 c h0 h1
  have hw := hV.1
  unfold t_MO_downOf t_MO_downOf_L34 dnV
  rw [qguard_pos ⟨h0, by omega⟩, (h.2.2.2 c h0 h1).1, w32_id (x := V 7 c + 1 - 1) (by unfold InR; omega), if_neg ht, show V 7 c + 1 - 1 = V 7 c by omega]
  by_cases h2 : V 7 c < 0
  · rw [if_pos (by omega), if_pos h2]
  · rw [if_neg (by omega), if_neg h2, w32_id (x := 4 * at_) (by unfold InR; omega), w32_id (by unfold InR; omega), qguard_pos ⟨by omega, by omega⟩, hm.1 _ (by omega) (by omega)]
/-- the reference's arithmetic of sides -/
def mbW (w h c d : Int) : Option Int := if d = 4 then some (-1) else if w = 0 then none else
  let x := w32 (q_rem c w + (if d = 1 then 1 else if d = 3 then -1 else 0))
  let y := w32 (q_div c w + (if d = 2 then 1 else if d = 0 then -1 else 0))
  if x < 0 then some (-1) else if y < 0 then some (-1) else if w ≤ x then some (-1) else if y < h then some (w32 (w32 (y * w) + x)) else some (-1)
theorem mb_all : ∀ w : Nat, w < 8 → ∀ h : Nat, h < 6 → ∀ c : Nat, c < (w + 1) * (h + 1) → ∀ d : Nat, d < 5 → mbW (w + 1) (h + 1) c d = some (bsW (w + 1) (h + 1) c d) := by decide +kernel
theorem mb_eq (M : Mem) (c d : Int) : t_MO_beside M c d = mbW (M.1 193 0) (M.1 193 1) c d := by
  unfold t_MO_beside t_MO_beside_L34 t_MO_beside_L62 mbW
  generalize M.1 193 0 = w
  generalize M.1 193 1 = h
  by_cases h4 : d = 4
  · rw [if_pos h4, if_pos h4]
  · rw [if_neg h4, if_neg h4]
    by_cases hw : w = 0
    · rw [if_pos hw, if_pos hw]
    · rw [if_neg hw, if_neg hw]
      simp only []
      by_cases h1 : d = 1
      · subst h1; simp [hw]
      · rw [if_neg h1]
        by_cases h3 : d = 3
        · subst h3; simp [hw]
        · rw [if_neg h3]
          by_cases h2 : d = 2
          · subst h2; simp [hw]
          · by_cases h0 : d = 0
            · subst h0; simp [hw]
            · simp [h0, h1, h2, h3, hw]
theorem m_beside (h : MT0 M V) (hV : VOK V) {c d : Int} (h0 : 0 ≤ c) (h1 : c < cellsV V) (d0 : 0 ≤ d) (d1 : d ≤ 4) : t_MO_beside M c d = some (bsV V c d) := by
  obtain ⟨⟨a1, a2, a3, a4, -⟩, -⟩ := hV
  rw [mb_eq, h.1.1, h.1.2.1]
  unfold bsV
  unfold cellsV at h1
  obtain ⟨w, hw⟩ : ∃ w : Nat, V 0 0 = (w : Int) + 1 := ⟨(V 0 0 - 1).toNat, by omega⟩
  obtain ⟨g, hg⟩ : ∃ g : Nat, V 0 1 = (g : Int) + 1 := ⟨(V 0 1 - 1).toNat, by omega⟩
  rw [hw, hg] at h1 ⊢
  have hh : c.toNat < (w + 1) * (g + 1) := by
    have h2 : ((c.toNat : Nat) : Int) < (((w + 1) * (g + 1) : Nat) : Int) := by rw [Int.toNat_of_nonneg h0]; push_cast; exact h1
    exact Int.ofNat_lt.mp h2
  have := mb_all w (by omega) g (by omega) c.toNat hh d.toNat (by omega)
  rw [Int.toNat_of_nonneg h0, Int.toNat_of_nonneg d0] at this
  exact this
theorem dn_rng (hV : VOK V) (hD : ∀ w, 0 ≤ w → w < V 0 2 → 0 ≤ D w ∧ D w ≤ 4) {c : Int} (h0 : 0 ≤ c) (h1 : c < 48) : 0 ≤ dnV V D c ∧ dnV V D c ≤ 4 := by
  have ho := hV.2.2.2 c h0 h1
  unfold dnV
  split
  · omega
  · exact hD _ (by omega) (by omega)
theorem m_next (h : MT0 M V) (hV : VOK V) (hm : MSc M at_ V D A nets) (hD : ∀ w, 0 ≤ w → w < V 0 2 → 0 ≤ D w ∧ D w ≤ 4) (ht : M.1 191 44 = -1) (ha : 0 ≤ at_ ∧ at_ < 23) {c : Int} (h0 : 0 ≤ c) (h1 : c < cellsV V) : t_MO_nextOf M at_ c = some (nxV V D nets (wlV V) c) := by
  have hC := hV.cells
  have hb := bs_rng hV h0 h1 (dnV V D c)
  have hd := dn_rng hV hD h0 (c := c) (by omega)
  unfold t_MO_nextOf t_MO_nextOf_L24 nxV
  rw [ht, if_neg (by decide), qguard_pos ha, hm.2.2]
  cases e : tb nets c with
  | true => rw [if_pos ((lshr_1 nets h0 (by omega)).mpr e), if_pos rfl]
  | false =>
    rw [if_neg (fun q => by rw [(lshr_1 nets h0 (by omega)).mp q] at e; cases e), if_neg (by simp), m_down h hV hm (by rw [ht]; decide) ha h0 (by omega), obind_some, m_beside h hV h0 h1 hd.1 hd.2, obind_some]
    by_cases h2 : bsV V c (dnV V D c) < 0
    · rw [if_pos (by omega), if_pos h2]
    · have hw := (hV.2.2.2 (bsV V c (dnV V D c)) (by omega) (by omega)).2.2.1
      rw [if_neg (by omega), if_neg h2, if_neg (by decide), qguard_pos ⟨by omega, by omega⟩, (h.2.2.2 _ (by omega) (by omega)).2.1]
      unfold wlV
      rcases hw with hw | hw
      · rw [hw]; simp
      · rw [hw]; simp
end MR
end
section
/-! ===== the class never fails: heads ===== -/
def IM (M : Mem) : Prop := ∀ (k : Nat) (j : Int), InR (M.1 k j)
theorem IM.setI {M : Mem} {k : Nat} {j v : Int} (h : IM M) (hv : InR v) : IM (setI M k j v) := inr_uI h hv
theorem IM.setL {M : Mem} {k : Nat} {j : Int} {v : Int64} (h : IM M) : IM (setL M k j v) := h
theorem IM.cpy {M : Mem} {r1 r2 : Nat} {n : Int} (h : IM M) : IM (cpyM M r1 r2 n) := by
  intro k j
  unfold cpyM
  simp only []
  split
  · exact h _ _
  · exact h _ _
def Ok {α : Type} (P : α → Prop) (x : Option α) : Prop := ∃ r, x = some r ∧ P r
theorem ok_some {α : Type} {P : α → Prop} {v : α} (h : P v) : Ok P (some v) := ⟨v, rfl, h⟩
theorem ok_bind {α β : Type} {P : β → Prop} {Q : α → Prop} {x : Option α} {f : α → Option β} (h : Ok Q x) (k : ∀ v, Q v → Ok P (f v)) : Ok P (obind x f) := by
  obtain ⟨v, rfl, hv⟩ := h
  exact k v hv
theorem ok_ite {α : Type} {P : α → Prop} {c : Prop} [Decidable c] {x y : Option α} (a : c → Ok P x) (b : ¬ c → Ok P y) : Ok P (if c then x else y) := by
  by_cases h : c
  · rw [if_pos h]; exact a h
  · rw [if_neg h]; exact b h
theorem ok_guard {α : Type} {P : α → Prop} {c : Prop} [Decidable c] {x : Option α} (hc : c) (a : Ok P x) : Ok P (qguard c x) := by
  rw [qguard_pos hc]; exact a
theorem ok_let {α β : Type} {P : β → Prop} {x : α} {f : α → Option β} (h : ∀ v, v = x → Ok P (f v)) : Ok P (qlet x f) := h x rfl
theorem inrq_div {x y : Int} : InR (q_div x y) := q_inr_toInt _
theorem inrq_rem {x y : Int} : InR (q_rem x y) := q_inr_toInt _
theorem inrq_and {x y : Int} : InR (q_and x y) := q_inr_toInt _
theorem inrq_or {x y : Int} : InR (q_or x y) := q_inr_toInt _
theorem inrq_xor {x y : Int} : InR (q_xor x y) := q_inr_toInt _
theorem inrq_shl {x y : Int} : InR (q_shl x y) := q_inr_toInt _
theorem inrq_shr {x y : Int} : InR (q_shr x y) := q_inr_toInt _
theorem inrq_ushr {x y : Int} : InR (q_ushr x y) := q_inr_toInt _
theorem inrq_l2i {x : Int64} : InR (q_l2i x) := q_inr_toInt _
theorem inr_toNat {x : Int} (h : InR x) : InR ((x.toNat : Nat) : Int) := by unfold InR at *; omega
theorem inr_ite {x y : Int} {c : Prop} [Decidable c] (hx : InR x) (hy : InR y) : InR (if c then x else y) := by split <;> assumption
theorem fu_up {v : Int} (h : InR v) : 2147483648 - v < (FU : Int) := by unfold InR at h; unfold FU; omega
theorem fu_dn {v : Int} (h : InR v) : v + 2147483649 < (FU : Int) := by unfold InR at h; unfold FU; omega
theorem absl_zero {x : Int64} (h : q_absl x = 0) : x = 0 := by
  unfold q_absl at h
  split at h
  · exact h
  · have h2 : -(-x) = -(0 : Int64) := congrArg (fun y => -y) h
    rw [Int64.neg_neg] at h2
    rw [h2]; rfl
end
