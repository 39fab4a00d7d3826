def W_MO_years_L41 : Nat → Int → Prop := fun k j => (k = 207 ∧ (j = 0)) ∨ (k = 209 ∧ (j = 0)) ∨ k = 211 ∨ k = 212 ∨ k = 216 ∨ k = 217 ∨ k = 218
theorem fr_MO_years_L41 {x1 : Int} {W : Nat → Int → Prop} {M0 : Mem} (hW : ∀ k j, (W_MO_years_L41) k j → W k j)  : ∀ (fu : Nat) (M : Mem) (v2_ : Int), Fr W M0 M → Post (fun r => Fr W M0 r.1) (t_MO_years_L41 x1 fu M v2_) := by
  intro fu
  induction fu with
  | zero => intro M v2_ h; exact post_none
  | succ fu ih =>
    intro M v2_ h
    rw [t_MO_years_L41]
    refine post_ite (fun c_1 => ?_) (fun c_1 => ?_)
    · exact post_some h
    · refine post_guard (fun c_2 => ?_)
      refine post_let (fun M12 e_M12 => ?_)
      have h_M12 : Fr W M0 M12 := by rw [e_M12]; exact Fr.setI h (hW _ _ (Or.inr (Or.inr (Or.inr (Or.inr (Or.inl rfl))))))
      refine post_guard (fun c_3 => ?_)
      refine post_let (fun M14 e_M14 => ?_)
      have h_M14 : Fr W M0 M14 := by rw [e_M14]; exact Fr.setI h_M12 (hW _ _ (Or.inr (Or.inr (Or.inr (Or.inr (Or.inr (Or.inl rfl)))))))
      refine post_guard (fun c_4 => ?_)
      refine post_let (fun M16 e_M16 => ?_)
      have h_M16 : Fr W M0 M16 := by rw [e_M16]; exact Fr.setI h_M14 (hW _ _ (Or.inr (Or.inr (Or.inr (Or.inr (Or.inr (Or.inr rfl)))))))
      refine post_ite (fun c_5 => ?_) (fun c_5 => ?_)
      · exact (fr_MO_years_L149 (fun k j hk => hW k j (Or.inl ⟨(hk).1, (hk).2⟩)) (fun a0_ a1_ h9 => ih a0_ a1_ h9) h_M16)
      · refine post_bind (Q := fun r => Fr W M0 r.1) (fr_MO_draw (fun k j hk => hW k j (Or.inr (Or.inl ⟨(hk).1, (hk).2⟩)))  h_M16) (fun q20 h_q20 => ?_)
        refine post_guard (fun c_6 => ?_)
        refine post_let (fun M23 e_M23 => ?_)
        have h_M23 : Fr W M0 M23 := by rw [e_M23]; exact Fr.setI h_q20 (hW _ _ (Or.inr (Or.inr (Or.inr (Or.inr (Or.inl rfl))))))
        refine post_guard (fun c_7 => ?_)
        refine post_guard (fun c_8 => ?_)
        refine post_let (fun M27 e_M27 => ?_)
        have h_M27 : Fr W M0 M27 := by rw [e_M27]; exact Fr.setI h_M23 (hW _ _ (Or.inr (Or.inr (Or.inr (Or.inr (Or.inr (Or.inr rfl)))))))
        refine post_bind (Q := fun r => Fr W M0 r.1) (fr_MO_draw (fun k j hk => hW k j (Or.inr (Or.inl ⟨(hk).1, (hk).2⟩)))  h_M27) (fun q28 h_q28 => ?_)
        refine post_guard (fun c_9 => ?_)
        refine post_let (fun M31 e_M31 => ?_)
        have h_M31 : Fr W M0 M31 := by rw [e_M31]; exact Fr.setI h_q28 (hW _ _ (Or.inr (Or.inr (Or.inr (Or.inl rfl)))))
        refine post_guard (fun c_10 => ?_)
        refine post_guard (fun c_11 => ?_)
        refine post_let (fun M35 e_M35 => ?_)
        have h_M35 : Fr W M0 M35 := by rw [e_M35]; exact Fr.setI h_M31 (hW _ _ (Or.inr (Or.inr (Or.inr (Or.inr (Or.inr (Or.inl rfl)))))))
        refine post_bind (Q := fun r => Fr W M0 r) (fr_MO_floods (fun k j hk => hW k j (Or.inr (Or.inr (Or.inl hk))))  h_M35) (fun q36 h_q36 => ?_)
        exact (fr_MO_years_L149 (fun k j hk => hW k j (Or.inl ⟨(hk).1, (hk).2⟩)) (fun a0_ a1_ h9 => ih a0_ a1_ h9) h_q36)
def W_MO_years_L39 : Nat → Int → Prop := fun k j => (k = 207 ∧ (j = 0)) ∨ (k = 209 ∧ (j = 0)) ∨ k = 211 ∨ k = 212 ∨ k = 216 ∨ k = 217 ∨ k = 218
theorem fr_MO_years_L39 {x1 : Int} {W : Nat → Int → Prop} {M0 : Mem} (hW : ∀ k j, (W_MO_years_L39) k j → W k j)  {M : Mem} (h : Fr W M0 M) : Post (fun r => Fr W M0 r.1) (t_MO_years_L39 x1 M) := by
  unfold t_MO_years_L39
  exact (fr_MO_years_L41 (fun k j hk => hW k j (Or.elim hk (fun h => (Or.inl ⟨(h).1, (h).2⟩)) (fun h => (Or.elim h (fun h => (Or.inr (Or.inl ⟨(h).1, (h).2⟩))) (fun h => (Or.elim h (fun h => (Or.inr (Or.inr (Or.inl h)))) (fun h => (Or.elim h (fun h => (Or.inr (Or.inr (Or.inr (Or.inl h))))) (fun h => (Or.elim h (fun h => (Or.inr (Or.inr (Or.inr (Or.inr (Or.inl h)))))) (fun h => (Or.elim h (fun h => (Or.inr (Or.inr (Or.inr (Or.inr (Or.inr (Or.inl h))))))) (fun h => (Or.inr (Or.inr (Or.inr (Or.inr (Or.inr (Or.inr h)))))))))))))))))))  _ _ _ h)
def W_MO_years : Nat → Int → Prop := fun k j => (k = 191 ∧ (j = 0 ∨ j = 43)) ∨ (k = 207 ∧ (j = 0)) ∨ (k = 209 ∧ (j = 0)) ∨ k = 211 ∨ k = 212 ∨ k = 216 ∨ k = 217 ∨ k = 218
theorem fr_MO_years {x1 : Int} {W : Nat → Int → Prop} {M0 : Mem} (hW : ∀ k j, (W_MO_years) k j → W k j)  {M : Mem} (h : Fr W M0 M) : Post (fun r => Fr W M0 r.1) (t_MO_years M x1) := by
  unfold t_MO_years
  refine post_let (fun M1 e_M1 => ?_)
  have h_M1 : Fr W M0 M1 := by rw [e_M1]; exact Fr.setI h (hW _ _ (Or.inl ⟨rfl, (Or.inl rfl)⟩))
  refine post_ite (fun c_1 => ?_) (fun c_1 => ?_)
  · exact post_some h_M1
  · refine post_ite (fun c_2 => ?_) (fun c_2 => ?_)
    · exact post_some h_M1
    · refine post_ite (fun c_3 => ?_) (fun c_3 => ?_)
      · refine post_ite (fun c_4 => ?_) (fun c_4 => ?_)
        · exact (fr_MO_years_L39 (fun k j hk => hW k j (Or.elim hk (fun h => (Or.inr (Or.inl ⟨(h).1, (h).2⟩))) (fun h => (Or.elim h (fun h => (Or.inr (Or.inr (Or.inl ⟨(h).1, (h).2⟩)))) (fun h => (Or.elim h (fun h => (Or.inr (Or.inr (Or.inr (Or.inl h))))) (fun h => (Or.elim h (fun h => (Or.inr (Or.inr (Or.inr (Or.inr (Or.inl h)))))) (fun h => (Or.elim h (fun h => (Or.inr (Or.inr (Or.inr (Or.inr (Or.inr (Or.inl h))))))) (fun h => (Or.elim h (fun h => (Or.inr (Or.inr (Or.inr (Or.inr (Or.inr (Or.inr (Or.inl h)))))))) (fun h => (Or.inr (Or.inr (Or.inr (Or.inr (Or.inr (Or.inr (Or.inr h))))))))))))))))))))  h_M1)
        · refine post_let (fun M7 e_M7 => ?_)
          have h_M7 : Fr W M0 M7 := by rw [e_M7]; exact Fr.setI h_M1 (hW _ _ (Or.inl ⟨rfl, (Or.inr rfl)⟩))
          exact (fr_MO_years_L39 (fun k j hk => hW k j (Or.elim hk (fun h => (Or.inr (Or.inl ⟨(h).1, (h).2⟩))) (fun h => (Or.elim h (fun h => (Or.inr (Or.inr (Or.inl ⟨(h).1, (h).2⟩)))) (fun h => (Or.elim h (fun h => (Or.inr (Or.inr (Or.inr (Or.inl h))))) (fun h => (Or.elim h (fun h => (Or.inr (Or.inr (Or.inr (Or.inr (Or.inl h)))))) (fun h => (Or.elim h (fun h => (Or.inr (Or.inr (Or.inr (Or.inr (Or.inr (Or.inl h))))))) (fun h => (Or.elim h (fun h => (Or.inr (Or.inr (Or.inr (Or.inr (Or.inr (Or.inr (Or.inl h)))))))) (fun h => (Or.inr (Or.inr (Or.inr (Or.inr (Or.inr (Or.inr (Or.inr h))))))))))))))))))))  h_M7)
      · exact post_some h_M1
def W_MO_voted : Nat → Int → Prop := fun k j => (k = 191 ∧ (j = 0))
theorem fr_MO_voted {x1 : Int} {x2 : Int} {W : Nat → Int → Prop} {M0 : Mem} (hW : ∀ k j, (W_MO_voted) k j → W k j)  {M : Mem} (h : Fr W M0 M) : Post (fun r => Fr W M0 r.1) (t_MO_voted M x1 x2) := by
  unfold t_MO_voted
  refine post_let (fun M1 e_M1 => ?_)
  have h_M1 : Fr W M0 M1 := by rw [e_M1]; exact Fr.setI h (hW _ _ ⟨rfl, rfl⟩)
  refine post_ite (fun c_1 => ?_) (fun c_1 => ?_)
  · exact post_some h_M1
  · refine post_ite (fun c_2 => ?_) (fun c_2 => ?_)
    · refine post_ite (fun c_3 => ?_) (fun c_3 => ?_)
      · refine post_guard (fun c_4 => ?_)
        exact post_some h_M1
      · refine post_ite (fun c_5 => ?_) (fun c_5 => ?_)
        · refine post_guard (fun c_6 => ?_)
          exact post_some h_M1
        · refine post_ite (fun c_7 => ?_) (fun c_7 => ?_)
          · refine post_guard (fun c_8 => ?_)
            exact post_some h_M1
          · exact post_some h_M1
    · exact post_some h_M1
def W_MO_tried_L91 : Nat → Int → Prop := fun k j => (k = 191 ∧ (j = 44 ∨ j = 45)) ∨ k = 208 ∨ k = 213 ∨ k = 214 ∨ k = 215
theorem fr_MO_tried_L91 {x1 : Int} {x2 : Int} {x3 : Int} {W : Nat → Int → Prop} {M0 : Mem} (hW : ∀ k j, (W_MO_tried_L91) k j → W k j)  : ∀ (fu : Nat) (M : Mem) (v2_ : Int) (v3_ : Int), Fr W M0 M → Post (fun r => Fr W M0 r.1) (t_MO_tried_L91 x1 x2 x3 fu M v2_ v3_) := by
  intro fu
  induction fu with
  | zero => intro M v2_ v3_ h; exact post_none
  | succ fu ih =>
    intro M v2_ v3_ h
    rw [t_MO_tried_L91]
    refine post_ite (fun c_1 => ?_) (fun c_1 => ?_)
    · refine post_let (fun M19 e_M19 => ?_)
      have h_M19 : Fr W M0 M19 := by rw [e_M19]; exact Fr.setI h (hW _ _ (Or.inl ⟨rfl, (Or.inl rfl)⟩))
      refine post_let (fun M20 e_M20 => ?_)
      have h_M20 : Fr W M0 M20 := by rw [e_M20]; exact Fr.setI h_M19 (hW _ _ (Or.inl ⟨rfl, (Or.inr rfl)⟩))
      exact post_some h_M20
    · refine post_bind (Q := fun r => Fr W M0 r.1) (fr_MO_beat (fun k j hk => hW k j (Or.elim hk (fun h => (Or.inr (Or.inl h))) (fun h => (Or.elim h (fun h => (Or.inr (Or.inr (Or.inl h)))) (fun h => (Or.elim h (fun h => (Or.inr (Or.inr (Or.inr (Or.inl h))))) (fun h => (Or.inr (Or.inr (Or.inr (Or.inr h)))))))))))  h) (fun q21 h_q21 => ?_)
      exact (ih _ _ _ h_q21)
def W_MO_tried_L49 : Nat → Int → Prop := fun k j => (k = 191 ∧ (j = 44 ∨ j = 45)) ∨ k = 207 ∨ k = 208 ∨ k = 209 ∨ k = 210 ∨ k = 211 ∨ k = 212 ∨ k = 213 ∨ k = 214 ∨ k = 215
theorem fr_MO_tried_L49 {x1 : Int} {x2 : Int} {x3 : Int} {v4_ : Int} {W : Nat → Int → Prop} {M0 : Mem} (hW : ∀ k j, (W_MO_tried_L49) k j → W k j)  {M : Mem} (h : Fr W M0 M) : Post (fun r => Fr W M0 r.1) (t_MO_tried_L49 x1 x2 x3 M v4_) := by
  unfold t_MO_tried_L49
  refine post_ite (fun c_1 => ?_) (fun c_1 => ?_)
  · exact post_some h
  · refine post_ite (fun c_2 => ?_) (fun c_2 => ?_)
    · exact post_some h
    · refine post_ite (fun c_3 => ?_) (fun c_3 => ?_)
      · refine post_bind (Q := fun r => Fr W M0 r) (fr_MO_copies (fun k j hk => hW k j (Or.elim hk (fun h => (Or.inr (Or.inl h))) (fun h => (Or.elim h (fun h => (Or.inr (Or.inr (Or.inl h)))) (fun h => (Or.elim h (fun h => (Or.inr (Or.inr (Or.inr (Or.inl h))))) (fun h => (Or.elim h (fun h => (Or.inr (Or.inr (Or.inr (Or.inr (Or.inl h)))))) (fun h => (Or.elim h (fun h => (Or.inr (Or.inr (Or.inr (Or.inr (Or.inr (Or.inl h))))))) (fun h => (Or.elim h (fun h => (Or.inr (Or.inr (Or.inr (Or.inr (Or.inr (Or.inr (Or.inl h)))))))) (fun h => (Or.elim h (fun h => (Or.inr (Or.inr (Or.inr (Or.inr (Or.inr (Or.inr (Or.inr (Or.inl h))))))))) (fun h => (Or.elim h (fun h => (Or.inr (Or.inr (Or.inr (Or.inr (Or.inr (Or.inr (Or.inr (Or.inr (Or.inl h)))))))))) (fun h => (Or.inr (Or.inr (Or.inr (Or.inr (Or.inr (Or.inr (Or.inr (Or.inr (Or.inr h))))))))))))))))))))))))))  h) (fun q14 h_q14 => ?_)
        refine post_let (fun M16 e_M16 => ?_)
        have h_M16 : Fr W M0 M16 := by rw [e_M16]; exact Fr.setI h_q14 (hW _ _ (Or.inl ⟨rfl, (Or.inl rfl)⟩))
        refine post_let (fun M17 e_M17 => ?_)
        have h_M17 : Fr W M0 M17 := by rw [e_M17]; exact Fr.setI h_M16 (hW _ _ (Or.inl ⟨rfl, (Or.inr rfl)⟩))
        exact (fr_MO_tried_L91 (fun k j hk => hW k j (Or.elim hk (fun h => (Or.inl ⟨(h).1, (Or.elim (h).2 (fun h => (Or.inl h)) (fun h => (Or.inr h)))⟩)) (fun h => (Or.elim h (fun h => (Or.inr (Or.inr (Or.inl h)))) (fun h => (Or.elim h (fun h => (Or.inr (Or.inr (Or.inr (Or.inr (Or.inr (Or.inr (Or.inr (Or.inl h))))))))) (fun h => (Or.elim h (fun h => (Or.inr (Or.inr (Or.inr (Or.inr (Or.inr (Or.inr (Or.inr (Or.inr (Or.inl h)))))))))) (fun h => (Or.inr (Or.inr (Or.inr (Or.inr (Or.inr (Or.inr (Or.inr (Or.inr (Or.inr h))))))))))))))))))  _ _ _ _ h_M17)
      · exact post_some h
def W_MO_tried_L48 : Nat → Int → Prop := fun k j => (k = 191 ∧ (j = 44 ∨ j = 45)) ∨ k = 207 ∨ k = 208 ∨ k = 209 ∨ k = 210 ∨ k = 211 ∨ k = 212 ∨ k = 213 ∨ k = 214 ∨ k = 215
theorem fr_MO_tried_L48 {x1 : Int} {x2 : Int} {x3 : Int} {W : Nat → Int → Prop} {M0 : Mem} (hW : ∀ k j, (W_MO_tried_L48) k j → W k j)  {M : Mem} (h : Fr W M0 M) : Post (fun r => Fr W M0 r.1) (t_MO_tried_L48 x1 x2 x3 M) := by
  unfold t_MO_tried_L48
  exact (fr_MO_tried_L49 (fun k j hk => hW k j (Or.elim hk (fun h => (Or.inl ⟨(h).1, (Or.elim (h).2 (fun h => (Or.inl h)) (fun h => (Or.inr h)))⟩)) (fun h => (Or.elim h (fun h => (Or.inr (Or.inl h))) (fun h => (Or.elim h (fun h => (Or.inr (Or.inr (Or.inl h)))) (fun h => (Or.elim h (fun h => (Or.inr (Or.inr (Or.inr (Or.inl h))))) (fun h => (Or.elim h (fun h => (Or.inr (Or.inr (Or.inr (Or.inr (Or.inl h)))))) (fun h => (Or.elim h (fun h => (Or.inr (Or.inr (Or.inr (Or.inr (Or.inr (Or.inl h))))))) (fun h => (Or.elim h (fun h => (Or.inr (Or.inr (Or.inr (Or.inr (Or.inr (Or.inr (Or.inl h)))))))) (fun h => (Or.elim h (fun h => (Or.inr (Or.inr (Or.inr (Or.inr (Or.inr (Or.inr (Or.inr (Or.inl h))))))))) (fun h => (Or.elim h (fun h => (Or.inr (Or.inr (Or.inr (Or.inr (Or.inr (Or.inr (Or.inr (Or.inr (Or.inl h)))))))))) (fun h => (Or.inr (Or.inr (Or.inr (Or.inr (Or.inr (Or.inr (Or.inr (Or.inr (Or.inr h))))))))))))))))))))))))))))  h)
def W_MO_tried : Nat → Int → Prop := fun k j => (k = 191 ∧ (j = 0 ∨ j = 44 ∨ j = 45)) ∨ k = 207 ∨ k = 208 ∨ k = 209 ∨ k = 210 ∨ k = 211 ∨ k = 212 ∨ k = 213 ∨ k = 214 ∨ k = 215
theorem fr_MO_tried {x1 : Int} {x2 : Int} {x3 : Int} {W : Nat → Int → Prop} {M0 : Mem} (hW : ∀ k j, (W_MO_tried) k j → W k j)  {M : Mem} (h : Fr W M0 M) : Post (fun r => Fr W M0 r.1) (t_MO_tried M x1 x2 x3) := by
  unfold t_MO_tried
  refine post_let (fun M1 e_M1 => ?_)
  have h_M1 : Fr W M0 M1 := by rw [e_M1]; exact Fr.setI h (hW _ _ (Or.inl ⟨rfl, (Or.inl rfl)⟩))
  refine post_ite (fun c_1 => ?_) (fun c_1 => ?_)
  · refine post_let (fun q9 _ => ?_)
    exact (fr_MO_tried_L49 (fun k j hk => hW k j (Or.elim hk (fun h => (Or.inl ⟨(h).1, (Or.elim (h).2 (fun h => (Or.inr (Or.inl h))) (fun h => (Or.inr (Or.inr h))))⟩)) (fun h => (Or.elim h (fun h => (Or.inr (Or.inl h))) (fun h => (Or.elim h (fun h => (Or.inr (Or.inr (Or.inl h)))) (fun h => (Or.elim h (fun h => (Or.inr (Or.inr (Or.inr (Or.inl h))))) (fun h => (Or.elim h (fun h => (Or.inr (Or.inr (Or.inr (Or.inr (Or.inl h)))))) (fun h => (Or.elim h (fun h => (Or.inr (Or.inr (Or.inr (Or.inr (Or.inr (Or.inl h))))))) (fun h => (Or.elim h (fun h => (Or.inr (Or.inr (Or.inr (Or.inr (Or.inr (Or.inr (Or.inl h)))))))) (fun h => (Or.elim h (fun h => (Or.inr (Or.inr (Or.inr (Or.inr (Or.inr (Or.inr (Or.inr (Or.inl h))))))))) (fun h => (Or.elim h (fun h => (Or.inr (Or.inr (Or.inr (Or.inr (Or.inr (Or.inr (Or.inr (Or.inr (Or.inl h)))))))))) (fun h => (Or.inr (Or.inr (Or.inr (Or.inr (Or.inr (Or.inr (Or.inr (Or.inr (Or.inr h))))))))))))))))))))))))))))  h_M1)
  · refine post_ite (fun c_2 => ?_) (fun c_2 => ?_)
    · refine post_let (fun q7 _ => ?_)
      exact (fr_MO_tried_L49 (fun k j hk => hW k j (Or.elim hk (fun h => (Or.inl ⟨(h).1, (Or.elim (h).2 (fun h => (Or.inr (Or.inl h))) (fun h => (Or.inr (Or.inr h))))⟩)) (fun h => (Or.elim h (fun h => (Or.inr (Or.inl h))) (fun h => (Or.elim h (fun h => (Or.inr (Or.inr (Or.inl h)))) (fun h => (Or.elim h (fun h => (Or.inr (Or.inr (Or.inr (Or.inl h))))) (fun h => (Or.elim h (fun h => (Or.inr (Or.inr (Or.inr (Or.inr (Or.inl h)))))) (fun h => (Or.elim h (fun h => (Or.inr (Or.inr (Or.inr (Or.inr (Or.inr (Or.inl h))))))) (fun h => (Or.elim h (fun h => (Or.inr (Or.inr (Or.inr (Or.inr (Or.inr (Or.inr (Or.inl h)))))))) (fun h => (Or.elim h (fun h => (Or.inr (Or.inr (Or.inr (Or.inr (Or.inr (Or.inr (Or.inr (Or.inl h))))))))) (fun h => (Or.elim h (fun h => (Or.inr (Or.inr (Or.inr (Or.inr (Or.inr (Or.inr (Or.inr (Or.inr (Or.inl h)))))))))) (fun h => (Or.inr (Or.inr (Or.inr (Or.inr (Or.inr (Or.inr (Or.inr (Or.inr (Or.inr h))))))))))))))))))))))))))))  h_M1)
    · refine post_ite (fun c_3 => ?_) (fun c_3 => ?_)
      · exact (fr_MO_tried_L48 (fun k j hk => hW k j (Or.elim hk (fun h => (Or.inl ⟨(h).1, (Or.elim (h).2 (fun h => (Or.inr (Or.inl h))) (fun h => (Or.inr (Or.inr h))))⟩)) (fun h => (Or.elim h (fun h => (Or.inr (Or.inl h))) (fun h => (Or.elim h (fun h => (Or.inr (Or.inr (Or.inl h)))) (fun h => (Or.elim h (fun h => (Or.inr (Or.inr (Or.inr (Or.inl h))))) (fun h => (Or.elim h (fun h => (Or.inr (Or.inr (Or.inr (Or.inr (Or.inl h)))))) (fun h => (Or.elim h (fun h => (Or.inr (Or.inr (Or.inr (Or.inr (Or.inr (Or.inl h))))))) (fun h => (Or.elim h (fun h => (Or.inr (Or.inr (Or.inr (Or.inr (Or.inr (Or.inr (Or.inl h)))))))) (fun h => (Or.elim h (fun h => (Or.inr (Or.inr (Or.inr (Or.inr (Or.inr (Or.inr (Or.inr (Or.inl h))))))))) (fun h => (Or.elim h (fun h => (Or.inr (Or.inr (Or.inr (Or.inr (Or.inr (Or.inr (Or.inr (Or.inr (Or.inl h)))))))))) (fun h => (Or.inr (Or.inr (Or.inr (Or.inr (Or.inr (Or.inr (Or.inr (Or.inr (Or.inr h))))))))))))))))))))))))))))  h_M1)
      · refine post_ite (fun c_4 => ?_) (fun c_4 => ?_)
        · exact (fr_MO_tried_L48 (fun k j hk => hW k j (Or.elim hk (fun h => (Or.inl ⟨(h).1, (Or.elim (h).2 (fun h => (Or.inr (Or.inl h))) (fun h => (Or.inr (Or.inr h))))⟩)) (fun h => (Or.elim h (fun h => (Or.inr (Or.inl h))) (fun h => (Or.elim h (fun h => (Or.inr (Or.inr (Or.inl h)))) (fun h => (Or.elim h (fun h => (Or.inr (Or.inr (Or.inr (Or.inl h))))) (fun h => (Or.elim h (fun h => (Or.inr (Or.inr (Or.inr (Or.inr (Or.inl h)))))) (fun h => (Or.elim h (fun h => (Or.inr (Or.inr (Or.inr (Or.inr (Or.inr (Or.inl h))))))) (fun h => (Or.elim h (fun h => (Or.inr (Or.inr (Or.inr (Or.inr (Or.inr (Or.inr (Or.inl h)))))))) (fun h => (Or.elim h (fun h => (Or.inr (Or.inr (Or.inr (Or.inr (Or.inr (Or.inr (Or.inr (Or.inl h))))))))) (fun h => (Or.elim h (fun h => (Or.inr (Or.inr (Or.inr (Or.inr (Or.inr (Or.inr (Or.inr (Or.inr (Or.inl h)))))))))) (fun h => (Or.inr (Or.inr (Or.inr (Or.inr (Or.inr (Or.inr (Or.inr (Or.inr (Or.inr h))))))))))))))))))))))))))))  h_M1)
        · refine post_ite (fun c_5 => ?_) (fun c_5 => ?_)
          · exact (fr_MO_tried_L49 (fun k j hk => hW k j (Or.elim hk (fun h => (Or.inl ⟨(h).1, (Or.elim (h).2 (fun h => (Or.inr (Or.inl h))) (fun h => (Or.inr (Or.inr h))))⟩)) (fun h => (Or.elim h (fun h => (Or.inr (Or.inl h))) (fun h => (Or.elim h (fun h => (Or.inr (Or.inr (Or.inl h)))) (fun h => (Or.elim h (fun h => (Or.inr (Or.inr (Or.inr (Or.inl h))))) (fun h => (Or.elim h (fun h => (Or.inr (Or.inr (Or.inr (Or.inr (Or.inl h)))))) (fun h => (Or.elim h (fun h => (Or.inr (Or.inr (Or.inr (Or.inr (Or.inr (Or.inl h))))))) (fun h => (Or.elim h (fun h => (Or.inr (Or.inr (Or.inr (Or.inr (Or.inr (Or.inr (Or.inl h)))))))) (fun h => (Or.elim h (fun h => (Or.inr (Or.inr (Or.inr (Or.inr (Or.inr (Or.inr (Or.inr (Or.inl h))))))))) (fun h => (Or.elim h (fun h => (Or.inr (Or.inr (Or.inr (Or.inr (Or.inr (Or.inr (Or.inr (Or.inr (Or.inl h)))))))))) (fun h => (Or.inr (Or.inr (Or.inr (Or.inr (Or.inr (Or.inr (Or.inr (Or.inr (Or.inr h))))))))))))))))))))))))))))  h_M1)
          · exact (fr_MO_tried_L48 (fun k j hk => hW k j (Or.elim hk (fun h => (Or.inl ⟨(h).1, (Or.elim (h).2 (fun h => (Or.inr (Or.inl h))) (fun h => (Or.inr (Or.inr h))))⟩)) (fun h => (Or.elim h (fun h => (Or.inr (Or.inl h))) (fun h => (Or.elim h (fun h => (Or.inr (Or.inr (Or.inl h)))) (fun h => (Or.elim h (fun h => (Or.inr (Or.inr (Or.inr (Or.inl h))))) (fun h => (Or.elim h (fun h => (Or.inr (Or.inr (Or.inr (Or.inr (Or.inl h)))))) (fun h => (Or.elim h (fun h => (Or.inr (Or.inr (Or.inr (Or.inr (Or.inr (Or.inl h))))))) (fun h => (Or.elim h (fun h => (Or.inr (Or.inr (Or.inr (Or.inr (Or.inr (Or.inr (Or.inl h)))))))) (fun h => (Or.elim h (fun h => (Or.inr (Or.inr (Or.inr (Or.inr (Or.inr (Or.inr (Or.inr (Or.inl h))))))))) (fun h => (Or.elim h (fun h => (Or.inr (Or.inr (Or.inr (Or.inr (Or.inr (Or.inr (Or.inr (Or.inr (Or.inl h)))))))))) (fun h => (Or.inr (Or.inr (Or.inr (Or.inr (Or.inr (Or.inr (Or.inr (Or.inr (Or.inr h))))))))))))))))))))))))))))  h_M1)
def W_MO_undo : Nat → Int → Prop := fun k j => (k = 191 ∧ (j = 0 ∨ j = 43)) ∨ k = 207 ∨ k = 208 ∨ k = 209 ∨ k = 210 ∨ k = 211 ∨ k = 212 ∨ k = 213 ∨ k = 214 ∨ k = 215
theorem fr_MO_undo  {W : Nat → Int → Prop} {M0 : Mem} (hW : ∀ k j, (W_MO_undo) k j → W k j)  {M : Mem} (h : Fr W M0 M) : Post (fun r => Fr W M0 r.1) (t_MO_undo M) := by
  unfold t_MO_undo
  refine post_let (fun M1 e_M1 => ?_)
  have h_M1 : Fr W M0 M1 := by rw [e_M1]; exact Fr.setI h (hW _ _ (Or.inl ⟨rfl, (Or.inl rfl)⟩))
  refine post_ite (fun c_1 => ?_) (fun c_1 => ?_)
  · exact post_some h_M1
  · refine post_let (fun M5 e_M5 => ?_)
    have h_M5 : Fr W M0 M5 := by rw [e_M5]; exact Fr.setI h_M1 (hW _ _ (Or.inl ⟨rfl, (Or.inr rfl)⟩))
    refine post_bind (Q := fun r => Fr W M0 r) (fr_MO_copies (fun k j hk => hW k j (Or.elim hk (fun h => (Or.inr (Or.inl h))) (fun h => (Or.elim h (fun h => (Or.inr (Or.inr (Or.inl h)))) (fun h => (Or.elim h (fun h => (Or.inr (Or.inr (Or.inr (Or.inl h))))) (fun h => (Or.elim h (fun h => (Or.inr (Or.inr (Or.inr (Or.inr (Or.inl h)))))) (fun h => (Or.elim h (fun h => (Or.inr (Or.inr (Or.inr (Or.inr (Or.inr (Or.inl h))))))) (fun h => (Or.elim h (fun h => (Or.inr (Or.inr (Or.inr (Or.inr (Or.inr (Or.inr (Or.inl h)))))))) (fun h => (Or.elim h (fun h => (Or.inr (Or.inr (Or.inr (Or.inr (Or.inr (Or.inr (Or.inr (Or.inl h))))))))) (fun h => (Or.elim h (fun h => (Or.inr (Or.inr (Or.inr (Or.inr (Or.inr (Or.inr (Or.inr (Or.inr (Or.inl h)))))))))) (fun h => (Or.inr (Or.inr (Or.inr (Or.inr (Or.inr (Or.inr (Or.inr (Or.inr (Or.inr h))))))))))))))))))))))))))  h_M5) (fun q7 h_q7 => ?_)
    exact post_some h_q7
def W_MO_keep : Nat → Int → Prop := fun k j => (k = 191 ∧ (j = 0 ∨ j = 42)) ∨ k = 207 ∨ k = 208 ∨ k = 209 ∨ k = 210 ∨ k = 211 ∨ k = 212 ∨ k = 213 ∨ k = 214 ∨ k = 215 ∨ k = 216 ∨ k = 217 ∨ k = 218
theorem fr_MO_keep  {W : Nat → Int → Prop} {M0 : Mem} (hW : ∀ k j, (W_MO_keep) k j → W k j)  {M : Mem} (h : Fr W M0 M) : Post (fun r => Fr W M0 r.1) (t_MO_keep M) := by
  unfold t_MO_keep
  refine post_let (fun M1 e_M1 => ?_)
  have h_M1 : Fr W M0 M1 := by rw [e_M1]; exact Fr.setI h (hW _ _ (Or.inl ⟨rfl, (Or.inl rfl)⟩))
  refine post_bind (Q := fun r => Fr W M0 r) (fr_MO_copies (fun k j hk => hW k j (Or.elim hk (fun h => (Or.inr (Or.inl h))) (fun h => (Or.elim h (fun h => (Or.inr (Or.inr (Or.inl h)))) (fun h => (Or.elim h (fun h => (Or.inr (Or.inr (Or.inr (Or.inl h))))) (fun h => (Or.elim h (fun h => (Or.inr (Or.inr (Or.inr (Or.inr (Or.inl h)))))) (fun h => (Or.elim h (fun h => (Or.inr (Or.inr (Or.inr (Or.inr (Or.inr (Or.inl h))))))) (fun h => (Or.elim h (fun h => (Or.inr (Or.inr (Or.inr (Or.inr (Or.inr (Or.inr (Or.inl h)))))))) (fun h => (Or.elim h (fun h => (Or.inr (Or.inr (Or.inr (Or.inr (Or.inr (Or.inr (Or.inr (Or.inl h))))))))) (fun h => (Or.elim h (fun h => (Or.inr (Or.inr (Or.inr (Or.inr (Or.inr (Or.inr (Or.inr (Or.inr (Or.inl h)))))))))) (fun h => (Or.inr (Or.inr (Or.inr (Or.inr (Or.inr (Or.inr (Or.inr (Or.inr (Or.inr (Or.inl h)))))))))))))))))))))))))))  h_M1) (fun q2 h_q2 => ?_)
  refine post_bind (Q := fun r => Fr W M0 r) (fr_MO_copiesLog (fun k j hk => hW k j (Or.elim hk (fun h => (Or.inr (Or.inr (Or.inr (Or.inr (Or.inr (Or.inr (Or.inr (Or.inr (Or.inr (Or.inr (Or.inl h)))))))))))) (fun h => (Or.elim h (fun h => (Or.inr (Or.inr (Or.inr (Or.inr (Or.inr (Or.inr (Or.inr (Or.inr (Or.inr (Or.inr (Or.inr (Or.inl h))))))))))))) (fun h => (Or.inr (Or.inr (Or.inr (Or.inr (Or.inr (Or.inr (Or.inr (Or.inr (Or.inr (Or.inr (Or.inr (Or.inr h)))))))))))))))))  h_q2) (fun q4 h_q4 => ?_)
  refine post_let (fun M6 e_M6 => ?_)
  have h_M6 : Fr W M0 M6 := by rw [e_M6]; exact Fr.setI h_q4 (hW _ _ (Or.inl ⟨rfl, (Or.inr rfl)⟩))
  exact post_some h_M6
def W_MO_back : Nat → Int → Prop := fun k j => (k = 191 ∧ (j = 0 ∨ j = 43)) ∨ k = 207 ∨ k = 208 ∨ k = 209 ∨ k = 210 ∨ k = 211 ∨ k = 212 ∨ k = 213 ∨ k = 214 ∨ k = 215 ∨ k = 216 ∨ k = 217 ∨ k = 218
theorem fr_MO_back  {W : Nat → Int → Prop} {M0 : Mem} (hW : ∀ k j, (W_MO_back) k j → W k j)  {M : Mem} (h : Fr W M0 M) : Post (fun r => Fr W M0 r.1) (t_MO_back M) := by
  unfold t_MO_back
  refine post_let (fun M1 e_M1 => ?_)
  have h_M1 : Fr W M0 M1 := by rw [e_M1]; exact Fr.setI h (hW _ _ (Or.inl ⟨rfl, (Or.inl rfl)⟩))
  refine post_ite (fun c_1 => ?_) (fun c_1 => ?_)
  · exact post_some h_M1
  · refine post_bind (Q := fun r => Fr W M0 r) (fr_MO_copies (fun k j hk => hW k j (Or.elim hk (fun h => (Or.inr (Or.inl h))) (fun h => (Or.elim h (fun h => (Or.inr (Or.inr (Or.inl h)))) (fun h => (Or.elim h (fun h => (Or.inr (Or.inr (Or.inr (Or.inl h))))) (fun h => (Or.elim h (fun h => (Or.inr (Or.inr (Or.inr (Or.inr (Or.inl h)))))) (fun h => (Or.elim h (fun h => (Or.inr (Or.inr (Or.inr (Or.inr (Or.inr (Or.inl h))))))) (fun h => (Or.elim h (fun h => (Or.inr (Or.inr (Or.inr (Or.inr (Or.inr (Or.inr (Or.inl h)))))))) (fun h => (Or.elim h (fun h => (Or.inr (Or.inr (Or.inr (Or.inr (Or.inr (Or.inr (Or.inr (Or.inl h))))))))) (fun h => (Or.elim h (fun h => (Or.inr (Or.inr (Or.inr (Or.inr (Or.inr (Or.inr (Or.inr (Or.inr (Or.inl h)))))))))) (fun h => (Or.inr (Or.inr (Or.inr (Or.inr (Or.inr (Or.inr (Or.inr (Or.inr (Or.inr (Or.inl h)))))))))))))))))))))))))))  h_M1) (fun q4 h_q4 => ?_)
    refine post_bind (Q := fun r => Fr W M0 r) (fr_MO_copiesLog (fun k j hk => hW k j (Or.elim hk (fun h => (Or.inr (Or.inr (Or.inr (Or.inr (Or.inr (Or.inr (Or.inr (Or.inr (Or.inr (Or.inr (Or.inl h)))))))))))) (fun h => (Or.elim h (fun h => (Or.inr (Or.inr (Or.inr (Or.inr (Or.inr (Or.inr (Or.inr (Or.inr (Or.inr (Or.inr (Or.inr (Or.inl h))))))))))))) (fun h => (Or.inr (Or.inr (Or.inr (Or.inr (Or.inr (Or.inr (Or.inr (Or.inr (Or.inr (Or.inr (Or.inr (Or.inr h)))))))))))))))))  h_q4) (fun q6 h_q6 => ?_)
    refine post_let (fun M8 e_M8 => ?_)
    have h_M8 : Fr W M0 M8 := by rw [e_M8]; exact Fr.setI h_q6 (hW _ _ (Or.inl ⟨rfl, (Or.inr rfl)⟩))
    exact post_some h_M8
def W_MO_count_L196 : Nat → Int → Prop := fun k j => False
theorem fr_MO_count_L196 {x1 : Int} {bk164 : Mem → Int → Int → Option (Mem × Int)} {v1_ : Int} {v2_ : Int} {v3_ : Int} {W : Nat → Int → Prop} {M0 : Mem} (hW : ∀ k j, (W_MO_count_L196) k j → W k j) (hbk164 : ∀ (a0_ : Mem) (a1_ : Int) (a2_ : Int), Fr W M0 a0_ → Post (fun r => Fr W M0 r.1) (bk164 a0_ a1_ a2_)) {M : Mem} (h : Fr W M0 M) : Post (fun r => Fr W M0 r.1) (t_MO_count_L196 x1 bk164 M v1_ v2_ v3_) := by
  unfold t_MO_count_L196
  exact hbk164 _ _ _ h
def W_MO_count_L164 : Nat → Int → Prop := fun k j => False
theorem fr_MO_count_L164 {x1 : Int} {W : Nat → Int → Prop} {M0 : Mem} (hW : ∀ k j, (W_MO_count_L164) k j → W k j)  : ∀ (fu : Nat) (M : Mem) (v1_ : Int) (v2_ : Int), Fr W M0 M → Post (fun r => Fr W M0 r.1) (t_MO_count_L164 x1 fu M v1_ v2_) := by
  intro fu
  induction fu with
  | zero => intro M v1_ v2_ h; exact post_none
  | succ fu ih =>
    intro M v1_ v2_ h
    rw [t_MO_count_L164]
    refine post_ite (fun c_1 => ?_) (fun c_1 => ?_)
    · exact post_some h
    · refine post_guard (fun c_2 => ?_)
      refine post_bindv (fun q34 => ?_)
      refine post_ite (fun c_3 => ?_) (fun c_3 => ?_)
      · exact (fr_MO_count_L196 (fun k j hk => hk.elim) (fun a0_ a1_ a2_ h9 => ih a0_ a1_ a2_ h9) h)
      · exact (fr_MO_count_L196 (fun k j hk => hk.elim) (fun a0_ a1_ a2_ h9 => ih a0_ a1_ a2_ h9) h)
def W_MO_count : Nat → Int → Prop := fun k j => (k = 191 ∧ (j = 0))
theorem fr_MO_count {x1 : Int} {W : Nat → Int → Prop} {M0 : Mem} (hW : ∀ k j, (W_MO_count) k j → W k j)  {M : Mem} (h : Fr W M0 M) : Post (fun r => Fr W M0 r.1) (t_MO_count M x1) := by
  unfold t_MO_count
  refine post_let (fun M1 e_M1 => ?_)
  have h_M1 : Fr W M0 M1 := by rw [e_M1]; exact Fr.setI h (hW _ _ ⟨rfl, rfl⟩)
  refine post_ite (fun c_1 => ?_) (fun c_1 => ?_)
  · exact post_some h_M1
  · refine post_ite (fun c_2 => ?_) (fun c_2 => ?_)
    · exact post_some h_M1
    · refine post_ite (fun c_3 => ?_) (fun c_3 => ?_)
      · exact post_some h_M1
      · refine post_ite (fun c_4 => ?_) (fun c_4 => ?_)
        · exact post_some h_M1
        · refine post_ite (fun c_5 => ?_) (fun c_5 => ?_)
          · exact post_some h_M1
          · refine post_ite (fun c_6 => ?_) (fun c_6 => ?_)
            · exact post_some h_M1
            · refine post_ite (fun c_7 => ?_) (fun c_7 => ?_)
              · exact post_some h_M1
              · refine post_ite (fun c_8 => ?_) (fun c_8 => ?_)
                · exact post_some h_M1
                · refine post_ite (fun c_9 => ?_) (fun c_9 => ?_)
                  · refine post_let (fun q19 _ => ?_)
                    exact post_some h_M1
                  · refine post_ite (fun c_10 => ?_) (fun c_10 => ?_)
                    · exact post_some h_M1
                    · refine post_ite (fun c_11 => ?_) (fun c_11 => ?_)
                      · refine post_bindv (fun q24 => ?_)
                        exact post_some h_M1
                      · refine post_ite (fun c_12 => ?_) (fun c_12 => ?_)
                        · refine post_bindv (fun q27 => ?_)
                          exact post_some h_M1
                        · refine post_ite (fun c_13 => ?_) (fun c_13 => ?_)
                          · exact (fr_MO_count_L164 (fun k j hk => hk.elim)  _ _ _ _ h_M1)
                          · exact post_some h_M1

