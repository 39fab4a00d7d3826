section
def W_Formula_value_L90 (k0 : Nat) : Nat → Int → Prop := fun k j => k = k0 + 3
theorem fr_Formula_value_L90 {k0 : Nat} {r1 : Nat} {N1 : Nat} {bk4 : Mem → Int → Int → Option (Mem × Int64)} {v2_ : Int} {v3_ : Int} {v5_ : Int} {v6_ : Int64} {W : Nat → Int → Prop} {M0 : Mem} (hW : ∀ k j, (W_Formula_value_L90 k0) k j → W k j) (hbk4 : ∀ (a0_ : Mem) (a1_ : Int) (a2_ : Int), Fr W M0 a0_ → Post (fun r => Fr W M0 r.1) (bk4 a0_ a1_ a2_)) {M : Mem} (h : Fr W M0 M) : Post (fun r => Fr W M0 r.1) (t_Formula_value_L90 k0 r1 N1 bk4 M v2_ v3_ v5_ v6_) := by
  unfold t_Formula_value_L90
  refine post_guard (fun c_1 => ?_)
  refine post_let (fun M38 e_M38 => ?_)
  have h_M38 : Fr W M0 M38 := by rw [e_M38]; exact Fr.setL h (hW _ _ rfl)
  exact (fr_Formula_value_L228 (fun k j hk => hk.elim) hbk4 h_M38)
def W_Formula_value_L44 (k0 : Nat) : Nat → Int → Prop := fun k j => k = k0 + 3
theorem fr_Formula_value_L44 {k0 : Nat} {r1 : Nat} {N1 : Nat} {bk4 : Mem → Int → Int → Option (Mem × Int64)} {v2_ : Int} {v3_ : Int} {v4_ : Int} {W : Nat → Int → Prop} {M0 : Mem} (hW : ∀ k j, (W_Formula_value_L44 k0) k j → W k j) (hbk4 : ∀ (a0_ : Mem) (a1_ : Int) (a2_ : Int), Fr W M0 a0_ → Post (fun r => Fr W M0 r.1) (bk4 a0_ a1_ a2_)) {M : Mem} (h : Fr W M0 M) : Post (fun r => Fr W M0 r.1) (t_Formula_value_L44 k0 r1 N1 bk4 M v2_ v3_ v4_) := by
  unfold t_Formula_value_L44
  refine post_ite (fun c_1 => ?_) (fun c_1 => ?_)
  · refine post_ite (fun c_2 => ?_) (fun c_2 => ?_)
    · refine post_let (fun q21 _ => ?_)
      exact (fr_Formula_value_L90 (fun k j hk => hW k j hk) hbk4 h)
    · refine post_let (fun q19 _ => ?_)
      exact (fr_Formula_value_L90 (fun k j hk => hW k j hk) hbk4 h)
  · exact post_some h
def W_Formula_value_L142 (k0 : Nat) : Nat → Int → Prop := fun k j => k = k0 + 3
theorem fr_Formula_value_L142 {k0 : Nat} {r1 : Nat} {N1 : Nat} {bk4 : Mem → Int → Int → Option (Mem × Int64)} {v2_ : Int} {v3_ : Int} {v5_ : Int} {v6_ : Int} {W : Nat → Int → Prop} {M0 : Mem} (hW : ∀ k j, (W_Formula_value_L142 k0) k j → W k j) (hbk4 : ∀ (a0_ : Mem) (a1_ : Int) (a2_ : Int), Fr W M0 a0_ → Post (fun r => Fr W M0 r.1) (bk4 a0_ a1_ a2_)) {M : Mem} (h : Fr W M0 M) : Post (fun r => Fr W M0 r.1) (t_Formula_value_L142 k0 r1 N1 bk4 M v2_ v3_ v5_ v6_) := by
  unfold t_Formula_value_L142
  refine post_let (fun q33 _ => ?_)
  refine post_guard (fun c_1 => ?_)
  refine post_let (fun M36 e_M36 => ?_)
  have h_M36 : Fr W M0 M36 := by rw [e_M36]; exact Fr.setL h (hW _ _ rfl)
  exact (fr_Formula_value_L228 (fun k j hk => hk.elim) hbk4 h_M36)
def W_Formula_value_L149 (k0 : Nat) : Nat → Int → Prop := fun k j => k = k0 + 3
theorem fr_Formula_value_L149 {k0 : Nat} {r1 : Nat} {N1 : Nat} {bk4 : Mem → Int → Int → Option (Mem × Int64)} {v2_ : Int} {v3_ : Int} {v4_ : Int} {W : Nat → Int → Prop} {M0 : Mem} (hW : ∀ k j, (W_Formula_value_L149 k0) k j → W k j) (hbk4 : ∀ (a0_ : Mem) (a1_ : Int) (a2_ : Int), Fr W M0 a0_ → Post (fun r => Fr W M0 r.1) (bk4 a0_ a1_ a2_)) {M : Mem} (h : Fr W M0 M) : Post (fun r => Fr W M0 r.1) (t_Formula_value_L149 k0 r1 N1 bk4 M v2_ v3_ v4_) := by
  unfold t_Formula_value_L149
  refine post_ite (fun c_1 => ?_) (fun c_1 => ?_)
  · exact post_some h
  · refine post_ite (fun c_2 => ?_) (fun c_2 => ?_)
    · exact post_some h
    · refine post_guard (fun c_3 => ?_)
      refine post_guard (fun c_4 => ?_)
      refine post_bindv (fun q27 => ?_)
      refine post_ite (fun c_5 => ?_) (fun c_5 => ?_)
      · exact post_some h
      · refine post_ite (fun c_6 => ?_) (fun c_6 => ?_)
        · refine post_guard (fun c_7 => ?_)
          refine post_let (fun M32 e_M32 => ?_)
          have h_M32 : Fr W M0 M32 := by rw [e_M32]; exact Fr.setL h (hW _ _ rfl)
          exact (fr_Formula_value_L228 (fun k j hk => hk.elim) hbk4 h_M32)
        · exact post_some h
def W_Formula_value_L234 : Nat → Int → Prop := fun k j => False
theorem fr_Formula_value_L234 {k0 : Nat} {r1 : Nat} {N1 : Nat} {v1_ : Int} {W : Nat → Int → Prop} {M0 : Mem} (hW : ∀ k j, (W_Formula_value_L234) k j → W k j)  {M : Mem} (h : Fr W M0 M) : Post (fun r => Fr W M0 r.1) (t_Formula_value_L234 k0 r1 N1 M v1_) := by
  unfold t_Formula_value_L234
  refine post_ite (fun c_1 => ?_) (fun c_1 => ?_)
  · exact post_some h
  · exact post_some h
def W_Formula_value_L4 (k0 : Nat) : Nat → Int → Prop := fun k j => k = k0 + 3
theorem fr_Formula_value_L4 {k0 : Nat} {r1 : Nat} {N1 : Nat} {W : Nat → Int → Prop} {M0 : Mem} (hW : ∀ k j, (W_Formula_value_L4 k0) k j → W k j)  : ∀ (fu : Nat) (M : Mem) (v2_ : Int) (v3_ : Int), Fr W M0 M → Post (fun r => Fr W M0 r.1) (t_Formula_value_L4 k0 r1 N1 fu M v2_ v3_) := by
  intro fu
  induction fu with
  | zero => intro M v2_ v3_ h; exact post_none
  | succ fu ih =>
    intro M v2_ v3_ h
    rw [t_Formula_value_L4]
    refine post_ite (fun c_1 => ?_) (fun c_1 => ?_)
    · exact (fr_Formula_value_L234 (fun k j hk => hk.elim)  h)
    · refine post_ite (fun c_2 => ?_) (fun c_2 => ?_)
      · exact (fr_Formula_value_L234 (fun k j hk => hk.elim)  h)
      · refine post_let (fun q5 _ => ?_)
        refine post_ite (fun c_3 => ?_) (fun c_3 => ?_)
        · exact (fr_Formula_value_L44 (fun k j hk => hW k j hk) (fun a0_ a1_ a2_ h9 => ih a0_ a1_ a2_ h9) h)
        · refine post_let (fun q8 _ => ?_)
          refine post_ite (fun c_4 => ?_) (fun c_4 => ?_)
          · refine post_ite (fun c_5 => ?_) (fun c_5 => ?_)
            · exact (fr_Formula_value_L149 (fun k j hk => hW k j hk) (fun a0_ a1_ a2_ h9 => ih a0_ a1_ a2_ h9) h)
            · refine post_ite (fun c_6 => ?_) (fun c_6 => ?_)
              · exact (fr_Formula_value_L149 (fun k j hk => hW k j hk) (fun a0_ a1_ a2_ h9 => ih a0_ a1_ a2_ h9) h)
              · refine post_ite (fun c_7 => ?_) (fun c_7 => ?_)
                · refine post_guard (fun c_8 => ?_)
                  refine post_ite (fun c_9 => ?_) (fun c_9 => ?_)
                  · exact (fr_Formula_value_L142 (fun k j hk => hW k j hk) (fun a0_ a1_ a2_ h9 => ih a0_ a1_ a2_ h9) h)
                  · exact (fr_Formula_value_L142 (fun k j hk => hW k j hk) (fun a0_ a1_ a2_ h9 => ih a0_ a1_ a2_ h9) h)
                · exact (fr_Formula_value_L149 (fun k j hk => hW k j hk) (fun a0_ a1_ a2_ h9 => ih a0_ a1_ a2_ h9) h)
          · exact (fr_Formula_value_L44 (fun k j hk => hW k j hk) (fun a0_ a1_ a2_ h9 => ih a0_ a1_ a2_ h9) h)
def W_Formula_value (k0 : Nat) : Nat → Int → Prop := fun k j => k = k0 + 3
theorem fr_Formula_value {k0 : Nat} {r1 : Nat} {N1 : Nat} {W : Nat → Int → Prop} {M0 : Mem} (hW : ∀ k j, (W_Formula_value k0) k j → W k j)  {M : Mem} (h : Fr W M0 M) : Post (fun r => Fr W M0 r.1) (t_Formula_value M k0 r1 N1) := by
  unfold t_Formula_value
  exact (fr_Formula_value_L4 (fun k j hk => hW k j hk)  _ _ _ _ h)
def W_Laws_joyTold (k1 : Nat) : Nat → Int → Prop := fun k j => k = 178 ∨ k = k1 + 18
theorem fr_Laws_joyTold {k1 : Nat} {x2 : Int} {x3 : Int} {W : Nat → Int → Prop} {M0 : Mem} (hW : ∀ k j, (W_Laws_joyTold k1) k j → W k j)  {M : Mem} (h : Fr W M0 M) : Post (fun r => Fr W M0 r.1) (t_Laws_joyTold M k1 x2 x3) := by
  unfold t_Laws_joyTold
  refine post_let (fun q1 _ => ?_)
  refine post_let (fun q3 e_q3 => ?_)
  have h_q3 : Fr W M0 q3 := by rw [e_q3]; exact (fr_Laws_name (fun k j hk => hW k j (Or.inl hk))  h)
  refine post_let (fun q5 _ => ?_)
  refine post_let (fun q7 e_q7 => ?_)
  have h_q7 : Fr W M0 q7 := by rw [e_q7]; exact (fr_Laws_name (fun k j hk => hW k j (Or.inl hk))  h_q3)
  refine post_let (fun q9 _ => ?_)
  refine post_let (fun q11 e_q11 => ?_)
  have h_q11 : Fr W M0 q11 := by rw [e_q11]; exact (fr_Laws_name (fun k j hk => hW k j (Or.inl hk))  h_q7)
  refine post_let (fun q13 _ => ?_)
  refine post_let (fun q15 e_q15 => ?_)
  have h_q15 : Fr W M0 q15 := by rw [e_q15]; exact (fr_Laws_name (fun k j hk => hW k j (Or.inl hk))  h_q11)
  refine post_let (fun q17 _ => ?_)
  refine post_let (fun q19 e_q19 => ?_)
  have h_q19 : Fr W M0 q19 := by rw [e_q19]; exact (fr_Laws_name (fun k j hk => hW k j (Or.inl hk))  h_q15)
  refine post_let (fun q21 e_q21 => ?_)
  have h_q21 : Fr W M0 q21 := by rw [e_q21]; exact (fr_Laws_name (fun k j hk => hW k j (Or.inl hk))  h_q19)
  refine post_let (fun q23 e_q23 => ?_)
  have h_q23 : Fr W M0 q23 := by rw [e_q23]; exact (fr_Laws_name (fun k j hk => hW k j (Or.inl hk))  h_q21)
  refine post_bind (Q := fun r => Fr W M0 r.1) (fr_Formula_value (fun k j hk => hW k j (Or.inr hk))  h_q23) (fun q25 h_q25 => ?_)
  exact post_some h_q25
def W_Laws_joyOf (k1 : Nat) : Nat → Int → Prop := fun k j => k = 178 ∨ k = k1 + 18
theorem fr_Laws_joyOf {k1 : Nat} {x2 : Int} {x3 : Int} {W : Nat → Int → Prop} {M0 : Mem} (hW : ∀ k j, (W_Laws_joyOf k1) k j → W k j)  {M : Mem} (h : Fr W M0 M) : Post (fun r => Fr W M0 r.1) (t_Laws_joyOf M k1 x2 x3) := by
  unfold t_Laws_joyOf
  refine post_bind (Q := fun r => Fr W M0 r.1) (fr_Laws_joyTold (fun k j hk => hW k j (Or.elim hk (fun h => (Or.inl h)) (fun h => (Or.inr h))))  h) (fun q1 h_q1 => ?_)
  refine post_ite (fun c_1 => ?_) (fun c_1 => ?_)
  · refine post_let (fun q4 _ => ?_)
    exact post_some h_q1
  · exact post_some h_q1
def W_WF_ward (T : Nat) : Nat → Int → Prop := fun k j => k = 178 ∨ k = 179 ∨ k = 180 ∨ k = 181 ∨ (k = 182 ∧ (j = 1 ∨ j = 2 ∨ j = 3 ∨ j = 4)) ∨ k = 183 ∨ k = T + 18
theorem fr_WF_ward {x1 : Int} {x2 : Int} {W : Nat → Int → Prop} {M0 : Mem} {T : Nat} (hW : ∀ k j, (W_WF_ward T) k j → W k j) (hT : M0.1 0 4 = (T : Int)) (h04 : ¬ W 0 4)  {M : Mem} (h : Fr W M0 M) : Post (fun r => Fr W M0 r.1) (t_WF_ward M x1 x2) := by
  unfold t_WF_ward
  refine post_let (fun q2 _ => ?_)
  refine post_ite (fun c_1 => ?_) (fun c_1 => ?_)
  · exact post_some h
  · refine post_ite (fun c_2 => ?_) (fun c_2 => ?_)
    · refine post_let (fun q6 _ => ?_)
      exact post_some h
    · refine post_ite (fun c_3 => ?_) (fun c_3 => ?_)
      · refine post_let (fun q10 _ => ?_)
        exact post_some h
      · refine post_ite (fun c_4 => ?_) (fun c_4 => ?_)
        · refine post_let (fun q14 _ => ?_)
          exact post_some h
        · refine post_ite (fun c_5 => ?_) (fun c_5 => ?_)
          · have e04_6 : (M.1 0 4).toNat = T := by rw [(h 0 4 h04).1, hT]; rfl
            refine post_bind (Q := fun r => Fr W M0 r) (fr_Laws_measure (fun k j hk => hW k j (Or.elim hk (fun h => (Or.inr (Or.inl h))) (fun h => (Or.elim h (fun h => (Or.inr (Or.inr (Or.inl h)))) (fun h => (Or.elim h (fun h => (Or.inr (Or.inr (Or.inr (Or.inl h))))) (fun h => (Or.elim h (fun h => (Or.inr (Or.inr (Or.inr (Or.inr (Or.inl ⟨(h).1, (Or.elim (h).2 (fun h => (Or.inl h)) (fun h => (Or.elim h (fun h => (Or.inr (Or.inl h))) (fun h => (Or.elim h (fun h => (Or.inr (Or.inr (Or.inl h)))) (fun h => (Or.inr (Or.inr (Or.inr h)))))))))⟩)))))) (fun h => (Or.inr (Or.inr (Or.inr (Or.inr (Or.inr (Or.inl h)))))))))))))))  h) (fun q18 h_q18 => ?_)
            have e04_7 : (q18.1 0 4).toNat = T := by rw [(h_q18 0 4 h04).1, hT]; rfl
            refine post_bind (Q := fun r => Fr W M0 r.1) (fr_Laws_joyOf (fun k j hk => hW k j (by unfold W_Laws_joyOf at hk; unfold W_WF_ward; omega))  h_q18) (fun q22 h_q22 => ?_)
            exact post_some h_q22
          · exact post_some h
def W_Laws_pushFrom_L205 (k1 : Nat) : Nat → Int → Prop := fun k j => k = 178 ∨ k = k1 + 13
theorem fr_Laws_pushFrom_L205 {k1 : Nat} {k2 : Nat} {x3 : Int} {x4 : Int} {x5 : Int} {v4_ : Int} {v5_ : Int64} {W : Nat → Int → Prop} {M0 : Mem} (hW : ∀ k j, (W_Laws_pushFrom_L205 k1) k j → W k j)  {M : Mem} (h : Fr W M0 M) : Post (fun r => Fr W M0 r.1) (t_Laws_pushFrom_L205 k1 k2 x3 x4 x5 M v4_ v5_) := by
  unfold t_Laws_pushFrom_L205
  refine post_let (fun q41 e_q41 => ?_)
  have h_q41 : Fr W M0 q41 := by rw [e_q41]; exact (fr_Laws_name (fun k j hk => hW k j (Or.inl hk))  h)
  refine post_let (fun q43 e_q43 => ?_)
  have h_q43 : Fr W M0 q43 := by rw [e_q43]; exact (fr_Laws_name (fun k j hk => hW k j (Or.inl hk))  h_q41)
  refine post_bind (Q := fun r => Fr W M0 r.1) (fr_Formula_value (fun k j hk => hW k j (Or.inr hk))  h_q43) (fun q45 h_q45 => ?_)
  exact post_some h_q45
def W_Laws_pushFrom_L204 (k1 : Nat) : Nat → Int → Prop := fun k j => k = 178 ∨ k = k1 + 13
theorem fr_Laws_pushFrom_L204 {k1 : Nat} {k2 : Nat} {x3 : Int} {x4 : Int} {x5 : Int} {v4_ : Int} {W : Nat → Int → Prop} {M0 : Mem} (hW : ∀ k j, (W_Laws_pushFrom_L204 k1) k j → W k j)  {M : Mem} (h : Fr W M0 M) : Post (fun r => Fr W M0 r.1) (t_Laws_pushFrom_L204 k1 k2 x3 x4 x5 M v4_) := by
  unfold t_Laws_pushFrom_L204
  exact (fr_Laws_pushFrom_L205 (fun k j hk => hW k j (Or.elim hk (fun h => (Or.inl h)) (fun h => (Or.inr h))))  h)
def W_Laws_pushFrom_L177 (k1 : Nat) : Nat → Int → Prop := fun k j => k = 178 ∨ k = k1 + 13
theorem fr_Laws_pushFrom_L177 {k1 : Nat} {k2 : Nat} {x3 : Int} {x4 : Int} {x5 : Int} {v4_ : Int} {v6_ : Int} {v7_ : Int64} {W : Nat → Int → Prop} {M0 : Mem} (hW : ∀ k j, (W_Laws_pushFrom_L177 k1) k j → W k j)  {M : Mem} (h : Fr W M0 M) : Post (fun r => Fr W M0 r.1) (t_Laws_pushFrom_L177 k1 k2 x3 x4 x5 M v4_ v6_ v7_) := by
  unfold t_Laws_pushFrom_L177
  refine post_let (fun q37 e_q37 => ?_)
  have h_q37 : Fr W M0 q37 := by rw [e_q37]; exact (fr_Laws_name (fun k j hk => hW k j (Or.inl hk))  h)
  refine post_ite (fun c_1 => ?_) (fun c_1 => ?_)
  · exact (fr_Laws_pushFrom_L204 (fun k j hk => hW k j (Or.elim hk (fun h => (Or.inl h)) (fun h => (Or.inr h))))  h_q37)
  · refine post_ite (fun c_2 => ?_) (fun c_2 => ?_)
    · exact (fr_Laws_pushFrom_L205 (fun k j hk => hW k j (Or.elim hk (fun h => (Or.inl h)) (fun h => (Or.inr h))))  h_q37)
    · exact (fr_Laws_pushFrom_L204 (fun k j hk => hW k j (Or.elim hk (fun h => (Or.inl h)) (fun h => (Or.inr h))))  h_q37)
def W_Laws_pushFrom_L156 (k1 : Nat) : Nat → Int → Prop := fun k j => k = 178 ∨ k = k1 + 13
theorem fr_Laws_pushFrom_L156 {k1 : Nat} {k2 : Nat} {x3 : Int} {x4 : Int} {x5 : Int} {v5_ : Int} {v6_ : Int} {v8_ : Int} {v9_ : Int64} {W : Nat → Int → Prop} {M0 : Mem} (hW : ∀ k j, (W_Laws_pushFrom_L156 k1) k j → W k j)  {M : Mem} (h : Fr W M0 M) : Post (fun r => Fr W M0 r.1) (t_Laws_pushFrom_L156 k1 k2 x3 x4 x5 M v5_ v6_ v8_ v9_) := by
  unfold t_Laws_pushFrom_L156
  refine post_let (fun q32 e_q32 => ?_)
  have h_q32 : Fr W M0 q32 := by rw [e_q32]; exact (fr_Laws_name (fun k j hk => hW k j (Or.inl hk))  h)
  refine post_let (fun q34 _ => ?_)
  refine post_ite (fun c_1 => ?_) (fun c_1 => ?_)
  · exact (fr_Laws_pushFrom_L177 (fun k j hk => hW k j (Or.elim hk (fun h => (Or.inl h)) (fun h => (Or.inr h))))  h_q32)
  · exact (fr_Laws_pushFrom_L177 (fun k j hk => hW k j (Or.elim hk (fun h => (Or.inl h)) (fun h => (Or.inr h))))  h_q32)
def W_Laws_pushFrom_L131 (k1 : Nat) : Nat → Int → Prop := fun k j => k = 178 ∨ k = k1 + 13
theorem fr_Laws_pushFrom_L131 {k1 : Nat} {k2 : Nat} {x3 : Int} {x4 : Int} {x5 : Int} {v5_ : Int} {v6_ : Int} {v7_ : Int} {v9_ : Int} {v10_ : Int64} {W : Nat → Int → Prop} {M0 : Mem} (hW : ∀ k j, (W_Laws_pushFrom_L131 k1) k j → W k j)  {M : Mem} (h : Fr W M0 M) : Post (fun r => Fr W M0 r.1) (t_Laws_pushFrom_L131 k1 k2 x3 x4 x5 M v5_ v6_ v7_ v9_ v10_) := by
  unfold t_Laws_pushFrom_L131
  refine post_let (fun q27 e_q27 => ?_)
  have h_q27 : Fr W M0 q27 := by rw [e_q27]; exact (fr_Laws_name (fun k j hk => hW k j (Or.inl hk))  h)
  refine post_ite (fun c_1 => ?_) (fun c_1 => ?_)
  · refine post_let (fun q30 _ => ?_)
    exact (fr_Laws_pushFrom_L156 (fun k j hk => hW k j (Or.elim hk (fun h => (Or.inl h)) (fun h => (Or.inr h))))  h_q27)
  · exact (fr_Laws_pushFrom_L156 (fun k j hk => hW k j (Or.elim hk (fun h => (Or.inl h)) (fun h => (Or.inr h))))  h_q27)
def W_Laws_pushFrom_L115 (k1 : Nat) : Nat → Int → Prop := fun k j => k = 178 ∨ k = k1 + 13
theorem fr_Laws_pushFrom_L115 {k1 : Nat} {k2 : Nat} {x3 : Int} {x4 : Int} {x5 : Int} {v5_ : Int} {v6_ : Int} {v7_ : Int} {v9_ : Int} {v10_ : Int64} {W : Nat → Int → Prop} {M0 : Mem} (hW : ∀ k j, (W_Laws_pushFrom_L115 k1) k j → W k j)  {M : Mem} (h : Fr W M0 M) : Post (fun r => Fr W M0 r.1) (t_Laws_pushFrom_L115 k1 k2 x3 x4 x5 M v5_ v6_ v7_ v9_ v10_) := by
  unfold t_Laws_pushFrom_L115
  refine post_let (fun q24 e_q24 => ?_)
  have h_q24 : Fr W M0 q24 := by rw [e_q24]; exact (fr_Laws_name (fun k j hk => hW k j (Or.inl hk))  h)
  refine post_ite (fun c_1 => ?_) (fun c_1 => ?_)
  · exact (fr_Laws_pushFrom_L131 (fun k j hk => hW k j (Or.elim hk (fun h => (Or.inl h)) (fun h => (Or.inr h))))  h_q24)
  · exact (fr_Laws_pushFrom_L131 (fun k j hk => hW k j (Or.elim hk (fun h => (Or.inl h)) (fun h => (Or.inr h))))  h_q24)
def W_Laws_pushFrom_L90 (k1 : Nat) : Nat → Int → Prop := fun k j => k = 178 ∨ k = k1 + 13
theorem fr_Laws_pushFrom_L90 {k1 : Nat} {k2 : Nat} {x3 : Int} {x4 : Int} {x5 : Int} {v5_ : Int} {v6_ : Int} {v7_ : Int} {v8_ : Int} {v10_ : Int} {v11_ : Int64} {W : Nat → Int → Prop} {M0 : Mem} (hW : ∀ k j, (W_Laws_pushFrom_L90 k1) k j → W k j)  {M : Mem} (h : Fr W M0 M) : Post (fun r => Fr W M0 r.1) (t_Laws_pushFrom_L90 k1 k2 x3 x4 x5 M v5_ v6_ v7_ v8_ v10_ v11_) := by
  unfold t_Laws_pushFrom_L90
  refine post_let (fun q19 e_q19 => ?_)
  have h_q19 : Fr W M0 q19 := by rw [e_q19]; exact (fr_Laws_name (fun k j hk => hW k j (Or.inl hk))  h)
  refine post_ite (fun c_1 => ?_) (fun c_1 => ?_)
  · refine post_let (fun q22 _ => ?_)
    exact (fr_Laws_pushFrom_L115 (fun k j hk => hW k j (Or.elim hk (fun h => (Or.inl h)) (fun h => (Or.inr h))))  h_q19)
  · exact (fr_Laws_pushFrom_L115 (fun k j hk => hW k j (Or.elim hk (fun h => (Or.inl h)) (fun h => (Or.inr h))))  h_q19)
def W_Laws_pushFrom (k1 : Nat) : Nat → Int → Prop := fun k j => k = 178 ∨ k = k1 + 13
theorem fr_Laws_pushFrom {k1 : Nat} {k2 : Nat} {x3 : Int} {x4 : Int} {x5 : Int} {W : Nat → Int → Prop} {M0 : Mem} (hW : ∀ k j, (W_Laws_pushFrom k1) k j → W k j)  {M : Mem} (h : Fr W M0 M) : Post (fun r => Fr W M0 r.1) (t_Laws_pushFrom M k1 k2 x3 x4 x5) := by
  unfold t_Laws_pushFrom
  refine post_let (fun q1 _ => ?_)
  refine post_ite (fun c_1 => ?_) (fun c_1 => ?_)
  · exact post_some h
  · refine post_let (fun q4 _ => ?_)
    refine post_ite (fun c_2 => ?_) (fun c_2 => ?_)
    · exact post_some h
    · refine post_let (fun q7 _ => ?_)
      refine post_ite (fun c_3 => ?_) (fun c_3 => ?_)
      · exact post_some h
      · refine post_let (fun q10 _ => ?_)
        refine post_bindv (fun q12 => ?_)
        refine post_let (fun q14 _ => ?_)
        refine post_ite (fun c_4 => ?_) (fun c_4 => ?_)
        · refine post_let (fun q17 _ => ?_)
          exact (fr_Laws_pushFrom_L90 (fun k j hk => hW k j (Or.elim hk (fun h => (Or.inl h)) (fun h => (Or.inr h))))  h)
        · exact (fr_Laws_pushFrom_L90 (fun k j hk => hW k j (Or.elim hk (fun h => (Or.inl h)) (fun h => (Or.inr h))))  h)
def W_WF_law (T : Nat) : Nat → Int → Prop := fun k j => k = 178 ∨ k = 179 ∨ k = 180 ∨ k = 181 ∨ (k = 182 ∧ (j = 1 ∨ j = 2 ∨ j = 3 ∨ j = 4)) ∨ k = 183 ∨ k = T + 13 ∨ k = T + 18
theorem fr_WF_law {x1 : Int} {x2 : Int} {x3 : Int} {W : Nat → Int → Prop} {M0 : Mem} {T : Nat} (hW : ∀ k j, (W_WF_law T) k j → W k j) (hT : M0.1 0 4 = (T : Int)) (h04 : ¬ W 0 4)  {M : Mem} (h : Fr W M0 M) : Post (fun r => Fr W M0 r.1) (t_WF_law M x1 x2 x3) := by
  unfold t_WF_law
  refine post_ite (fun c_1 => ?_) (fun c_1 => ?_)
  · have e04_2 : (M.1 0 4).toNat = T := by rw [(h 0 4 h04).1, hT]; rfl
    refine post_bind (Q := fun r => Fr W M0 r.1) (fr_Laws_pushFrom (fun k j hk => hW k j (by unfold W_Laws_pushFrom at hk; unfold W_WF_law; omega))  h) (fun q16 h_q16 => ?_)
    exact post_some h_q16
  · refine post_ite (fun c_3 => ?_) (fun c_3 => ?_)
    · refine post_let (fun q4 _ => ?_)
      refine post_ite (fun c_4 => ?_) (fun c_4 => ?_)
      · exact post_some h
      · have e04_5 : (M.1 0 4).toNat = T := by rw [(h 0 4 h04).1, hT]; rfl
        refine post_bind (Q := fun r => Fr W M0 r) (fr_Laws_measure (fun k j hk => hW k j (Or.elim hk (fun h => (Or.inr (Or.inl h))) (fun h => (Or.elim h (fun h => (Or.inr (Or.inr (Or.inl h)))) (fun h => (Or.elim h (fun h => (Or.inr (Or.inr (Or.inr (Or.inl h))))) (fun h => (Or.elim h (fun h => (Or.inr (Or.inr (Or.inr (Or.inr (Or.inl ⟨(h).1, (Or.elim (h).2 (fun h => (Or.inl h)) (fun h => (Or.elim h (fun h => (Or.inr (Or.inl h))) (fun h => (Or.elim h (fun h => (Or.inr (Or.inr (Or.inl h)))) (fun h => (Or.inr (Or.inr (Or.inr h)))))))))⟩)))))) (fun h => (Or.inr (Or.inr (Or.inr (Or.inr (Or.inr (Or.inl h)))))))))))))))  h) (fun q8 h_q8 => ?_)
        have e04_6 : (q8.1 0 4).toNat = T := by rw [(h_q8 0 4 h04).1, hT]; rfl
        refine post_bind (Q := fun r => Fr W M0 r.1) (fr_Laws_joyTold (fun k j hk => hW k j (by unfold W_Laws_joyTold at hk; unfold W_WF_law; omega))  h_q8) (fun q12 h_q12 => ?_)
        exact post_some h_q12
    · exact post_some h
def W_WF_rest : Nat → Int → Prop := fun k j => (k = 189 ∧ (j = 1 ∨ j = 2 ∨ j = 3 ∨ j = 4)) ∨ k = 190
theorem fr_WF_rest {x1 : Int} {W : Nat → Int → Prop} {M0 : Mem} (hW : ∀ k j, (W_WF_rest) k j → W k j)  {M : Mem} (h : Fr W M0 M) : Post (fun r => Fr W M0 r.1) (t_WF_rest M x1) := by
  unfold t_WF_rest
  refine post_let (fun q1 _ => ?_)
  refine post_ite (fun c_1 => ?_) (fun c_1 => ?_)
  · exact post_some h
  · refine post_bind (Q := fun r => Fr W M0 r) (fr_Trail_follow (fun k j hk => hW k j (Or.elim hk (fun h => (Or.inl ⟨(h).1, (Or.elim (h).2 (fun h => (Or.inl h)) (fun h => (Or.elim h (fun h => (Or.inr (Or.inl h))) (fun h => (Or.elim h (fun h => (Or.inr (Or.inr (Or.inl h)))) (fun h => (Or.inr (Or.inr (Or.inr h)))))))))⟩)) (fun h => (Or.inr h))))  h) (fun q5 h_q5 => ?_)
    refine post_let (fun q7 _ => ?_)
    exact post_some h_q5
def W_WF_way : Nat → Int → Prop := fun k j => (k = 189 ∧ (j = 1 ∨ j = 2 ∨ j = 3 ∨ j = 4)) ∨ k = 190
theorem fr_WF_way {x1 : Int} {x2 : Int} {W : Nat → Int → Prop} {M0 : Mem} (hW : ∀ k j, (W_WF_way) k j → W k j)  {M : Mem} (h : Fr W M0 M) : Post (fun r => Fr W M0 r.1) (t_WF_way M x1 x2) := by
  unfold t_WF_way
  refine post_let (fun q1 _ => ?_)
  refine post_ite (fun c_1 => ?_) (fun c_1 => ?_)
  · exact post_some h
  · refine post_ite (fun c_2 => ?_) (fun c_2 => ?_)
    · refine post_bind (Q := fun r => Fr W M0 r) (fr_Trail_follow (fun k j hk => hW k j (Or.elim hk (fun h => (Or.inl ⟨(h).1, (Or.elim (h).2 (fun h => (Or.inl h)) (fun h => (Or.elim h (fun h => (Or.inr (Or.inl h))) (fun h => (Or.elim h (fun h => (Or.inr (Or.inr (Or.inl h)))) (fun h => (Or.inr (Or.inr (Or.inr h)))))))))⟩)) (fun h => (Or.inr h))))  h) (fun q6 h_q6 => ?_)
      refine post_bindv (fun q8 => ?_)
      exact post_some h_q6
    · exact post_some h
def W_WF_falls : Nat → Int → Prop := fun k j => (k = 189 ∧ (j = 1 ∨ j = 2 ∨ j = 3 ∨ j = 4)) ∨ k = 190
theorem fr_WF_falls {x1 : Int} {x2 : Int} {W : Nat → Int → Prop} {M0 : Mem} (hW : ∀ k j, (W_WF_falls) k j → W k j)  {M : Mem} (h : Fr W M0 M) : Post (fun r => Fr W M0 r.1) (t_WF_falls M x1 x2) := by
  unfold t_WF_falls
  refine post_let (fun q1 _ => ?_)
  refine post_ite (fun c_1 => ?_) (fun c_1 => ?_)
  · exact post_some h
  · refine post_bind (Q := fun r => Fr W M0 r) (fr_Trail_follow (fun k j hk => hW k j (Or.elim hk (fun h => (Or.inl ⟨(h).1, (Or.elim (h).2 (fun h => (Or.inl h)) (fun h => (Or.elim h (fun h => (Or.inr (Or.inl h))) (fun h => (Or.elim h (fun h => (Or.inr (Or.inr (Or.inl h)))) (fun h => (Or.inr (Or.inr (Or.inr h)))))))))⟩)) (fun h => (Or.inr h))))  h) (fun q5 h_q5 => ?_)
    refine post_ite (fun c_2 => ?_) (fun c_2 => ?_)
    · exact post_some h_q5
    · refine post_ite (fun c_3 => ?_) (fun c_3 => ?_)
      · exact post_some h_q5
      · refine post_ite (fun c_4 => ?_) (fun c_4 => ?_)
        · refine post_ite (fun c_5 => ?_) (fun c_5 => ?_)
          · exact post_some h_q5
          · exact post_some h_q5
        · exact post_some h_q5
def W_Scene_beat_L131 : Nat → Int → Prop := fun k j => False
theorem fr_Scene_beat_L131 {k0 : Nat} {k1 : Nat} {x2 : Int} {bk5 : Mem → Int → Int → Option (Mem × Int)} {v3_ : Int} {v4_ : Int} {W : Nat → Int → Prop} {M0 : Mem} (hW : ∀ k j, (W_Scene_beat_L131) k j → W k j) (hbk5 : ∀ (a0_ : Mem) (a1_ : Int) (a2_ : Int), Fr W M0 a0_ → Post (fun r => Fr W M0 r.1) (bk5 a0_ a1_ a2_)) {M : Mem} (h : Fr W M0 M) : Post (fun r => Fr W M0 r.1) (t_Scene_beat_L131 k0 k1 x2 bk5 M v3_ v4_) := by
  unfold t_Scene_beat_L131
  exact hbk5 _ _ _ h
def W_Scene_beat_L124 (k0 : Nat) : Nat → Int → Prop := fun k j => k = k0 + 4
theorem fr_Scene_beat_L124 {k0 : Nat} {k1 : Nat} {x2 : Int} {bk5 : Mem → Int → Int → Option (Mem × Int)} {v3_ : Int} {v4_ : Int} {v6_ : Int} {v7_ : Int} {v8_ : Int} {W : Nat → Int → Prop} {M0 : Mem} (hW : ∀ k j, (W_Scene_beat_L124 k0) k j → W k j) (hbk5 : ∀ (a0_ : Mem) (a1_ : Int) (a2_ : Int), Fr W M0 a0_ → Post (fun r => Fr W M0 r.1) (bk5 a0_ a1_ a2_)) {M : Mem} (h : Fr W M0 M) : Post (fun r => Fr W M0 r.1) (t_Scene_beat_L124 k0 k1 x2 bk5 M v3_ v4_ v6_ v7_ v8_) := by
  unfold t_Scene_beat_L124
  refine post_let (fun q24 e_q24 => ?_)
  have h_q24 : Fr W M0 q24 := by rw [e_q24]; exact (fr_WF_put (fun k j hk => hW k j hk)  h)
  exact (fr_Scene_beat_L131 (fun k j hk => hk.elim) hbk5 h_q24)
def W_Scene_beat_L62 (k0 : Nat) : Nat → Int → Prop := fun k j => k = k0 + 2 ∨ k = k0 + 3 ∨ k = k0 + 4
theorem fr_Scene_beat_L62 {k0 : Nat} {k1 : Nat} {x2 : Int} {bk5 : Mem → Int → Int → Option (Mem × Int)} {v3_ : Int} {v4_ : Int} {v5_ : Int} {v6_ : Int} {W : Nat → Int → Prop} {M0 : Mem} (hW : ∀ k j, (W_Scene_beat_L62 k0) k j → W k j) (hbk5 : ∀ (a0_ : Mem) (a1_ : Int) (a2_ : Int), Fr W M0 a0_ → Post (fun r => Fr W M0 r.1) (bk5 a0_ a1_ a2_)) {M : Mem} (h : Fr W M0 M) : Post (fun r => Fr W M0 r.1) (t_Scene_beat_L62 k0 k1 x2 bk5 M v3_ v4_ v5_ v6_) := by
  unfold t_Scene_beat_L62
  refine post_let (fun q13 e_q13 => ?_)
  have h_q13 : Fr W M0 q13 := by rw [e_q13]; exact (fr_WF_put (fun k j hk => hW k j (Or.inl hk))  h)
  refine post_let (fun q15 _ => ?_)
  refine post_let (fun q17 e_q17 => ?_)
  have h_q17 : Fr W M0 q17 := by rw [e_q17]; exact (fr_WF_put (fun k j hk => hW k j (Or.inr (Or.inl hk)))  h_q13)
  refine post_let (fun q19 _ => ?_)
  refine post_let (fun q21 _ => ?_)
  refine post_ite (fun c_1 => ?_) (fun c_1 => ?_)
  · exact (fr_Scene_beat_L124 (fun k j hk => hW k j (Or.inr (Or.inr hk))) hbk5 h_q17)
  · exact (fr_Scene_beat_L124 (fun k j hk => hW k j (Or.inr (Or.inr hk))) hbk5 h_q17)
def W_Scene_beat_L41 (k0 : Nat) : Nat → Int → Prop := fun k j => k = k0 + 2 ∨ k = k0 + 3 ∨ k = k0 + 4
theorem fr_Scene_beat_L41 {k0 : Nat} {k1 : Nat} {x2 : Int} {bk5 : Mem → Int → Int → Option (Mem × Int)} {v3_ : Int} {v4_ : Int} {v5_ : Int} {v6_ : Int} {W : Nat → Int → Prop} {M0 : Mem} (hW : ∀ k j, (W_Scene_beat_L41 k0) k j → W k j) (hbk5 : ∀ (a0_ : Mem) (a1_ : Int) (a2_ : Int), Fr W M0 a0_ → Post (fun r => Fr W M0 r.1) (bk5 a0_ a1_ a2_)) {M : Mem} (h : Fr W M0 M) : Post (fun r => Fr W M0 r.1) (t_Scene_beat_L41 k0 k1 x2 bk5 M v3_ v4_ v5_ v6_) := by
  unfold t_Scene_beat_L41
  refine post_ite (fun c_1 => ?_) (fun c_1 => ?_)
  · exact (fr_Scene_beat_L131 (fun k j hk => hk.elim) hbk5 h)
  · refine post_ite (fun c_2 => ?_) (fun c_2 => ?_)
    · exact (fr_Scene_beat_L62 (fun k j hk => hW k j (Or.elim hk (fun h => (Or.inl h)) (fun h => (Or.elim h (fun h => (Or.inr (Or.inl h))) (fun h => (Or.inr (Or.inr h))))))) hbk5 h)
    · refine post_bindv (fun q10 => ?_)
      refine post_ite (fun c_3 => ?_) (fun c_3 => ?_)
      · exact (fr_Scene_beat_L131 (fun k j hk => hk.elim) hbk5 h)
      · exact (fr_Scene_beat_L62 (fun k j hk => hW k j (Or.elim hk (fun h => (Or.inl h)) (fun h => (Or.elim h (fun h => (Or.inr (Or.inl h))) (fun h => (Or.inr (Or.inr h))))))) hbk5 h)
def W_Scene_beat_L5 (k0 : Nat) : Nat → Int → Prop := fun k j => k = k0 + 2 ∨ k = k0 + 3 ∨ k = k0 + 4
theorem fr_Scene_beat_L5 {k0 : Nat} {k1 : Nat} {x2 : Int} {W : Nat → Int → Prop} {M0 : Mem} (hW : ∀ k j, (W_Scene_beat_L5 k0) k j → W k j)  : ∀ (fu : Nat) (M : Mem) (v3_ : Int) (v4_ : Int), Fr W M0 M → Post (fun r => Fr W M0 r.1) (t_Scene_beat_L5 k0 k1 x2 fu M v3_ v4_) := by
  intro fu
  induction fu with
  | zero => intro M v3_ v4_ h; exact post_none
  | succ fu ih =>
    intro M v3_ v4_ h
    rw [t_Scene_beat_L5]
    refine post_ite (fun c_1 => ?_) (fun c_1 => ?_)
    · exact post_some h
    · refine post_let (fun q3 _ => ?_)
      refine post_ite (fun c_2 => ?_) (fun c_2 => ?_)
      · refine post_let (fun q6 _ => ?_)
        exact (fr_Scene_beat_L41 (fun k j hk => hW k j (Or.elim hk (fun h => (Or.inl h)) (fun h => (Or.elim h (fun h => (Or.inr (Or.inl h))) (fun h => (Or.inr (Or.inr h))))))) (fun a0_ a1_ a2_ h9 => ih a0_ a1_ a2_ h9) h)
      · exact (fr_Scene_beat_L41 (fun k j hk => hW k j (Or.elim hk (fun h => (Or.inl h)) (fun h => (Or.elim h (fun h => (Or.inr (Or.inl h))) (fun h => (Or.inr (Or.inr h))))))) (fun a0_ a1_ a2_ h9 => ih a0_ a1_ a2_ h9) h)
def W_Scene_beat (k0 : Nat) : Nat → Int → Prop := fun k j => k = k0 + 2 ∨ k = k0 + 3 ∨ k = k0 + 4
theorem fr_Scene_beat {k0 : Nat} {k1 : Nat} {x2 : Int} {W : Nat → Int → Prop} {M0 : Mem} (hW : ∀ k j, (W_Scene_beat k0) k j → W k j)  {M : Mem} (h : Fr W M0 M) : Post (fun r => Fr W M0 r.1) (t_Scene_beat M k0 k1 x2) := by
  unfold t_Scene_beat
  exact (fr_Scene_beat_L5 (fun k j hk => hW k j (Or.elim hk (fun h => (Or.inl h)) (fun h => (Or.elim h (fun h => (Or.inr (Or.inl h))) (fun h => (Or.inr (Or.inr h)))))))  _ _ _ _ h)
def W_WF_beats_L17 : Nat → Int → Prop := fun k j => (k = 177 ∧ (j = 8)) ∨ k = 49 ∨ k = 50 ∨ k = 51 ∨ (k = 62 ∧ (j = 4)) ∨ (k = 70 ∧ (j = 2))
theorem fr_WF_beats_L17 {x1 : Int} {W : Nat → Int → Prop} {M0 : Mem} (hW : ∀ k j, (W_WF_beats_L17) k j → W k j)  : ∀ (fu : Nat) (M : Mem) (v2_ : Int) (v3_ : Int), Fr W M0 M → Post (fun r => Fr W M0 r.1) (t_WF_beats_L17 x1 fu M v2_ v3_) := by
  intro fu
  induction fu with
  | zero => intro M v2_ v3_ h; exact post_none
  | succ fu ih =>
    intro M v2_ v3_ h
    rw [t_WF_beats_L17]
    refine post_ite (fun c_1 => ?_) (fun c_1 => ?_)
    · refine post_ite (fun c_2 => ?_) (fun c_2 => ?_)
      · exact post_some h
      · refine post_let (fun M6 e_M6 => ?_)
        have h_M6 : Fr W M0 M6 := by rw [e_M6]; exact Fr.setI h (hW _ _ (Or.inr (Or.inr (Or.inr (Or.inr (Or.inl ⟨rfl, rfl⟩))))))
        refine post_let (fun q7 e_q7 => ?_)
        have h_q7 : Fr W M0 q7 := by rw [e_q7]; exact (fr_Past_clear (fun k j hk => hW k j (Or.inr (Or.inr (Or.inr (Or.inr (Or.inr ⟨(hk).1, (hk).2⟩))))))  h_M6)
        refine post_let (fun M9 e_M9 => ?_)
        have h_M9 : Fr W M0 M9 := by rw [e_M9]; exact Fr.setI h_q7 (hW _ _ (Or.inl ⟨rfl, rfl⟩))
        exact post_some h_M9
    · refine post_bind (Q := fun r => Fr W M0 r.1) (fr_Scene_beat (fun k j hk => hW k j (Or.elim hk (fun h => (Or.inr (Or.inl h))) (fun h => (Or.elim h (fun h => (Or.inr (Or.inr (Or.inl h)))) (fun h => (Or.inr (Or.inr (Or.inr (Or.inl h)))))))))  h) (fun q11 h_q11 => ?_)
      exact (ih _ _ _ h_q11)
def W_WF_beats : Nat → Int → Prop := fun k j => (k = 177 ∧ (j = 8)) ∨ k = 49 ∨ k = 50 ∨ k = 51 ∨ (k = 62 ∧ (j = 4)) ∨ (k = 70 ∧ (j = 2))
theorem fr_WF_beats {x1 : Int} {W : Nat → Int → Prop} {M0 : Mem} (hW : ∀ k j, (W_WF_beats) k j → W k j)  {M : Mem} (h : Fr W M0 M) : Post (fun r => Fr W M0 r.1) (t_WF_beats M x1) := by
  unfold t_WF_beats
  refine post_ite (fun c_1 => ?_) (fun c_1 => ?_)
  · exact post_some h
  · refine post_ite (fun c_2 => ?_) (fun c_2 => ?_)
    · exact (fr_WF_beats_L17 (fun k j hk => hW k j (Or.elim hk (fun h => (Or.inl ⟨(h).1, (h).2⟩)) (fun h => (Or.elim h (fun h => (Or.inr (Or.inl h))) (fun h => (Or.elim h (fun h => (Or.inr (Or.inr (Or.inl h)))) (fun h => (Or.elim h (fun h => (Or.inr (Or.inr (Or.inr (Or.inl h))))) (fun h => (Or.elim h (fun h => (Or.inr (Or.inr (Or.inr (Or.inr (Or.inl ⟨(h).1, (h).2⟩)))))) (fun h => (Or.inr (Or.inr (Or.inr (Or.inr (Or.inr ⟨(h).1, (h).2⟩))))))))))))))))  _ _ _ _ h)
    · exact post_some h
def W_Scene_copy (k0 : Nat) : Nat → Int → Prop := fun k j => (k = k0 ∧ (j = 4 ∨ j = 5 ∨ j = 6)) ∨ k = k0 + 1 ∨ k = k0 + 2 ∨ k = k0 + 3 ∨ k = k0 + 4
theorem fr_Scene_copy {k0 : Nat} {k1 : Nat} {W : Nat → Int → Prop} {M0 : Mem} (hW : ∀ k j, (W_Scene_copy k0) k j → W k j)  {M : Mem} (h : Fr W M0 M) : Fr W M0 (t_Scene_copy M k0 k1) := by
  show Pl (fun r => Fr W M0 r) (t_Scene_copy M k0 k1)
  unfold t_Scene_copy
  refine pl_let (fun q1 e_q1 => ?_)
  have h_q1 : Fr W M0 q1 := by rw [e_q1]; exact (fr_WF_copyRow (fun k j hk => hW k j (Or.inr (Or.inl hk)))  h)
  refine pl_let (fun q3 e_q3 => ?_)
  have h_q3 : Fr W M0 q3 := by rw [e_q3]; exact (fr_WF_copyRow (fun k j hk => hW k j (Or.inr (Or.inr (Or.inl hk))))  h_q1)
  refine pl_let (fun q5 e_q5 => ?_)
  have h_q5 : Fr W M0 q5 := by rw [e_q5]; exact (fr_WF_copyRow (fun k j hk => hW k j (Or.inr (Or.inr (Or.inr (Or.inl hk)))))  h_q3)
  refine pl_let (fun q7 e_q7 => ?_)
  have h_q7 : Fr W M0 q7 := by rw [e_q7]; exact (fr_WF_copyRow (fun k j hk => hW k j (Or.inr (Or.inr (Or.inr (Or.inr hk)))))  h_q5)
  refine pl_let (fun M9 e_M9 => ?_)
  have h_M9 : Fr W M0 M9 := by rw [e_M9]; exact Fr.setL h_q7 (hW _ _ (Or.inl ⟨rfl, (Or.inl rfl)⟩))
  refine pl_let (fun M10 e_M10 => ?_)
  have h_M10 : Fr W M0 M10 := by rw [e_M10]; exact Fr.setL h_M9 (hW _ _ (Or.inl ⟨rfl, (Or.inr (Or.inl rfl))⟩))
  refine pl_let (fun M11 e_M11 => ?_)
  have h_M11 : Fr W M0 M11 := by rw [e_M11]; exact Fr.setL h_M10 (hW _ _ (Or.inl ⟨rfl, (Or.inr (Or.inr rfl))⟩))
  exact h_M11
def W_Past_remember_L72 : Nat → Int → Prop := fun k j => (k = 70 ∧ (j = 2))
theorem fr_Past_remember_L72 {k1 : Nat} {W : Nat → Int → Prop} {M0 : Mem} (hW : ∀ k j, (W_Past_remember_L72) k j → W k j)  {M : Mem} (h : Fr W M0 M) : Fr W M0 (t_Past_remember_L72 k1 M) := by
  show Pl (fun r => Fr W M0 r) (t_Past_remember_L72 k1 M)
  unfold t_Past_remember_L72
  refine pl_let (fun M16 e_M16 => ?_)
  have h_M16 : Fr W M0 M16 := by rw [e_M16]; exact Fr.setI h (hW _ _ ⟨rfl, rfl⟩)
  exact h_M16
def W_Past_remember_L25 : Nat → Int → Prop := fun k j => (k = 70 ∧ (j = 1 ∨ j = 2)) ∨ ((72 ≤ k ∧ k ≤ 167) ∧ (j = 4 ∨ j = 5 ∨ j = 6)) ∨ (73 ≤ k ∧ k ≤ 168) ∨ (74 ≤ k ∧ k ≤ 169) ∨ (75 ≤ k ∧ k ≤ 170) ∨ (76 ≤ k ∧ k ≤ 171)
theorem fr_Past_remember_L25 {k1 : Nat} {v3_ : Int} {W : Nat → Int → Prop} {M0 : Mem} (hW : ∀ k j, (W_Past_remember_L25) k j → W k j)  {M : Mem} (h : Fr W M0 M) : Fr W M0 (t_Past_remember_L25 k1 M v3_) := by
  show Pl (fun r => Fr W M0 r) (t_Past_remember_L25 k1 M v3_)
  unfold t_Past_remember_L25
  refine pl_let (fun M4 e_M4 => ?_)
  have h_M4 : Fr W M0 M4 := by rw [e_M4]; exact Fr.setI h (hW _ _ (Or.inl ⟨rfl, (Or.inl rfl)⟩))
  refine pl_ite (fun c_1 => ?_) (fun c_1 => ?_)
  · exact (fr_Past_remember_L72 (fun k j hk => hW k j (Or.inl ⟨(hk).1, (Or.inr (hk).2)⟩))  h_M4)
  · refine pl_ite (fun c_2 => ?_) (fun c_2 => ?_)
    · exact (fr_Past_remember_L72 (fun k j hk => hW k j (Or.inl ⟨(hk).1, (Or.inr (hk).2)⟩))  h_M4)
    · refine pl_let (fun q13 e_q13 => ?_)
      have h_q13 : Fr W M0 q13 := by rw [e_q13]; exact (fr_Scene_copy (fun k j hk => hW k j (by unfold W_Scene_copy at hk; unfold W_Past_remember_L25; rcases hk with hk | hk | hk | hk | hk <;> omega))  h_M4)
      exact (fr_Past_remember_L72 (fun k j hk => hW k j (Or.inl ⟨(hk).1, (Or.inr (hk).2)⟩))  h_q13)
def W_Past_remember : Nat → Int → Prop := fun k j => (k = 70 ∧ (j = 1 ∨ j = 2)) ∨ ((72 ≤ k ∧ k ≤ 167) ∧ (j = 4 ∨ j = 5 ∨ j = 6)) ∨ (73 ≤ k ∧ k ≤ 168) ∨ (74 ≤ k ∧ k ≤ 169) ∨ (75 ≤ k ∧ k ≤ 170) ∨ (76 ≤ k ∧ k ≤ 171)
theorem fr_Past_remember {k1 : Nat} {W : Nat → Int → Prop} {M0 : Mem} (hW : ∀ k j, (W_Past_remember) k j → W k j)  {M : Mem} (h : Fr W M0 M) : Fr W M0 (t_Past_remember M k1) := by
  show Pl (fun r => Fr W M0 r) (t_Past_remember M k1)
  unfold t_Past_remember
  refine pl_ite (fun c_1 => ?_) (fun c_1 => ?_)
  · exact (fr_Past_remember_L25 (fun k j hk => hW k j (Or.elim hk (fun h => (Or.inl ⟨(h).1, (Or.elim (h).2 (fun h => (Or.inl h)) (fun h => (Or.inr h)))⟩)) (fun h => (Or.elim h (fun h => (Or.inr (Or.inl ⟨(h).1, (Or.elim (h).2 (fun h => (Or.inl h)) (fun h => (Or.elim h (fun h => (Or.inr (Or.inl h))) (fun h => (Or.inr (Or.inr h))))))⟩))) (fun h => (Or.elim h (fun h => (Or.inr (Or.inr (Or.inl h)))) (fun h => (Or.elim h (fun h => (Or.inr (Or.inr (Or.inr (Or.inl h))))) (fun h => (Or.elim h (fun h => (Or.inr (Or.inr (Or.inr (Or.inr (Or.inl h)))))) (fun h => (Or.inr (Or.inr (Or.inr (Or.inr (Or.inr h))))))))))))))))  h)
  · exact (fr_Past_remember_L25 (fun k j hk => hW k j (Or.elim hk (fun h => (Or.inl ⟨(h).1, (Or.elim (h).2 (fun h => (Or.inl h)) (fun h => (Or.inr h)))⟩)) (fun h => (Or.elim h (fun h => (Or.inr (Or.inl ⟨(h).1, (Or.elim (h).2 (fun h => (Or.inl h)) (fun h => (Or.elim h (fun h => (Or.inr (Or.inl h))) (fun h => (Or.inr (Or.inr h))))))⟩))) (fun h => (Or.elim h (fun h => (Or.inr (Or.inr (Or.inl h)))) (fun h => (Or.elim h (fun h => (Or.inr (Or.inr (Or.inr (Or.inl h))))) (fun h => (Or.elim h (fun h => (Or.inr (Or.inr (Or.inr (Or.inr (Or.inl h)))))) (fun h => (Or.inr (Or.inr (Or.inr (Or.inr (Or.inr h))))))))))))))))  h)
def W_Scene_pourOne_L54 (k0 : Nat) : Nat → Int → Prop := fun k j => (k = k0 ∧ (j = 6))
theorem fr_Scene_pourOne_L54 {k0 : Nat} {k1 : Nat} {x2 : Int} {v1_ : Int} {v2_ : Int} {W : Nat → Int → Prop} {M0 : Mem} (hW : ∀ k j, (W_Scene_pourOne_L54 k0) k j → W k j)  {M : Mem} (h : Fr W M0 M) : Post (fun r => Fr W M0 r.1) (t_Scene_pourOne_L54 k0 k1 x2 M v1_ v2_) := by
  unfold t_Scene_pourOne_L54
  refine post_let (fun M11 e_M11 => ?_)
  have h_M11 : Fr W M0 M11 := by rw [e_M11]; exact Fr.setL h (hW _ _ ⟨rfl, rfl⟩)
  exact post_some h_M11
def W_Scene_pourOne_L38 (k0 : Nat) : Nat → Int → Prop := fun k j => (k = k0 ∧ (j = 6))
theorem fr_Scene_pourOne_L38 {k0 : Nat} {k1 : Nat} {x2 : Int} {v1_ : Int} {W : Nat → Int → Prop} {M0 : Mem} (hW : ∀ k j, (W_Scene_pourOne_L38 k0) k j → W k j)  {M : Mem} (h : Fr W M0 M) : Post (fun r => Fr W M0 r.1) (t_Scene_pourOne_L38 k0 k1 x2 M v1_) := by
  unfold t_Scene_pourOne_L38
  refine post_let (fun q8 _ => ?_)
  refine post_ite (fun c_1 => ?_) (fun c_1 => ?_)
  · exact (fr_Scene_pourOne_L54 (fun k j hk => hW k j ⟨(hk).1, (hk).2⟩)  h)
  · exact (fr_Scene_pourOne_L54 (fun k j hk => hW k j ⟨(hk).1, (hk).2⟩)  h)
def W_Scene_pourOne_L5 (k0 : Nat) : Nat → Int → Prop := fun k j => (k = k0 ∧ (j = 6))
theorem fr_Scene_pourOne_L5 {k0 : Nat} {k1 : Nat} {x2 : Int} {W : Nat → Int → Prop} {M0 : Mem} (hW : ∀ k j, (W_Scene_pourOne_L5 k0) k j → W k j)  : ∀ (fu : Nat) (M : Mem) (v2_ : Int) (v3_ : Int), Fr W M0 M → Post (fun r => Fr W M0 r.1) (t_Scene_pourOne_L5 k0 k1 x2 fu M v2_ v3_) := by
  intro fu
  induction fu with
  | zero => intro M v2_ v3_ h; exact post_none
  | succ fu ih =>
    intro M v2_ v3_ h
    rw [t_Scene_pourOne_L5]
    refine post_ite (fun c_1 => ?_) (fun c_1 => ?_)
    · exact post_some h
    · refine post_let (fun q2 _ => ?_)
      refine post_ite (fun c_2 => ?_) (fun c_2 => ?_)
      · exact (fr_Scene_pourOne_L38 (fun k j hk => hW k j ⟨(hk).1, (hk).2⟩)  h)
      · refine post_let (fun q5 _ => ?_)
        refine post_ite (fun c_3 => ?_) (fun c_3 => ?_)
        · exact (fr_Scene_pourOne_L38 (fun k j hk => hW k j ⟨(hk).1, (hk).2⟩)  h)
        · exact (ih _ _ _ h)
def W_Scene_pourOne (k0 : Nat) : Nat → Int → Prop := fun k j => (k = k0 ∧ (j = 6))
theorem fr_Scene_pourOne {k0 : Nat} {k1 : Nat} {x2 : Int} {W : Nat → Int → Prop} {M0 : Mem} (hW : ∀ k j, (W_Scene_pourOne k0) k j → W k j)  {M : Mem} (h : Fr W M0 M) : Post (fun r => Fr W M0 r.1) (t_Scene_pourOne M k0 k1 x2) := by
  unfold t_Scene_pourOne
  exact (fr_Scene_pourOne_L5 (fun k j hk => hW k j ⟨(hk).1, (hk).2⟩)  _ _ _ _ h)
def W_Scene_pourAnew_L40 : Nat → Int → Prop := fun k j => False
theorem fr_Scene_pourAnew_L40 {k0 : Nat} {k1 : Nat} {bk13 : Mem → Int64 → Int → Option (Mem)} {v2_ : Int64} {v3_ : Int} {W : Nat → Int → Prop} {M0 : Mem} (hW : ∀ k j, (W_Scene_pourAnew_L40) k j → W k j) (hbk13 : ∀ (a0_ : Mem) (a1_ : Int64) (a2_ : Int), Fr W M0 a0_ → Post (fun r => Fr W M0 r) (bk13 a0_ a1_ a2_)) {M : Mem} (h : Fr W M0 M) : Post (fun r => Fr W M0 r) (t_Scene_pourAnew_L40 k0 k1 bk13 M v2_ v3_) := by
  unfold t_Scene_pourAnew_L40
  exact hbk13 _ _ _ h
def W_Scene_pourAnew_L13 (k0 : Nat) : Nat → Int → Prop := fun k j => (k = k0 ∧ (j = 6))
theorem fr_Scene_pourAnew_L13 {k0 : Nat} {k1 : Nat} {W : Nat → Int → Prop} {M0 : Mem} (hW : ∀ k j, (W_Scene_pourAnew_L13 k0) k j → W k j)  : ∀ (fu : Nat) (M : Mem) (v2_ : Int64) (v3_ : Int), Fr W M0 M → Post (fun r => Fr W M0 r) (t_Scene_pourAnew_L13 k0 k1 fu M v2_ v3_) := by
  intro fu
  induction fu with
  | zero => intro M v2_ v3_ h; exact post_none
  | succ fu ih =>
    intro M v2_ v3_ h
    rw [t_Scene_pourAnew_L13]
    refine post_ite (fun c_1 => ?_) (fun c_1 => ?_)
    · exact post_some h
    · refine post_let (fun q4 _ => ?_)
      refine post_ite (fun c_2 => ?_) (fun c_2 => ?_)
      · refine post_bind (Q := fun r => Fr W M0 r.1) (fr_Scene_pourOne (fun k j hk => hW k j ⟨(hk).1, (hk).2⟩)  h) (fun q7 h_q7 => ?_)
        exact (fr_Scene_pourAnew_L40 (fun k j hk => hk.elim) (fun a0_ a1_ a2_ h9 => ih a0_ a1_ a2_ h9) h_q7)
      · exact (fr_Scene_pourAnew_L40 (fun k j hk => hk.elim) (fun a0_ a1_ a2_ h9 => ih a0_ a1_ a2_ h9) h)
def W_Scene_pourAnew (k0 : Nat) : Nat → Int → Prop := fun k j => (k = k0 ∧ (j = 6))
theorem fr_Scene_pourAnew {k0 : Nat} {k1 : Nat} {W : Nat → Int → Prop} {M0 : Mem} (hW : ∀ k j, (W_Scene_pourAnew k0) k j → W k j)  {M : Mem} (h : Fr W M0 M) : Post (fun r => Fr W M0 r) (t_Scene_pourAnew M k0 k1) := by
  unfold t_Scene_pourAnew
  refine post_let (fun M1 e_M1 => ?_)
  have h_M1 : Fr W M0 M1 := by rw [e_M1]; exact Fr.setL h (hW _ _ ⟨rfl, rfl⟩)
  exact (fr_Scene_pourAnew_L13 (fun k j hk => hW k j ⟨(hk).1, (hk).2⟩)  _ _ _ _ h_M1)
def W_WF_vote : Nat → Int → Prop := fun k j => (k = 47 ∧ (j = 6)) ∨ k = 48 ∨ (k = 70 ∧ (j = 1 ∨ j = 2)) ∨ ((72 ≤ k ∧ k ≤ 167) ∧ (j = 4 ∨ j = 5 ∨ j = 6)) ∨ (73 ≤ k ∧ k ≤ 168) ∨ (74 ≤ k ∧ k ≤ 169) ∨ (75 ≤ k ∧ k ≤ 170) ∨ (76 ≤ k ∧ k ≤ 171)
theorem fr_WF_vote {x1 : Int} {x2 : Int} {W : Nat → Int → Prop} {M0 : Mem} (hW : ∀ k j, (W_WF_vote) k j → W k j)  {M : Mem} (h : Fr W M0 M) : Post (fun r => Fr W M0 r.1) (t_WF_vote M x1 x2) := by
  unfold t_WF_vote
  refine post_let (fun q2 _ => ?_)
  refine post_ite (fun c_1 => ?_) (fun c_1 => ?_)
  · exact post_some h
  · refine post_let (fun q5 _ => ?_)
    refine post_ite (fun c_2 => ?_) (fun c_2 => ?_)
    · exact post_some h
    · refine post_let (fun q8 _ => ?_)
      refine post_ite (fun c_3 => ?_) (fun c_3 => ?_)
      · exact post_some h
      · refine post_let (fun q11 e_q11 => ?_)
        have h_q11 : Fr W M0 q11 := by rw [e_q11]; exact (fr_Past_remember (fun k j hk => hW k j (Or.elim hk (fun h => (Or.inr (Or.inr (Or.inl ⟨(h).1, (Or.elim (h).2 (fun h => (Or.inl h)) (fun h => (Or.inr h)))⟩)))) (fun h => (Or.elim h (fun h => (Or.inr (Or.inr (Or.inr (Or.inl ⟨(h).1, (Or.elim (h).2 (fun h => (Or.inl h)) (fun h => (Or.elim h (fun h => (Or.inr (Or.inl h))) (fun h => (Or.inr (Or.inr h))))))⟩))))) (fun h => (Or.elim h (fun h => (Or.inr (Or.inr (Or.inr (Or.inr (Or.inl h)))))) (fun h => (Or.elim h (fun h => (Or.inr (Or.inr (Or.inr (Or.inr (Or.inr (Or.inl h))))))) (fun h => (Or.elim h (fun h => (Or.inr (Or.inr (Or.inr (Or.inr (Or.inr (Or.inr (Or.inl h)))))))) (fun h => (Or.inr (Or.inr (Or.inr (Or.inr (Or.inr (Or.inr (Or.inr h))))))))))))))))))  h)
        refine post_let (fun q13 e_q13 => ?_)
        have h_q13 : Fr W M0 q13 := by rw [e_q13]; exact (fr_WF_put (fun k j hk => hW k j (Or.inr (Or.inl hk)))  h_q11)
        refine post_bind (Q := fun r => Fr W M0 r) (fr_Scene_pourAnew (fun k j hk => hW k j (Or.inl ⟨(hk).1, (hk).2⟩))  h_q13) (fun q16 h_q16 => ?_)
        exact post_some h_q16
def W_WF_net_L28 : Nat → Int → Prop := fun k j => (k = 177 ∧ (j = 8)) ∨ (k = 47 ∧ (j = 5)) ∨ (k = 70 ∧ (j = 1 ∨ j = 2)) ∨ ((72 ≤ k ∧ k ≤ 167) ∧ (j = 4 ∨ j = 5 ∨ j = 6)) ∨ (73 ≤ k ∧ k ≤ 168) ∨ (74 ≤ k ∧ k ≤ 169) ∨ (75 ≤ k ∧ k ≤ 170) ∨ (76 ≤ k ∧ k ≤ 171)
theorem fr_WF_net_L28 {x1 : Int} {x2 : Int} {v3_ : Int} {W : Nat → Int → Prop} {M0 : Mem} (hW : ∀ k j, (W_WF_net_L28) k j → W k j)  {M : Mem} (h : Fr W M0 M) : Fr W M0 (t_WF_net_L28 x1 x2 M v3_).1 := by
  show Pl (fun r => Fr W M0 r.1) (t_WF_net_L28 x1 x2 M v3_)
  unfold t_WF_net_L28
  refine pl_ite (fun c_1 => ?_) (fun c_1 => ?_)
  · exact h
  · refine pl_let (fun q8 e_q8 => ?_)
    have h_q8 : Fr W M0 q8 := by rw [e_q8]; exact (fr_Past_remember (fun k j hk => hW k j (Or.elim hk (fun h => (Or.inr (Or.inr (Or.inl ⟨(h).1, (Or.elim (h).2 (fun h => (Or.inl h)) (fun h => (Or.inr h)))⟩)))) (fun h => (Or.elim h (fun h => (Or.inr (Or.inr (Or.inr (Or.inl ⟨(h).1, (Or.elim (h).2 (fun h => (Or.inl h)) (fun h => (Or.elim h (fun h => (Or.inr (Or.inl h))) (fun h => (Or.inr (Or.inr h))))))⟩))))) (fun h => (Or.elim h (fun h => (Or.inr (Or.inr (Or.inr (Or.inr (Or.inl h)))))) (fun h => (Or.elim h (fun h => (Or.inr (Or.inr (Or.inr (Or.inr (Or.inr (Or.inl h))))))) (fun h => (Or.elim h (fun h => (Or.inr (Or.inr (Or.inr (Or.inr (Or.inr (Or.inr (Or.inl h)))))))) (fun h => (Or.inr (Or.inr (Or.inr (Or.inr (Or.inr (Or.inr (Or.inr h))))))))))))))))))  h)
    refine pl_let (fun M10 e_M10 => ?_)
    have h_M10 : Fr W M0 M10 := by rw [e_M10]; exact Fr.setL h_q8 (hW _ _ (Or.inr (Or.inl ⟨rfl, rfl⟩)))
    refine pl_let (fun M11 e_M11 => ?_)
    have h_M11 : Fr W M0 M11 := by rw [e_M11]; exact Fr.setI h_M10 (hW _ _ (Or.inl ⟨rfl, rfl⟩))
    exact h_M11
def W_WF_net : Nat → Int → Prop := fun k j => (k = 177 ∧ (j = 8)) ∨ (k = 47 ∧ (j = 5)) ∨ (k = 70 ∧ (j = 1 ∨ j = 2)) ∨ ((72 ≤ k ∧ k ≤ 167) ∧ (j = 4 ∨ j = 5 ∨ j = 6)) ∨ (73 ≤ k ∧ k ≤ 168) ∨ (74 ≤ k ∧ k ≤ 169) ∨ (75 ≤ k ∧ k ≤ 170) ∨ (76 ≤ k ∧ k ≤ 171)
theorem fr_WF_net {x1 : Int} {x2 : Int} {W : Nat → Int → Prop} {M0 : Mem} (hW : ∀ k j, (W_WF_net) k j → W k j)  {M : Mem} (h : Fr W M0 M) : Fr W M0 (t_WF_net M x1 x2).1 := by
  show Pl (fun r => Fr W M0 r.1) (t_WF_net M x1 x2)
  unfold t_WF_net
  refine pl_let (fun q1 _ => ?_)
  refine pl_ite (fun c_1 => ?_) (fun c_1 => ?_)
  · exact h
  · refine pl_let (fun q4 _ => ?_)
    refine pl_ite (fun c_2 => ?_) (fun c_2 => ?_)
    · exact (fr_WF_net_L28 (fun k j hk => hW k j (Or.elim hk (fun h => (Or.inl ⟨(h).1, (h).2⟩)) (fun h => (Or.elim h (fun h => (Or.inr (Or.inl ⟨(h).1, (h).2⟩))) (fun h => (Or.elim h (fun h => (Or.inr (Or.inr (Or.inl ⟨(h).1, (Or.elim (h).2 (fun h => (Or.inl h)) (fun h => (Or.inr h)))⟩)))) (fun h => (Or.elim h (fun h => (Or.inr (Or.inr (Or.inr (Or.inl ⟨(h).1, (Or.elim (h).2 (fun h => (Or.inl h)) (fun h => (Or.elim h (fun h => (Or.inr (Or.inl h))) (fun h => (Or.inr (Or.inr h))))))⟩))))) (fun h => (Or.elim h (fun h => (Or.inr (Or.inr (Or.inr (Or.inr (Or.inl h)))))) (fun h => (Or.elim h (fun h => (Or.inr (Or.inr (Or.inr (Or.inr (Or.inr (Or.inl h))))))) (fun h => (Or.elim h (fun h => (Or.inr (Or.inr (Or.inr (Or.inr (Or.inr (Or.inr (Or.inl h)))))))) (fun h => (Or.inr (Or.inr (Or.inr (Or.inr (Or.inr (Or.inr (Or.inr h))))))))))))))))))))))  h)
    · exact (fr_WF_net_L28 (fun k j hk => hW k j (Or.elim hk (fun h => (Or.inl ⟨(h).1, (h).2⟩)) (fun h => (Or.elim h (fun h => (Or.inr (Or.inl ⟨(h).1, (h).2⟩))) (fun h => (Or.elim h (fun h => (Or.inr (Or.inr (Or.inl ⟨(h).1, (Or.elim (h).2 (fun h => (Or.inl h)) (fun h => (Or.inr h)))⟩)))) (fun h => (Or.elim h (fun h => (Or.inr (Or.inr (Or.inr (Or.inl ⟨(h).1, (Or.elim (h).2 (fun h => (Or.inl h)) (fun h => (Or.elim h (fun h => (Or.inr (Or.inl h))) (fun h => (Or.inr (Or.inr h))))))⟩))))) (fun h => (Or.elim h (fun h => (Or.inr (Or.inr (Or.inr (Or.inr (Or.inl h)))))) (fun h => (Or.elim h (fun h => (Or.inr (Or.inr (Or.inr (Or.inr (Or.inr (Or.inl h))))))) (fun h => (Or.elim h (fun h => (Or.inr (Or.inr (Or.inr (Or.inr (Or.inr (Or.inr (Or.inl h)))))))) (fun h => (Or.inr (Or.inr (Or.inr (Or.inr (Or.inr (Or.inr (Or.inr h))))))))))))))))))))))  h)
def W_WF_lay : Nat → Int → Prop := fun k j => (k = 177 ∧ (j = 8)) ∨ k = 49 ∨ (k = 70 ∧ (j = 1 ∨ j = 2)) ∨ ((72 ≤ k ∧ k ≤ 167) ∧ (j = 4 ∨ j = 5 ∨ j = 6)) ∨ (73 ≤ k ∧ k ≤ 168) ∨ (74 ≤ k ∧ k ≤ 169) ∨ (75 ≤ k ∧ k ≤ 170) ∨ (76 ≤ k ∧ k ≤ 171)
theorem fr_WF_lay {x1 : Int} {x2 : Int} {W : Nat → Int → Prop} {M0 : Mem} (hW : ∀ k j, (W_WF_lay) k j → W k j)  {M : Mem} (h : Fr W M0 M) : Post (fun r => Fr W M0 r.1) (t_WF_lay M x1 x2) := by
  unfold t_WF_lay
  refine post_let (fun q2 _ => ?_)
  refine post_ite (fun c_1 => ?_) (fun c_1 => ?_)
  · exact post_some h
  · refine post_let (fun q5 _ => ?_)
    refine post_ite (fun c_2 => ?_) (fun c_2 => ?_)
    · exact post_some h
    · refine post_bindv (fun q9 => ?_)
      refine post_ite (fun c_3 => ?_) (fun c_3 => ?_)
      · refine post_let (fun q12 e_q12 => ?_)
        have h_q12 : Fr W M0 q12 := by rw [e_q12]; exact (fr_Past_remember (fun k j hk => hW k j (Or.elim hk (fun h => (Or.inr (Or.inr (Or.inl ⟨(h).1, (Or.elim (h).2 (fun h => (Or.inl h)) (fun h => (Or.inr h)))⟩)))) (fun h => (Or.elim h (fun h => (Or.inr (Or.inr (Or.inr (Or.inl ⟨(h).1, (Or.elim (h).2 (fun h => (Or.inl h)) (fun h => (Or.elim h (fun h => (Or.inr (Or.inl h))) (fun h => (Or.inr (Or.inr h))))))⟩))))) (fun h => (Or.elim h (fun h => (Or.inr (Or.inr (Or.inr (Or.inr (Or.inl h)))))) (fun h => (Or.elim h (fun h => (Or.inr (Or.inr (Or.inr (Or.inr (Or.inr (Or.inl h))))))) (fun h => (Or.elim h (fun h => (Or.inr (Or.inr (Or.inr (Or.inr (Or.inr (Or.inr (Or.inl h)))))))) (fun h => (Or.inr (Or.inr (Or.inr (Or.inr (Or.inr (Or.inr (Or.inr h))))))))))))))))))  h)
        refine post_let (fun q14 e_q14 => ?_)
        have h_q14 : Fr W M0 q14 := by rw [e_q14]; exact (fr_WF_put (fun k j hk => hW k j (Or.inr (Or.inl hk)))  h_q12)
        refine post_let (fun M16 e_M16 => ?_)
        have h_M16 : Fr W M0 M16 := by rw [e_M16]; exact Fr.setI h_q14 (hW _ _ (Or.inl ⟨rfl, rfl⟩))
        exact post_some h_M16
      · exact post_some h
def W_WF_pour_L61 : Nat → Int → Prop := fun k j => False
theorem fr_WF_pour_L61 {x1 : Int} {x2 : Int} {bk37 : Mem → Int → Int → Option (Mem × Int)} {v3_ : Int} {v4_ : Int} {W : Nat → Int → Prop} {M0 : Mem} (hW : ∀ k j, (W_WF_pour_L61) k j → W k j) (hbk37 : ∀ (a0_ : Mem) (a1_ : Int) (a2_ : Int), Fr W M0 a0_ → Post (fun r => Fr W M0 r.1) (bk37 a0_ a1_ a2_)) {M : Mem} (h : Fr W M0 M) : Post (fun r => Fr W M0 r.1) (t_WF_pour_L61 x1 x2 bk37 M v3_ v4_) := by
  unfold t_WF_pour_L61
  exact hbk37 _ _ _ h
def W_WF_pour_L37 : Nat → Int → Prop := fun k j => (k = 47 ∧ (j = 6)) ∨ (k = 52 ∧ (j = 6)) ∨ (k = 70 ∧ (j = 1 ∨ j = 2)) ∨ ((72 ≤ k ∧ k ≤ 167) ∧ (j = 4 ∨ j = 5 ∨ j = 6)) ∨ (73 ≤ k ∧ k ≤ 168) ∨ (74 ≤ k ∧ k ≤ 169) ∨ (75 ≤ k ∧ k ≤ 170) ∨ (76 ≤ k ∧ k ≤ 171)
theorem fr_WF_pour_L37 {x1 : Int} {x2 : Int} {W : Nat → Int → Prop} {M0 : Mem} (hW : ∀ k j, (W_WF_pour_L37) k j → W k j)  : ∀ (fu : Nat) (M : Mem) (v3_ : Int) (v4_ : Int), Fr W M0 M → Post (fun r => Fr W M0 r.1) (t_WF_pour_L37 x1 x2 fu M v3_ v4_) := by
  intro fu
  induction fu with
  | zero => intro M v3_ v4_ h; exact post_none
  | succ fu ih =>
    intro M v3_ v4_ h
    rw [t_WF_pour_L37]
    refine post_ite (fun c_1 => ?_) (fun c_1 => ?_)
    · refine post_ite (fun c_2 => ?_) (fun c_2 => ?_)
      · exact post_some h
      · refine post_let (fun q10 e_q10 => ?_)
        have h_q10 : Fr W M0 q10 := by rw [e_q10]; exact (fr_Past_remember (fun k j hk => hW k j (Or.elim hk (fun h => (Or.inr (Or.inr (Or.inl ⟨(h).1, (Or.elim (h).2 (fun h => (Or.inl h)) (fun h => (Or.inr h)))⟩)))) (fun h => (Or.elim h (fun h => (Or.inr (Or.inr (Or.inr (Or.inl ⟨(h).1, (Or.elim (h).2 (fun h => (Or.inl h)) (fun h => (Or.elim h (fun h => (Or.inr (Or.inl h))) (fun h => (Or.inr (Or.inr h))))))⟩))))) (fun h => (Or.elim h (fun h => (Or.inr (Or.inr (Or.inr (Or.inr (Or.inl h)))))) (fun h => (Or.elim h (fun h => (Or.inr (Or.inr (Or.inr (Or.inr (Or.inr (Or.inl h))))))) (fun h => (Or.elim h (fun h => (Or.inr (Or.inr (Or.inr (Or.inr (Or.inr (Or.inr (Or.inl h)))))))) (fun h => (Or.inr (Or.inr (Or.inr (Or.inr (Or.inr (Or.inr (Or.inr h))))))))))))))))))  h)
        refine post_let (fun M12 e_M12 => ?_)
        have h_M12 : Fr W M0 M12 := by rw [e_M12]; exact Fr.setL h_q10 (hW _ _ (Or.inl ⟨rfl, rfl⟩))
        exact post_some h_M12
    · refine post_bind (Q := fun r => Fr W M0 r.1) (fr_Scene_pourOne (fun k j hk => hW k j (Or.inr (Or.inl ⟨(hk).1, (hk).2⟩)))  h) (fun q14 h_q14 => ?_)
      refine post_ite (fun c_3 => ?_) (fun c_3 => ?_)
      · exact (fr_WF_pour_L61 (fun k j hk => hk.elim) (fun a0_ a1_ a2_ h9 => ih a0_ a1_ a2_ h9) h_q14)
      · exact (fr_WF_pour_L61 (fun k j hk => hk.elim) (fun a0_ a1_ a2_ h9 => ih a0_ a1_ a2_ h9) h_q14)
def W_WF_pour : Nat → Int → Prop := fun k j => (k = 47 ∧ (j = 6)) ∨ (k = 52 ∧ (j = 4 ∨ j = 5 ∨ j = 6)) ∨ k = 53 ∨ k = 54 ∨ k = 55 ∨ k = 56 ∨ (k = 70 ∧ (j = 1 ∨ j = 2)) ∨ ((72 ≤ k ∧ k ≤ 167) ∧ (j = 4 ∨ j = 5 ∨ j = 6)) ∨ (73 ≤ k ∧ k ≤ 168) ∨ (74 ≤ k ∧ k ≤ 169) ∨ (75 ≤ k ∧ k ≤ 170) ∨ (76 ≤ k ∧ k ≤ 171)
theorem fr_WF_pour {x1 : Int} {x2 : Int} {W : Nat → Int → Prop} {M0 : Mem} (hW : ∀ k j, (W_WF_pour) k j → W k j)  {M : Mem} (h : Fr W M0 M) : Post (fun r => Fr W M0 r.1) (t_WF_pour M x1 x2) := by
  unfold t_WF_pour
  refine post_let (fun q1 _ => ?_)
  refine post_ite (fun c_1 => ?_) (fun c_1 => ?_)
  · exact post_some h
  · refine post_ite (fun c_2 => ?_) (fun c_2 => ?_)
    · exact post_some h
    · refine post_ite (fun c_3 => ?_) (fun c_3 => ?_)
      · refine post_let (fun q6 e_q6 => ?_)
        have h_q6 : Fr W M0 q6 := by rw [e_q6]; exact (fr_Scene_copy (fun k j hk => hW k j (Or.elim hk (fun h => (Or.inr (Or.inl ⟨(h).1, (Or.elim (h).2 (fun h => (Or.inl h)) (fun h => (Or.elim h (fun h => (Or.inr (Or.inl h))) (fun h => (Or.inr (Or.inr h))))))⟩))) (fun h => (Or.elim h (fun h => (Or.inr (Or.inr (Or.inl h)))) (fun h => (Or.elim h (fun h => (Or.inr (Or.inr (Or.inr (Or.inl h))))) (fun h => (Or.elim h (fun h => (Or.inr (Or.inr (Or.inr (Or.inr (Or.inl h)))))) (fun h => (Or.inr (Or.inr (Or.inr (Or.inr (Or.inr (Or.inl h)))))))))))))))  h)
        exact (fr_WF_pour_L37 (fun k j hk => hW k j (Or.elim hk (fun h => (Or.inl ⟨(h).1, (h).2⟩)) (fun h => (Or.elim h (fun h => (Or.inr (Or.inl ⟨(h).1, (Or.inr (Or.inr (h).2))⟩))) (fun h => (Or.elim h (fun h => (Or.inr (Or.inr (Or.inr (Or.inr (Or.inr (Or.inr (Or.inl ⟨(h).1, (Or.elim (h).2 (fun h => (Or.inl h)) (fun h => (Or.inr h)))⟩)))))))) (fun h => (Or.elim h (fun h => (Or.inr (Or.inr (Or.inr (Or.inr (Or.inr (Or.inr (Or.inr (Or.inl ⟨(h).1, (Or.elim (h).2 (fun h => (Or.inl h)) (fun h => (Or.elim h (fun h => (Or.inr (Or.inl h))) (fun h => (Or.inr (Or.inr h))))))⟩))))))))) (fun h => (Or.elim h (fun h => (Or.inr (Or.inr (Or.inr (Or.inr (Or.inr (Or.inr (Or.inr (Or.inr (Or.inl h)))))))))) (fun h => (Or.elim h (fun h => (Or.inr (Or.inr (Or.inr (Or.inr (Or.inr (Or.inr (Or.inr (Or.inr (Or.inr (Or.inl h))))))))))) (fun h => (Or.elim h (fun h => (Or.inr (Or.inr (Or.inr (Or.inr (Or.inr (Or.inr (Or.inr (Or.inr (Or.inr (Or.inr (Or.inl h)))))))))))) (fun h => (Or.inr (Or.inr (Or.inr (Or.inr (Or.inr (Or.inr (Or.inr (Or.inr (Or.inr (Or.inr (Or.inr h))))))))))))))))))))))))))  _ _ _ _ h_q6)
      · exact post_some h
def W_WF_drain : Nat → Int → Prop := fun k j => (k = 47 ∧ (j = 6)) ∨ (k = 70 ∧ (j = 1 ∨ j = 2)) ∨ ((72 ≤ k ∧ k ≤ 167) ∧ (j = 4 ∨ j = 5 ∨ j = 6)) ∨ (73 ≤ k ∧ k ≤ 168) ∨ (74 ≤ k ∧ k ≤ 169) ∨ (75 ≤ k ∧ k ≤ 170) ∨ (76 ≤ k ∧ k ≤ 171)
theorem fr_WF_drain  {W : Nat → Int → Prop} {M0 : Mem} (hW : ∀ k j, (W_WF_drain) k j → W k j)  {M : Mem} (h : Fr W M0 M) : Fr W M0 (t_WF_drain M).1 := by
  show Pl (fun r => Fr W M0 r.1) (t_WF_drain M)
  unfold t_WF_drain
  refine pl_let (fun q1 _ => ?_)
  refine pl_ite (fun c_1 => ?_) (fun c_1 => ?_)
  · exact h
  · refine pl_let (fun q4 e_q4 => ?_)
    have h_q4 : Fr W M0 q4 := by rw [e_q4]; exact (fr_Past_remember (fun k j hk => hW k j (Or.elim hk (fun h => (Or.inr (Or.inl ⟨(h).1, (Or.elim (h).2 (fun h => (Or.inl h)) (fun h => (Or.inr h)))⟩))) (fun h => (Or.elim h (fun h => (Or.inr (Or.inr (Or.inl ⟨(h).1, (Or.elim (h).2 (fun h => (Or.inl h)) (fun h => (Or.elim h (fun h => (Or.inr (Or.inl h))) (fun h => (Or.inr (Or.inr h))))))⟩)))) (fun h => (Or.elim h (fun h => (Or.inr (Or.inr (Or.inr (Or.inl h))))) (fun h => (Or.elim h (fun h => (Or.inr (Or.inr (Or.inr (Or.inr (Or.inl h)))))) (fun h => (Or.elim h (fun h => (Or.inr (Or.inr (Or.inr (Or.inr (Or.inr (Or.inl h))))))) (fun h => (Or.inr (Or.inr (Or.inr (Or.inr (Or.inr (Or.inr h)))))))))))))))))  h)
    refine pl_let (fun M6 e_M6 => ?_)
    have h_M6 : Fr W M0 M6 := by rw [e_M6]; exact Fr.setL h_q4 (hW _ _ (Or.inl ⟨rfl, rfl⟩))
    exact h_M6
def W_WF_flood : Nat → Int → Prop := fun k j => (k = 52 ∧ (j = 4 ∨ j = 5 ∨ j = 6)) ∨ k = 53 ∨ k = 54 ∨ k = 55 ∨ k = 56
theorem fr_WF_flood {x1 : Int} {x2 : Int} {W : Nat → Int → Prop} {M0 : Mem} (hW : ∀ k j, (W_WF_flood) k j → W k j)  {M : Mem} (h : Fr W M0 M) : Post (fun r => Fr W M0 r.1) (t_WF_flood M x1 x2) := by
  unfold t_WF_flood
  refine post_let (fun q2 _ => ?_)
  refine post_ite (fun c_1 => ?_) (fun c_1 => ?_)
  · exact post_some h
  · refine post_let (fun q5 _ => ?_)
    refine post_ite (fun c_2 => ?_) (fun c_2 => ?_)
    · exact post_some h
    · refine post_let (fun q8 e_q8 => ?_)
      have h_q8 : Fr W M0 q8 := by rw [e_q8]; exact (fr_Scene_copy (fun k j hk => hW k j (Or.elim hk (fun h => (Or.inl ⟨(h).1, (Or.elim (h).2 (fun h => (Or.inl h)) (fun h => (Or.elim h (fun h => (Or.inr (Or.inl h))) (fun h => (Or.inr (Or.inr h))))))⟩)) (fun h => (Or.elim h (fun h => (Or.inr (Or.inl h))) (fun h => (Or.elim h (fun h => (Or.inr (Or.inr (Or.inl h)))) (fun h => (Or.elim h (fun h => (Or.inr (Or.inr (Or.inr (Or.inl h))))) (fun h => (Or.inr (Or.inr (Or.inr (Or.inr h)))))))))))))  h)
      refine post_let (fun q10 e_q10 => ?_)
      have h_q10 : Fr W M0 q10 := by rw [e_q10]; exact (fr_WF_put (fun k j hk => hW k j (Or.inr (Or.inl hk)))  h_q8)
      refine post_bind (Q := fun r => Fr W M0 r) (fr_Scene_pourAnew (fun k j hk => hW k j (Or.inl ⟨(hk).1, (Or.inr (Or.inr (hk).2))⟩))  h_q10) (fun q13 h_q13 => ?_)
      exact post_some h_q13
def W_Paths_spread_L70 : Nat → Int → Prop := fun k j => False
theorem fr_Paths_spread_L70 {k1 : Nat} {bk4 : Mem → Int → Int → Option (Mem × Int)} {bk15 : Mem → Int → Int → Int → Option (Mem × Int)} {v2_ : Int} {v3_ : Int} {v4_ : Int} {W : Nat → Int → Prop} {M0 : Mem} (hW : ∀ k j, (W_Paths_spread_L70) k j → W k j) (hbk4 : ∀ (a0_ : Mem) (a1_ : Int) (a2_ : Int), Fr W M0 a0_ → Post (fun r => Fr W M0 r.1) (bk4 a0_ a1_ a2_)) (hbk15 : ∀ (a0_ : Mem) (a1_ : Int) (a2_ : Int) (a3_ : Int), Fr W M0 a0_ → Post (fun r => Fr W M0 r.1) (bk15 a0_ a1_ a2_ a3_)) {M : Mem} (h : Fr W M0 M) : Post (fun r => Fr W M0 r.1) (t_Paths_spread_L70 k1 bk4 bk15 M v2_ v3_ v4_) := by
  unfold t_Paths_spread_L70
  exact hbk15 _ _ _ _ h
def W_Paths_spread_L58 : Nat → Int → Prop := fun k j => k = 187
theorem fr_Paths_spread_L58 {k1 : Nat} {bk4 : Mem → Int → Int → Option (Mem × Int)} {bk15 : Mem → Int → Int → Int → Option (Mem × Int)} {v2_ : Int} {v3_ : Int} {v4_ : Int} {W : Nat → Int → Prop} {M0 : Mem} (hW : ∀ k j, (W_Paths_spread_L58) k j → W k j) (hbk4 : ∀ (a0_ : Mem) (a1_ : Int) (a2_ : Int), Fr W M0 a0_ → Post (fun r => Fr W M0 r.1) (bk4 a0_ a1_ a2_)) (hbk15 : ∀ (a0_ : Mem) (a1_ : Int) (a2_ : Int) (a3_ : Int), Fr W M0 a0_ → Post (fun r => Fr W M0 r.1) (bk15 a0_ a1_ a2_ a3_)) {M : Mem} (h : Fr W M0 M) : Post (fun r => Fr W M0 r.1) (t_Paths_spread_L58 k1 bk4 bk15 M v2_ v3_ v4_) := by
  unfold t_Paths_spread_L58
  refine post_let (fun q11 e_q11 => ?_)
  have h_q11 : Fr W M0 q11 := by rw [e_q11]; exact (fr_WF_put (fun k j hk => hW k j hk)  h)
  exact (fr_Paths_spread_L70 (fun k j hk => hk.elim) hbk4 hbk15 h_q11)
def W_Paths_spread_L15 : Nat → Int → Prop := fun k j => k = 187
theorem fr_Paths_spread_L15 {k1 : Nat} {bk4 : Mem → Int → Int → Option (Mem × Int)} {W : Nat → Int → Prop} {M0 : Mem} (hW : ∀ k j, (W_Paths_spread_L15) k j → W k j) (hbk4 : ∀ (a0_ : Mem) (a1_ : Int) (a2_ : Int), Fr W M0 a0_ → Post (fun r => Fr W M0 r.1) (bk4 a0_ a1_ a2_)) : ∀ (fu : Nat) (M : Mem) (v2_ : Int) (v3_ : Int) (v4_ : Int), Fr W M0 M → Post (fun r => Fr W M0 r.1) (t_Paths_spread_L15 k1 bk4 fu M v2_ v3_ v4_) := by
  intro fu
  induction fu with
  | zero => intro M v2_ v3_ v4_ h; exact post_none
  | succ fu ih =>
    intro M v2_ v3_ v4_ h
    rw [t_Paths_spread_L15]
    refine post_ite (fun c_1 => ?_) (fun c_1 => ?_)
    · exact hbk4 _ _ _ h
    · refine post_let (fun q4 _ => ?_)
      refine post_let (fun q6 _ => ?_)
      refine post_ite (fun c_2 => ?_) (fun c_2 => ?_)
      · exact (fr_Paths_spread_L70 (fun k j hk => hk.elim) hbk4 (fun a0_ a1_ a2_ a3_ h9 => ih a0_ a1_ a2_ a3_ h9) h)
      · refine post_ite (fun c_3 => ?_) (fun c_3 => ?_)
        · exact (fr_Paths_spread_L58 (fun k j hk => hW k j hk) hbk4 (fun a0_ a1_ a2_ a3_ h9 => ih a0_ a1_ a2_ a3_ h9) h)
        · refine post_ite (fun c_4 => ?_) (fun c_4 => ?_)
          · exact (fr_Paths_spread_L70 (fun k j hk => hk.elim) hbk4 (fun a0_ a1_ a2_ a3_ h9 => ih a0_ a1_ a2_ a3_ h9) h)
          · exact (fr_Paths_spread_L58 (fun k j hk => hW k j hk) hbk4 (fun a0_ a1_ a2_ a3_ h9 => ih a0_ a1_ a2_ a3_ h9) h)
def W_Paths_spread_L4 : Nat → Int → Prop := fun k j => k = 187
theorem fr_Paths_spread_L4 {k1 : Nat} {W : Nat → Int → Prop} {M0 : Mem} (hW : ∀ k j, (W_Paths_spread_L4) k j → W k j)  : ∀ (fu : Nat) (M : Mem) (v2_ : Int) (v3_ : Int), Fr W M0 M → Post (fun r => Fr W M0 r.1) (t_Paths_spread_L4 k1 fu M v2_ v3_) := by
  intro fu
  induction fu with
  | zero => intro M v2_ v3_ h; exact post_none
  | succ fu ih =>
    intro M v2_ v3_ h
    rw [t_Paths_spread_L4]
    refine post_ite (fun c_1 => ?_) (fun c_1 => ?_)
    · exact post_some h
    · exact (fr_Paths_spread_L15 (fun k j hk => hW k j hk) (fun a0_ a1_ a2_ h9 => ih a0_ a1_ a2_ h9) _ _ _ _ _ h)
def W_Paths_spread : Nat → Int → Prop := fun k j => k = 187
theorem fr_Paths_spread {k1 : Nat} {W : Nat → Int → Prop} {M0 : Mem} (hW : ∀ k j, (W_Paths_spread) k j → W k j)  {M : Mem} (h : Fr W M0 M) : Post (fun r => Fr W M0 r.1) (t_Paths_spread M k1) := by
  unfold t_Paths_spread
  exact (fr_Paths_spread_L4 (fun k j hk => hW k j hk)  _ _ _ _ h)
def W_Paths_trace_L76 : Nat → Int → Prop := fun k j => False
theorem fr_Paths_trace_L76 {k1 : Nat} {x2 : Int} {bk5 : Mem → Int → Int → Option (Mem)} {v2_ : Int} {v3_ : Int} {v4_ : Int} {W : Nat → Int → Prop} {M0 : Mem} (hW : ∀ k j, (W_Paths_trace_L76) k j → W k j) (hbk5 : ∀ (a0_ : Mem) (a1_ : Int) (a2_ : Int), Fr W M0 a0_ → Post (fun r => Fr W M0 r) (bk5 a0_ a1_ a2_)) {M : Mem} (h : Fr W M0 M) : Post (fun r => Fr W M0 r) (t_Paths_trace_L76 k1 x2 bk5 M v2_ v3_ v4_) := by
  unfold t_Paths_trace_L76
  refine post_let (fun q14 _ => ?_)
  exact hbk5 _ _ _ h
def W_Paths_trace_L45 : Nat → Int → Prop := fun k j => False
theorem fr_Paths_trace_L45 {k1 : Nat} {x2 : Int} {bk5 : Mem → Int → Int → Option (Mem)} {W : Nat → Int → Prop} {M0 : Mem} (hW : ∀ k j, (W_Paths_trace_L45) k j → W k j) (hbk5 : ∀ (a0_ : Mem) (a1_ : Int) (a2_ : Int), Fr W M0 a0_ → Post (fun r => Fr W M0 r) (bk5 a0_ a1_ a2_)) : ∀ (fu : Nat) (M : Mem) (v2_ : Int) (v3_ : Int) (v4_ : Int), Fr W M0 M → Post (fun r => Fr W M0 r) (t_Paths_trace_L45 k1 x2 bk5 fu M v2_ v3_ v4_) := by
  intro fu
  induction fu with
  | zero => intro M v2_ v3_ v4_ h; exact post_none
  | succ fu ih =>
    intro M v2_ v3_ v4_ h
    rw [t_Paths_trace_L45]
    refine post_ite (fun c_1 => ?_) (fun c_1 => ?_)
    · exact (fr_Paths_trace_L76 (fun k j hk => hk.elim) hbk5 h)
    · refine post_let (fun q9 _ => ?_)
      refine post_let (fun q11 _ => ?_)
      refine post_ite (fun c_2 => ?_) (fun c_2 => ?_)
      · exact (fr_Paths_trace_L76 (fun k j hk => hk.elim) hbk5 h)
      · exact (ih _ _ _ _ h)
def W_Paths_trace_L5 : Nat → Int → Prop := fun k j => (k = 185 ∧ (j = 3)) ∨ k = 188
theorem fr_Paths_trace_L5 {k1 : Nat} {x2 : Int} {W : Nat → Int → Prop} {M0 : Mem} (hW : ∀ k j, (W_Paths_trace_L5) k j → W k j)  : ∀ (fu : Nat) (M : Mem) (v2_ : Int) (v3_ : Int), Fr W M0 M → Post (fun r => Fr W M0 r) (t_Paths_trace_L5 k1 x2 fu M v2_ v3_) := by
  intro fu
  induction fu with
  | zero => intro M v2_ v3_ h; exact post_none
  | succ fu ih =>
    intro M v2_ v3_ h
    rw [t_Paths_trace_L5]
    refine post_ite (fun c_1 => ?_) (fun c_1 => ?_)
    · exact post_some h
    · refine post_let (fun q2 e_q2 => ?_)
      have h_q2 : Fr W M0 q2 := by rw [e_q2]; exact (fr_WF_put (fun k j hk => hW k j (Or.inr hk))  h)
      refine post_let (fun M4 e_M4 => ?_)
      have h_M4 : Fr W M0 M4 := by rw [e_M4]; exact Fr.setI h_q2 (hW _ _ (Or.inl ⟨rfl, rfl⟩))
      refine post_let (fun q5 _ => ?_)
      refine post_ite (fun c_2 => ?_) (fun c_2 => ?_)
      · exact post_some h_M4
      · exact (fr_Paths_trace_L45 (fun k j hk => hk.elim) (fun a0_ a1_ a2_ h9 => ih a0_ a1_ a2_ h9) _ _ _ _ _ h_M4)
def W_Paths_trace : Nat → Int → Prop := fun k j => (k = 185 ∧ (j = 3)) ∨ k = 188
theorem fr_Paths_trace {k1 : Nat} {x2 : Int} {W : Nat → Int → Prop} {M0 : Mem} (hW : ∀ k j, (W_Paths_trace) k j → W k j)  {M : Mem} (h : Fr W M0 M) : Post (fun r => Fr W M0 r) (t_Paths_trace M k1 x2) := by
  unfold t_Paths_trace
  exact (fr_Paths_trace_L5 (fun k j hk => hW k j (Or.elim hk (fun h => (Or.inl ⟨(h).1, (h).2⟩)) (fun h => (Or.inr h))))  _ _ _ _ h)
def W_Paths_find_L48 : Nat → Int → Prop := fun k j => (k = 185 ∧ (j = 3 ∨ j = 4)) ∨ k = 188
theorem fr_Paths_find_L48 {k1 : Nat} {x2 : Int} {x3 : Int} {W : Nat → Int → Prop} {M0 : Mem} (hW : ∀ k j, (W_Paths_find_L48) k j → W k j)  {M : Mem} (h : Fr W M0 M) : Post (fun r => Fr W M0 r) (t_Paths_find_L48 k1 x2 x3 M) := by
  unfold t_Paths_find_L48
  refine post_let (fun M9 e_M9 => ?_)
  have h_M9 : Fr W M0 M9 := by rw [e_M9]; exact Fr.setI h (hW _ _ (Or.inl ⟨rfl, (Or.inl rfl)⟩))
  refine post_let (fun q10 _ => ?_)
  refine post_let (fun M12 e_M12 => ?_)
  have h_M12 : Fr W M0 M12 := by rw [e_M12]; exact Fr.setI h_M9 (hW _ _ (Or.inl ⟨rfl, (Or.inr rfl)⟩))
  refine post_let (fun q13 _ => ?_)
  refine post_ite (fun c_1 => ?_) (fun c_1 => ?_)
  · exact post_some h_M12
  · refine post_bind (Q := fun r => Fr W M0 r) (fr_Paths_trace (fun k j hk => hW k j (Or.elim hk (fun h => (Or.inl ⟨(h).1, (Or.inl (h).2)⟩)) (fun h => (Or.inr h))))  h_M12) (fun q16 h_q16 => ?_)
    exact post_some h_q16
def W_Paths_find_L23 : Nat → Int → Prop := fun k j => (k = 185 ∧ (j = 3 ∨ j = 4)) ∨ k = 187 ∨ k = 188
theorem fr_Paths_find_L23 {k1 : Nat} {x2 : Int} {x3 : Int} {W : Nat → Int → Prop} {M0 : Mem} (hW : ∀ k j, (W_Paths_find_L23) k j → W k j)  : ∀ (fu : Nat) (M : Mem) (v3_ : Int) (v4_ : Int), Fr W M0 M → Post (fun r => Fr W M0 r) (t_Paths_find_L23 k1 x2 x3 fu M v3_ v4_) := by
  intro fu
  induction fu with
  | zero => intro M v3_ v4_ h; exact post_none
  | succ fu ih =>
    intro M v3_ v4_ h
    rw [t_Paths_find_L23]
    refine post_ite (fun c_1 => ?_) (fun c_1 => ?_)
    · exact (fr_Paths_find_L48 (fun k j hk => hW k j (Or.elim hk (fun h => (Or.inl ⟨(h).1, (Or.elim (h).2 (fun h => (Or.inl h)) (fun h => (Or.inr h)))⟩)) (fun h => (Or.inr (Or.inr h)))))  h)
    · refine post_ite (fun c_2 => ?_) (fun c_2 => ?_)
      · exact (fr_Paths_find_L48 (fun k j hk => hW k j (Or.elim hk (fun h => (Or.inl ⟨(h).1, (Or.elim (h).2 (fun h => (Or.inl h)) (fun h => (Or.inr h)))⟩)) (fun h => (Or.inr (Or.inr h)))))  h)
      · refine post_bind (Q := fun r => Fr W M0 r.1) (fr_Paths_spread (fun k j hk => hW k j (Or.inr (Or.inl hk)))  h) (fun q7 h_q7 => ?_)
        exact (ih _ _ _ h_q7)
def W_Paths_find : Nat → Int → Prop := fun k j => (k = 185 ∧ (j = 3 ∨ j = 4)) ∨ k = 187 ∨ k = 188
theorem fr_Paths_find {k1 : Nat} {x2 : Int} {x3 : Int} {W : Nat → Int → Prop} {M0 : Mem} (hW : ∀ k j, (W_Paths_find) k j → W k j)  {M : Mem} (h : Fr W M0 M) : Post (fun r => Fr W M0 r) (t_Paths_find M k1 x2 x3) := by
  unfold t_Paths_find
  refine post_bind (Q := fun r => Fr W M0 r) (fr_Arrays_fill (fun k j hk => hW k j (Or.inr (Or.inl hk)))  h) (fun q1 h_q1 => ?_)
  refine post_let (fun q3 e_q3 => ?_)
  have h_q3 : Fr W M0 q3 := by rw [e_q3]; exact (fr_WF_put (fun k j hk => hW k j (Or.inr (Or.inl hk)))  h_q1)
  exact (fr_Paths_find_L23 (fun k j hk => hW k j (Or.elim hk (fun h => (Or.inl ⟨(h).1, (Or.elim (h).2 (fun h => (Or.inl h)) (fun h => (Or.inr h)))⟩)) (fun h => (Or.elim h (fun h => (Or.inr (Or.inl h))) (fun h => (Or.inr (Or.inr h)))))))  _ _ _ _ h_q3)
def W_Paths_walkTo_L59 : Nat → Int → Prop := fun k j => k = 186
theorem fr_Paths_walkTo_L59 {k1 : Nat} {k2 : Nat} {x3 : Int} {x4 : Int} {bk3 : Mem → Int → Option (Mem)} {bk15 : Mem → Int → Int → Option (Mem)} {v5_ : Int} {v6_ : Int} {v8_ : Int} {v9_ : Int} {W : Nat → Int → Prop} {M0 : Mem} (hW : ∀ k j, (W_Paths_walkTo_L59) k j → W k j) (hbk3 : ∀ (a0_ : Mem) (a1_ : Int), Fr W M0 a0_ → Post (fun r => Fr W M0 r) (bk3 a0_ a1_)) (hbk15 : ∀ (a0_ : Mem) (a1_ : Int) (a2_ : Int), Fr W M0 a0_ → Post (fun r => Fr W M0 r) (bk15 a0_ a1_ a2_)) {M : Mem} (h : Fr W M0 M) : Post (fun r => Fr W M0 r) (t_Paths_walkTo_L59 k1 k2 x3 x4 bk3 bk15 M v5_ v6_ v8_ v9_) := by
  unfold t_Paths_walkTo_L59
  refine post_let (fun q11 e_q11 => ?_)
  have h_q11 : Fr W M0 q11 := by rw [e_q11]; exact (fr_WF_put (fun k j hk => hW k j hk)  h)
  exact hbk15 _ _ _ h_q11
def W_Paths_walkTo_L15 : Nat → Int → Prop := fun k j => k = 186
theorem fr_Paths_walkTo_L15 {k1 : Nat} {k2 : Nat} {x3 : Int} {x4 : Int} {bk3 : Mem → Int → Option (Mem)} {W : Nat → Int → Prop} {M0 : Mem} (hW : ∀ k j, (W_Paths_walkTo_L15) k j → W k j) (hbk3 : ∀ (a0_ : Mem) (a1_ : Int), Fr W M0 a0_ → Post (fun r => Fr W M0 r) (bk3 a0_ a1_)) : ∀ (fu : Nat) (M : Mem) (v5_ : Int) (v6_ : Int), Fr W M0 M → Post (fun r => Fr W M0 r) (t_Paths_walkTo_L15 k1 k2 x3 x4 bk3 fu M v5_ v6_) := by
  intro fu
  induction fu with
  | zero => intro M v5_ v6_ h; exact post_none
  | succ fu ih =>
    intro M v5_ v6_ h
    rw [t_Paths_walkTo_L15]
    refine post_ite (fun c_1 => ?_) (fun c_1 => ?_)
    · exact hbk3 _ _ h
    · refine post_let (fun q6 _ => ?_)
      refine post_let (fun q8 _ => ?_)
      refine post_ite (fun c_2 => ?_) (fun c_2 => ?_)
      · exact (fr_Paths_walkTo_L59 (fun k j hk => hW k j hk) hbk3 (fun a0_ a1_ a2_ h9 => ih a0_ a1_ a2_ h9) h)
      · exact (fr_Paths_walkTo_L59 (fun k j hk => hW k j hk) hbk3 (fun a0_ a1_ a2_ h9 => ih a0_ a1_ a2_ h9) h)
def W_Paths_walkTo_L3 : Nat → Int → Prop := fun k j => (k = 185 ∧ (j = 3 ∨ j = 4)) ∨ k = 186 ∨ k = 187 ∨ k = 188
theorem fr_Paths_walkTo_L3 {k1 : Nat} {k2 : Nat} {x3 : Int} {x4 : Int} {W : Nat → Int → Prop} {M0 : Mem} (hW : ∀ k j, (W_Paths_walkTo_L3) k j → W k j)  : ∀ (fu : Nat) (M : Mem) (v5_ : Int), Fr W M0 M → Post (fun r => Fr W M0 r) (t_Paths_walkTo_L3 k1 k2 x3 x4 fu M v5_) := by
  intro fu
  induction fu with
  | zero => intro M v5_ h; exact post_none
  | succ fu ih =>
    intro M v5_ h
    rw [t_Paths_walkTo_L3]
    refine post_ite (fun c_1 => ?_) (fun c_1 => ?_)
    · refine post_bind (Q := fun r => Fr W M0 r) (fr_Paths_find (fun k j hk => hW k j (Or.elim hk (fun h => (Or.inl ⟨(h).1, (Or.elim (h).2 (fun h => (Or.inl h)) (fun h => (Or.inr h)))⟩)) (fun h => (Or.elim h (fun h => (Or.inr (Or.inr (Or.inl h)))) (fun h => (Or.inr (Or.inr (Or.inr h))))))))  h) (fun q3 h_q3 => ?_)
      exact post_some h_q3
    · exact (fr_Paths_walkTo_L15 (fun k j hk => hW k j (Or.inr (Or.inl hk))) (fun a0_ a1_ h9 => ih a0_ a1_ h9) _ _ _ _ h)
def W_Paths_walkTo : Nat → Int → Prop := fun k j => (k = 185 ∧ (j = 3 ∨ j = 4)) ∨ k = 186 ∨ k = 187 ∨ k = 188
theorem fr_Paths_walkTo {k1 : Nat} {k2 : Nat} {x3 : Int} {x4 : Int} {W : Nat → Int → Prop} {M0 : Mem} (hW : ∀ k j, (W_Paths_walkTo) k j → W k j)  {M : Mem} (h : Fr W M0 M) : Post (fun r => Fr W M0 r) (t_Paths_walkTo M k1 k2 x3 x4) := by
  unfold t_Paths_walkTo
  exact (fr_Paths_walkTo_L3 (fun k j hk => hW k j (Or.elim hk (fun h => (Or.inl ⟨(h).1, (Or.elim (h).2 (fun h => (Or.inl h)) (fun h => (Or.inr h)))⟩)) (fun h => (Or.elim h (fun h => (Or.inr (Or.inl h))) (fun h => (Or.elim h (fun h => (Or.inr (Or.inr (Or.inl h)))) (fun h => (Or.inr (Or.inr (Or.inr h))))))))))  _ _ _ h)
def W_WF_walk : Nat → Int → Prop := fun k j => (k = 185 ∧ (j = 3 ∨ j = 4)) ∨ k = 186 ∨ k = 187 ∨ k = 188
theorem fr_WF_walk {x1 : Int} {x2 : Int} {W : Nat → Int → Prop} {M0 : Mem} (hW : ∀ k j, (W_WF_walk) k j → W k j)  {M : Mem} (h : Fr W M0 M) : Post (fun r => Fr W M0 r.1) (t_WF_walk M x1 x2) := by
  unfold t_WF_walk
  refine post_let (fun q1 _ => ?_)
  refine post_ite (fun c_1 => ?_) (fun c_1 => ?_)
  · exact post_some h
  · refine post_bind (Q := fun r => Fr W M0 r) (fr_Paths_walkTo (fun k j hk => hW k j (Or.elim hk (fun h => (Or.inl ⟨(h).1, (Or.elim (h).2 (fun h => (Or.inl h)) (fun h => (Or.inr h)))⟩)) (fun h => (Or.elim h (fun h => (Or.inr (Or.inl h))) (fun h => (Or.elim h (fun h => (Or.inr (Or.inr (Or.inl h)))) (fun h => (Or.inr (Or.inr (Or.inr h))))))))))  h) (fun q5 h_q5 => ?_)
    refine post_ite (fun c_2 => ?_) (fun c_2 => ?_)
    · exact post_some h_q5
    · exact post_some h_q5
def W_WF_step : Nat → Int → Prop := fun k j => (k = 185 ∧ (j = 3 ∨ j = 4)) ∨ k = 186 ∨ k = 187 ∨ k = 188
theorem fr_WF_step {x1 : Int} {x2 : Int} {x3 : Int} {W : Nat → Int → Prop} {M0 : Mem} (hW : ∀ k j, (W_WF_step) k j → W k j)  {M : Mem} (h : Fr W M0 M) : Post (fun r => Fr W M0 r.1) (t_WF_step M x1 x2 x3) := by
  unfold t_WF_step
  refine post_let (fun q1 _ => ?_)
  refine post_ite (fun c_1 => ?_) (fun c_1 => ?_)
  · exact post_some h
  · refine post_ite (fun c_2 => ?_) (fun c_2 => ?_)
    · refine post_bind (Q := fun r => Fr W M0 r) (fr_Paths_walkTo (fun k j hk => hW k j (Or.elim hk (fun h => (Or.inl ⟨(h).1, (Or.elim (h).2 (fun h => (Or.inl h)) (fun h => (Or.inr h)))⟩)) (fun h => (Or.elim h (fun h => (Or.inr (Or.inl h))) (fun h => (Or.elim h (fun h => (Or.inr (Or.inr (Or.inl h)))) (fun h => (Or.inr (Or.inr (Or.inr h))))))))))  h) (fun q6 h_q6 => ?_)
      refine post_let (fun q8 _ => ?_)
      exact post_some h_q6
    · exact post_some h
def W_Laws_pushAll_L124 (r4 : Nat) : Nat → Int → Prop := fun k j => k = r4
theorem fr_Laws_pushAll_L124 {k1 : Nat} {k2 : Nat} {x3 : Int} {r4 : Nat} {N4 : Nat} {bk3 : Mem → Int → Option (Mem)} {bk24 : Mem → Int → Int → Int → Option (Mem)} {v5_ : Int} {v6_ : Int} {v7_ : Int} {v8_ : Int} {W : Nat → Int → Prop} {M0 : Mem} (hW : ∀ k j, (W_Laws_pushAll_L124 r4) k j → W k j) (hbk3 : ∀ (a0_ : Mem) (a1_ : Int), Fr W M0 a0_ → Post (fun r => Fr W M0 r) (bk3 a0_ a1_)) (hbk24 : ∀ (a0_ : Mem) (a1_ : Int) (a2_ : Int) (a3_ : Int), Fr W M0 a0_ → Post (fun r => Fr W M0 r) (bk24 a0_ a1_ a2_ a3_)) {M : Mem} (h : Fr W M0 M) : Post (fun r => Fr W M0 r) (t_Laws_pushAll_L124 k1 k2 x3 r4 N4 bk3 bk24 M v5_ v6_ v7_ v8_) := by
  unfold t_Laws_pushAll_L124
  refine post_let (fun q18 e_q18 => ?_)
  have h_q18 : Fr W M0 q18 := by rw [e_q18]; exact (fr_WF_put (fun k j hk => hW k j hk)  h)
  exact hbk24 _ _ _ _ h_q18
def W_Laws_pushAll_L122 (r4 : Nat) : Nat → Int → Prop := fun k j => k = r4
theorem fr_Laws_pushAll_L122 {k1 : Nat} {k2 : Nat} {x3 : Int} {r4 : Nat} {N4 : Nat} {bk3 : Mem → Int → Option (Mem)} {bk24 : Mem → Int → Int → Int → Option (Mem)} {v5_ : Int} {v6_ : Int} {v7_ : Int} {v8_ : Int} {W : Nat → Int → Prop} {M0 : Mem} (hW : ∀ k j, (W_Laws_pushAll_L122 r4) k j → W k j) (hbk3 : ∀ (a0_ : Mem) (a1_ : Int), Fr W M0 a0_ → Post (fun r => Fr W M0 r) (bk3 a0_ a1_)) (hbk24 : ∀ (a0_ : Mem) (a1_ : Int) (a2_ : Int) (a3_ : Int), Fr W M0 a0_ → Post (fun r => Fr W M0 r) (bk24 a0_ a1_ a2_ a3_)) {M : Mem} (h : Fr W M0 M) : Post (fun r => Fr W M0 r) (t_Laws_pushAll_L122 k1 k2 x3 r4 N4 bk3 bk24 M v5_ v6_ v7_ v8_) := by
  unfold t_Laws_pushAll_L122
  exact (fr_Laws_pushAll_L124 (fun k j hk => hW k j hk) hbk3 hbk24 h)
def W_Laws_pushAll_L94 (r4 : Nat) : Nat → Int → Prop := fun k j => k = r4
theorem fr_Laws_pushAll_L94 {k1 : Nat} {k2 : Nat} {x3 : Int} {r4 : Nat} {N4 : Nat} {bk3 : Mem → Int → Option (Mem)} {bk24 : Mem → Int → Int → Int → Option (Mem)} {v5_ : Int} {v6_ : Int} {v7_ : Int} {v8_ : Int64} {W : Nat → Int → Prop} {M0 : Mem} (hW : ∀ k j, (W_Laws_pushAll_L94 r4) k j → W k j) (hbk3 : ∀ (a0_ : Mem) (a1_ : Int), Fr W M0 a0_ → Post (fun r => Fr W M0 r) (bk3 a0_ a1_)) (hbk24 : ∀ (a0_ : Mem) (a1_ : Int) (a2_ : Int) (a3_ : Int), Fr W M0 a0_ → Post (fun r => Fr W M0 r) (bk24 a0_ a1_ a2_ a3_)) {M : Mem} (h : Fr W M0 M) : Post (fun r => Fr W M0 r) (t_Laws_pushAll_L94 k1 k2 x3 r4 N4 bk3 bk24 M v5_ v6_ v7_ v8_) := by
  unfold t_Laws_pushAll_L94
  refine post_ite (fun c_1 => ?_) (fun c_1 => ?_)
  · exact (fr_Laws_pushAll_L122 (fun k j hk => hW k j hk) hbk3 hbk24 h)
  · exact (fr_Laws_pushAll_L122 (fun k j hk => hW k j hk) hbk3 hbk24 h)
def W_Laws_pushAll_L24 (k1 : Nat) (r4 : Nat) : Nat → Int → Prop := fun k j => k = 178 ∨ k = k1 + 13 ∨ k = r4
theorem fr_Laws_pushAll_L24 {k1 : Nat} {k2 : Nat} {x3 : Int} {r4 : Nat} {N4 : Nat} {bk3 : Mem → Int → Option (Mem)} {W : Nat → Int → Prop} {M0 : Mem} (hW : ∀ k j, (W_Laws_pushAll_L24 k1 r4) k j → W k j) (hbk3 : ∀ (a0_ : Mem) (a1_ : Int), Fr W M0 a0_ → Post (fun r => Fr W M0 r) (bk3 a0_ a1_)) : ∀ (fu : Nat) (M : Mem) (v5_ : Int) (v6_ : Int) (v7_ : Int), Fr W M0 M → Post (fun r => Fr W M0 r) (t_Laws_pushAll_L24 k1 k2 x3 r4 N4 bk3 fu M v5_ v6_ v7_) := by
  intro fu
  induction fu with
  | zero => intro M v5_ v6_ v7_ h; exact post_none
  | succ fu ih =>
    intro M v5_ v6_ v7_ h
    rw [t_Laws_pushAll_L24]
    refine post_ite (fun c_1 => ?_) (fun c_1 => ?_)
    · exact hbk3 _ _ h
    · refine post_let (fun q6 _ => ?_)
      refine post_ite (fun c_2 => ?_) (fun c_2 => ?_)
      · exact (fr_Laws_pushAll_L124 (fun k j hk => hW k j (Or.inr (Or.inr hk))) hbk3 (fun a0_ a1_ a2_ a3_ h9 => ih a0_ a1_ a2_ a3_ h9) h)
      · refine post_let (fun q9 _ => ?_)
        refine post_ite (fun c_3 => ?_) (fun c_3 => ?_)
        · refine post_let (fun q12 _ => ?_)
          refine post_ite (fun c_4 => ?_) (fun c_4 => ?_)
          · refine post_ite (fun c_5 => ?_) (fun c_5 => ?_)
            · exact (fr_Laws_pushAll_L94 (fun k j hk => hW k j (Or.inr (Or.inr hk))) hbk3 (fun a0_ a1_ a2_ a3_ h9 => ih a0_ a1_ a2_ a3_ h9) h)
            · refine post_bind (Q := fun r => Fr W M0 r.1) (fr_Laws_pushFrom (fun k j hk => hW k j (Or.elim hk (fun h => (Or.inl h)) (fun h => (Or.inr (Or.inl h)))))  h) (fun q16 h_q16 => ?_)
              exact (fr_Laws_pushAll_L94 (fun k j hk => hW k j (Or.inr (Or.inr hk))) hbk3 (fun a0_ a1_ a2_ a3_ h9 => ih a0_ a1_ a2_ a3_ h9) h_q16)
          · exact (fr_Laws_pushAll_L124 (fun k j hk => hW k j (Or.inr (Or.inr hk))) hbk3 (fun a0_ a1_ a2_ a3_ h9 => ih a0_ a1_ a2_ a3_ h9) h)
        · exact (fr_Laws_pushAll_L124 (fun k j hk => hW k j (Or.inr (Or.inr hk))) hbk3 (fun a0_ a1_ a2_ a3_ h9 => ih a0_ a1_ a2_ a3_ h9) h)
def W_Laws_pushAll_L3 (k1 : Nat) (r4 : Nat) : Nat → Int → Prop := fun k j => k = 178 ∨ k = k1 + 13 ∨ k = r4
theorem fr_Laws_pushAll_L3 {k1 : Nat} {k2 : Nat} {x3 : Int} {r4 : Nat} {N4 : Nat} {W : Nat → Int → Prop} {M0 : Mem} (hW : ∀ k j, (W_Laws_pushAll_L3 k1 r4) k j → W k j)  : ∀ (fu : Nat) (M : Mem) (v5_ : Int), Fr W M0 M → Post (fun r => Fr W M0 r) (t_Laws_pushAll_L3 k1 k2 x3 r4 N4 fu M v5_) := by
  intro fu
  induction fu with
  | zero => intro M v5_ h; exact post_none
  | succ fu ih =>
    intro M v5_ h
    rw [t_Laws_pushAll_L3]
    refine post_ite (fun c_1 => ?_) (fun c_1 => ?_)
    · exact post_some h
    · refine post_let (fun q3 _ => ?_)
      exact (fr_Laws_pushAll_L24 (fun k j hk => hW k j (Or.elim hk (fun h => (Or.inl h)) (fun h => (Or.elim h (fun h => (Or.inr (Or.inl h))) (fun h => (Or.inr (Or.inr h))))))) (fun a0_ a1_ h9 => ih a0_ a1_ h9) _ _ _ _ _ h)
def W_Laws_pushAll (k1 : Nat) (r4 : Nat) : Nat → Int → Prop := fun k j => k = 178 ∨ k = k1 + 13 ∨ k = r4
theorem fr_Laws_pushAll {k1 : Nat} {k2 : Nat} {x3 : Int} {r4 : Nat} {N4 : Nat} {W : Nat → Int → Prop} {M0 : Mem} (hW : ∀ k j, (W_Laws_pushAll k1 r4) k j → W k j)  {M : Mem} (h : Fr W M0 M) : Post (fun r => Fr W M0 r) (t_Laws_pushAll M k1 k2 x3 r4 N4) := by
  unfold t_Laws_pushAll
  exact (fr_Laws_pushAll_L3 (fun k j hk => hW k j (Or.elim hk (fun h => (Or.inl h)) (fun h => (Or.elim h (fun h => (Or.inr (Or.inl h))) (fun h => (Or.inr (Or.inr h)))))))  _ _ _ h)
def W_WF_findPushed (T : Nat) : Nat → Int → Prop := fun k j => k = 178 ∨ (k = 185 ∧ (j = 3 ∨ j = 4)) ∨ k = 186 ∨ k = 187 ∨ k = 188 ∨ k = T + 13
theorem fr_WF_findPushed {x1 : Int} {x2 : Int} {W : Nat → Int → Prop} {M0 : Mem} {T : Nat} (hW : ∀ k j, (W_WF_findPushed T) k j → W k j) (hT : M0.1 0 4 = (T : Int)) (h04 : ¬ W 0 4)  {M : Mem} (h : Fr W M0 M) : Post (fun r => Fr W M0 r) (t_WF_findPushed M x1 x2) := by
  unfold t_WF_findPushed
  have e04_1 : (M.1 0 4).toNat = T := by rw [(h 0 4 h04).1, hT]; rfl
  refine post_bind (Q := fun r => Fr W M0 r) (fr_Laws_pushAll (fun k j hk => hW k j (by unfold W_Laws_pushAll at hk; unfold W_WF_findPushed; rcases hk with hk | hk | hk <;> omega))  h) (fun q3 h_q3 => ?_)
  have e04_2 : (q3.1 0 4).toNat = T := by rw [(h_q3 0 4 h04).1, hT]; rfl
  refine post_bind (Q := fun r => Fr W M0 r) (fr_Paths_find (fun k j hk => hW k j (Or.elim hk (fun h => (Or.inr (Or.inl ⟨(h).1, (Or.elim (h).2 (fun h => (Or.inl h)) (fun h => (Or.inr h)))⟩))) (fun h => (Or.elim h (fun h => (Or.inr (Or.inr (Or.inr (Or.inl h))))) (fun h => (Or.inr (Or.inr (Or.inr (Or.inr (Or.inl h))))))))))  h_q3) (fun q6 h_q6 => ?_)
  exact post_some h_q6
def W_WF_push (T : Nat) : Nat → Int → Prop := fun k j => k = 178 ∨ (k = 185 ∧ (j = 3 ∨ j = 4)) ∨ k = 186 ∨ k = 187 ∨ k = 188 ∨ k = T + 13
theorem fr_WF_push {x1 : Int} {x2 : Int} {x3 : Int} {W : Nat → Int → Prop} {M0 : Mem} {T : Nat} (hW : ∀ k j, (W_WF_push T) k j → W k j) (hT : M0.1 0 4 = (T : Int)) (h04 : ¬ W 0 4)  {M : Mem} (h : Fr W M0 M) : Post (fun r => Fr W M0 r.1) (t_WF_push M x1 x2 x3) := by
  unfold t_WF_push
  refine post_let (fun q1 _ => ?_)
  refine post_ite (fun c_1 => ?_) (fun c_1 => ?_)
  · exact post_some h
  · refine post_let (fun q4 _ => ?_)
    refine post_ite (fun c_2 => ?_) (fun c_2 => ?_)
    · exact post_some h
    · refine post_ite (fun c_3 => ?_) (fun c_3 => ?_)
      · exact post_some h
      · refine post_ite (fun c_4 => ?_) (fun c_4 => ?_)
        · have e04_5 : (M.1 0 4).toNat = T := by rw [(h 0 4 h04).1, hT]; rfl
          refine post_bind (Q := fun r => Fr W M0 r) (fr_WF_findPushed (fun k j hk => hW k j (Or.elim hk (fun h => (Or.inl h)) (fun h => (Or.elim h (fun h => (Or.inr (Or.inl ⟨(h).1, (Or.elim (h).2 (fun h => (Or.inl h)) (fun h => (Or.inr h)))⟩))) (fun h => (Or.elim h (fun h => (Or.inr (Or.inr (Or.inl h)))) (fun h => (Or.elim h (fun h => (Or.inr (Or.inr (Or.inr (Or.inl h))))) (fun h => (Or.elim h (fun h => (Or.inr (Or.inr (Or.inr (Or.inr (Or.inl h)))))) (fun h => (Or.inr (Or.inr (Or.inr (Or.inr (Or.inr h)))))))))))))))) hT h04  h) (fun q9 h_q9 => ?_)
          refine post_ite (fun c_6 => ?_) (fun c_6 => ?_)
          · exact post_some h_q9
          · refine post_ite (fun c_7 => ?_) (fun c_7 => ?_)
            · exact post_some h_q9
            · exact post_some h_q9
        · exact post_some h
def W_WF_pushed (T : Nat) : Nat → Int → Prop := fun k j => k = 178 ∨ (k = 185 ∧ (j = 3 ∨ j = 4)) ∨ k = 186 ∨ k = 187 ∨ k = 188 ∨ k = T + 13
theorem fr_WF_pushed {x1 : Int} {x2 : Int} {x3 : Int} {W : Nat → Int → Prop} {M0 : Mem} {T : Nat} (hW : ∀ k j, (W_WF_pushed T) k j → W k j) (hT : M0.1 0 4 = (T : Int)) (h04 : ¬ W 0 4)  {M : Mem} (h : Fr W M0 M) : Post (fun r => Fr W M0 r.1) (t_WF_pushed M x1 x2 x3) := by
  unfold t_WF_pushed
  refine post_let (fun q1 _ => ?_)
  refine post_ite (fun c_1 => ?_) (fun c_1 => ?_)
  · exact post_some h
  · refine post_let (fun q4 _ => ?_)
    refine post_ite (fun c_2 => ?_) (fun c_2 => ?_)
    · exact post_some h
    · refine post_ite (fun c_3 => ?_) (fun c_3 => ?_)
      · have e04_4 : (M.1 0 4).toNat = T := by rw [(h 0 4 h04).1, hT]; rfl
        refine post_bind (Q := fun r => Fr W M0 r) (fr_WF_findPushed (fun k j hk => hW k j (Or.elim hk (fun h => (Or.inl h)) (fun h => (Or.elim h (fun h => (Or.inr (Or.inl ⟨(h).1, (Or.elim (h).2 (fun h => (Or.inl h)) (fun h => (Or.inr h)))⟩))) (fun h => (Or.elim h (fun h => (Or.inr (Or.inr (Or.inl h)))) (fun h => (Or.elim h (fun h => (Or.inr (Or.inr (Or.inr (Or.inl h))))) (fun h => (Or.elim h (fun h => (Or.inr (Or.inr (Or.inr (Or.inr (Or.inl h)))))) (fun h => (Or.inr (Or.inr (Or.inr (Or.inr (Or.inr h)))))))))))))))) hT h04  h) (fun q8 h_q8 => ?_)
        refine post_let (fun q10 _ => ?_)
        exact post_some h_q8
      · exact post_some h
def W_WF_war_L109 : Nat → Int → Prop := fun k j => False
theorem fr_WF_war_L109 {x1 : Int} {x2 : Int} {bk34 : Mem → Int → Int → Option (Mem × Int)} {v3_ : Int} {v4_ : Int} {W : Nat → Int → Prop} {M0 : Mem} (hW : ∀ k j, (W_WF_war_L109) k j → W k j) (hbk34 : ∀ (a0_ : Mem) (a1_ : Int) (a2_ : Int), Fr W M0 a0_ → Post (fun r => Fr W M0 r.1) (bk34 a0_ a1_ a2_)) {M : Mem} (h : Fr W M0 M) : Post (fun r => Fr W M0 r.1) (t_WF_war_L109 x1 x2 bk34 M v3_ v4_) := by
  unfold t_WF_war_L109
  exact hbk34 _ _ _ h
def W_WF_war_L34 : Nat → Int → Prop := fun k j => (k = 189 ∧ (j = 1 ∨ j = 2 ∨ j = 3 ∨ j = 4)) ∨ k = 190
theorem fr_WF_war_L34 {x1 : Int} {x2 : Int} {W : Nat → Int → Prop} {M0 : Mem} (hW : ∀ k j, (W_WF_war_L34) k j → W k j)  : ∀ (fu : Nat) (M : Mem) (v3_ : Int) (v4_ : Int), Fr W M0 M → Post (fun r => Fr W M0 r.1) (t_WF_war_L34 x1 x2 fu M v3_ v4_) := by
  intro fu
  induction fu with
  | zero => intro M v3_ v4_ h; exact post_none
  | succ fu ih =>
    intro M v3_ v4_ h
    rw [t_WF_war_L34]
    refine post_ite (fun c_1 => ?_) (fun c_1 => ?_)
    · exact post_some h
    · refine post_let (fun q14 _ => ?_)
      refine post_ite (fun c_2 => ?_) (fun c_2 => ?_)
      · refine post_let (fun q17 _ => ?_)
        refine post_ite (fun c_3 => ?_) (fun c_3 => ?_)
        · refine post_bind (Q := fun r => Fr W M0 r) (fr_Trail_follow (fun k j hk => hW k j (Or.elim hk (fun h => (Or.inl ⟨(h).1, (Or.elim (h).2 (fun h => (Or.inl h)) (fun h => (Or.elim h (fun h => (Or.inr (Or.inl h))) (fun h => (Or.elim h (fun h => (Or.inr (Or.inr (Or.inl h)))) (fun h => (Or.inr (Or.inr (Or.inr h)))))))))⟩)) (fun h => (Or.inr h))))  h) (fun q21 h_q21 => ?_)
          refine post_bindv (fun q24 => ?_)
          refine post_ite (fun c_4 => ?_) (fun c_4 => ?_)
          · exact (fr_WF_war_L109 (fun k j hk => hk.elim) (fun a0_ a1_ a2_ h9 => ih a0_ a1_ a2_ h9) h_q21)
          · exact (fr_WF_war_L109 (fun k j hk => hk.elim) (fun a0_ a1_ a2_ h9 => ih a0_ a1_ a2_ h9) h_q21)
        · exact (fr_WF_war_L109 (fun k j hk => hk.elim) (fun a0_ a1_ a2_ h9 => ih a0_ a1_ a2_ h9) h)
      · exact (fr_WF_war_L109 (fun k j hk => hk.elim) (fun a0_ a1_ a2_ h9 => ih a0_ a1_ a2_ h9) h)
def W_WF_war : Nat → Int → Prop := fun k j => (k = 189 ∧ (j = 1 ∨ j = 2 ∨ j = 3 ∨ j = 4)) ∨ k = 190
theorem fr_WF_war {x1 : Int} {x2 : Int} {W : Nat → Int → Prop} {M0 : Mem} (hW : ∀ k j, (W_WF_war) k j → W k j)  {M : Mem} (h : Fr W M0 M) : Post (fun r => Fr W M0 r.1) (t_WF_war M x1 x2) := by
  unfold t_WF_war
  refine post_let (fun q2 _ => ?_)
  refine post_ite (fun c_1 => ?_) (fun c_1 => ?_)
  · exact post_some h
  · refine post_let (fun q6 _ => ?_)
    refine post_ite (fun c_2 => ?_) (fun c_2 => ?_)
    · exact post_some h
    · refine post_ite (fun c_3 => ?_) (fun c_3 => ?_)
      · exact post_some h
      · exact (fr_WF_war_L34 (fun k j hk => hW k j (Or.elim hk (fun h => (Or.inl ⟨(h).1, (Or.elim (h).2 (fun h => (Or.inl h)) (fun h => (Or.elim h (fun h => (Or.inr (Or.inl h))) (fun h => (Or.elim h (fun h => (Or.inr (Or.inr (Or.inl h)))) (fun h => (Or.inr (Or.inr (Or.inr h)))))))))⟩)) (fun h => (Or.inr h))))  _ _ _ _ h)
def W_Trail_tryClock_L75 : Nat → Int → Prop := fun k j => False
theorem fr_Trail_tryClock_L75 {k0 : Nat} {k1 : Nat} {k2 : Nat} {x3 : Int} {x4 : Int} {bk3 : Mem → Int → Option (Mem)} {v5_ : Int} {W : Nat → Int → Prop} {M0 : Mem} (hW : ∀ k j, (W_Trail_tryClock_L75) k j → W k j) (hbk3 : ∀ (a0_ : Mem) (a1_ : Int), Fr W M0 a0_ → Post (fun r => Fr W M0 r) (bk3 a0_ a1_)) {M : Mem} (h : Fr W M0 M) : Post (fun r => Fr W M0 r) (t_Trail_tryClock_L75 k0 k1 k2 x3 x4 bk3 M v5_) := by
  unfold t_Trail_tryClock_L75
  exact hbk3 _ _ h
def W_Trail_tryClock_L3 (k0 : Nat) : Nat → Int → Prop := fun k j => (k = k0 ∧ (j = 1 ∨ j = 2 ∨ j = 3 ∨ j = 4 ∨ j = 5 ∨ j = 6 ∨ j = 7 ∨ j = 8)) ∨ k = k0 + 1
theorem fr_Trail_tryClock_L3 {k0 : Nat} {k1 : Nat} {k2 : Nat} {x3 : Int} {x4 : Int} {W : Nat → Int → Prop} {M0 : Mem} (hW : ∀ k j, (W_Trail_tryClock_L3 k0) k j → W k j)  : ∀ (fu : Nat) (M : Mem) (v5_ : Int), Fr W M0 M → Post (fun r => Fr W M0 r) (t_Trail_tryClock_L3 k0 k1 k2 x3 x4 fu M v5_) := by
  intro fu
  induction fu with
  | zero => intro M v5_ h; exact post_none
  | succ fu ih =>
    intro M v5_ h
    rw [t_Trail_tryClock_L3]
    refine post_ite (fun c_1 => ?_) (fun c_1 => ?_)
    · exact post_some h
    · refine post_let (fun q3 _ => ?_)
      refine post_ite (fun c_2 => ?_) (fun c_2 => ?_)
      · refine post_bind (Q := fun r => Fr W M0 r) (fr_Trail_follow (fun k j hk => hW k j (Or.elim hk (fun h => (Or.inl ⟨(h).1, (Or.elim (h).2 (fun h => (Or.inl h)) (fun h => (Or.elim h (fun h => (Or.inr (Or.inl h))) (fun h => (Or.elim h (fun h => (Or.inr (Or.inr (Or.inl h)))) (fun h => (Or.inr (Or.inr (Or.inr (Or.inl h))))))))))⟩)) (fun h => (Or.inr h))))  h) (fun q6 h_q6 => ?_)
        refine post_ite (fun c_3 => ?_) (fun c_3 => ?_)
        · refine post_ite (fun c_4 => ?_) (fun c_4 => ?_)
          · exact (fr_Trail_tryClock_L75 (fun k j hk => hk.elim) (fun a0_ a1_ h9 => ih a0_ a1_ h9) h_q6)
          · refine post_let (fun M14 e_M14 => ?_)
            have h_M14 : Fr W M0 M14 := by rw [e_M14]; exact Fr.setI h_q6 (hW _ _ (Or.inl ⟨rfl, (Or.inr (Or.inr (Or.inr (Or.inr (Or.inl rfl)))))⟩))
            refine post_let (fun M15 e_M15 => ?_)
            have h_M15 : Fr W M0 M15 := by rw [e_M15]; exact Fr.setI h_M14 (hW _ _ (Or.inl ⟨rfl, (Or.inr (Or.inr (Or.inr (Or.inr (Or.inr (Or.inl rfl))))))⟩))
            refine post_let (fun M16 e_M16 => ?_)
            have h_M16 : Fr W M0 M16 := by rw [e_M16]; exact Fr.setI h_M15 (hW _ _ (Or.inl ⟨rfl, (Or.inr (Or.inr (Or.inr (Or.inr (Or.inr (Or.inr (Or.inl rfl)))))))⟩))
            refine post_let (fun M17 e_M17 => ?_)
            have h_M17 : Fr W M0 M17 := by rw [e_M17]; exact Fr.setI h_M16 (hW _ _ (Or.inl ⟨rfl, (Or.inr (Or.inr (Or.inr (Or.inr (Or.inr (Or.inr (Or.inr rfl)))))))⟩))
            exact (fr_Trail_tryClock_L75 (fun k j hk => hk.elim) (fun a0_ a1_ h9 => ih a0_ a1_ h9) h_M17)
        · exact (fr_Trail_tryClock_L75 (fun k j hk => hk.elim) (fun a0_ a1_ h9 => ih a0_ a1_ h9) h_q6)
      · exact (fr_Trail_tryClock_L75 (fun k j hk => hk.elim) (fun a0_ a1_ h9 => ih a0_ a1_ h9) h)
def W_Trail_tryClock (k0 : Nat) : Nat → Int → Prop := fun k j => (k = k0 ∧ (j = 1 ∨ j = 2 ∨ j = 3 ∨ j = 4 ∨ j = 5 ∨ j = 6 ∨ j = 7 ∨ j = 8)) ∨ k = k0 + 1
theorem fr_Trail_tryClock {k0 : Nat} {k1 : Nat} {k2 : Nat} {x3 : Int} {x4 : Int} {W : Nat → Int → Prop} {M0 : Mem} (hW : ∀ k j, (W_Trail_tryClock k0) k j → W k j)  {M : Mem} (h : Fr W M0 M) : Post (fun r => Fr W M0 r) (t_Trail_tryClock M k0 k1 k2 x3 x4) := by
  unfold t_Trail_tryClock
  exact (fr_Trail_tryClock_L3 (fun k j hk => hW k j (Or.elim hk (fun h => (Or.inl ⟨(h).1, (Or.elim (h).2 (fun h => (Or.inl h)) (fun h => (Or.elim h (fun h => (Or.inr (Or.inl h))) (fun h => (Or.elim h (fun h => (Or.inr (Or.inr (Or.inl h)))) (fun h => (Or.elim h (fun h => (Or.inr (Or.inr (Or.inr (Or.inl h))))) (fun h => (Or.elim h (fun h => (Or.inr (Or.inr (Or.inr (Or.inr (Or.inl h)))))) (fun h => (Or.elim h (fun h => (Or.inr (Or.inr (Or.inr (Or.inr (Or.inr (Or.inl h))))))) (fun h => (Or.elim h (fun h => (Or.inr (Or.inr (Or.inr (Or.inr (Or.inr (Or.inr (Or.inl h)))))))) (fun h => (Or.inr (Or.inr (Or.inr (Or.inr (Or.inr (Or.inr (Or.inr h)))))))))))))))))))))⟩)) (fun h => (Or.inr h))))  _ _ _ h)
def W_Trail_findClock_L51 (k0 : Nat) (k2 : Nat) : Nat → Int → Prop := fun k j => (k = k0 ∧ (j = 1 ∨ j = 2 ∨ j = 3 ∨ j = 4 ∨ j = 5 ∨ j = 6 ∨ j = 7 ∨ j = 8)) ∨ k = k0 + 1 ∨ k = k2 + 1
theorem fr_Trail_findClock_L51 {k0 : Nat} {k1 : Nat} {k2 : Nat} {bk30 : Mem → Int → Option (Mem)} {W : Nat → Int → Prop} {M0 : Mem} (hW : ∀ k j, (W_Trail_findClock_L51 k0 k2) k j → W k j) (hbk30 : ∀ (a0_ : Mem) (a1_ : Int), Fr W M0 a0_ → Post (fun r => Fr W M0 r) (bk30 a0_ a1_)) : ∀ (fu : Nat) (M : Mem) (v3_ : Int) (v4_ : Int) (v5_ : Int), Fr W M0 M → Post (fun r => Fr W M0 r) (t_Trail_findClock_L51 k0 k1 k2 bk30 fu M v3_ v4_ v5_) := by
  intro fu
  induction fu with
  | zero => intro M v3_ v4_ v5_ h; exact post_none
  | succ fu ih =>
    intro M v3_ v4_ v5_ h
    rw [t_Trail_findClock_L51]
    refine post_ite (fun c_1 => ?_) (fun c_1 => ?_)
    · refine post_let (fun q12 e_q12 => ?_)
      have h_q12 : Fr W M0 q12 := by rw [e_q12]; exact (fr_WF_put (fun k j hk => hW k j (Or.inr (Or.inr hk)))  h)
      exact hbk30 _ _ h_q12
    · refine post_let (fun q14 e_q14 => ?_)
      have h_q14 : Fr W M0 q14 := by rw [e_q14]; exact (fr_WF_put (fun k j hk => hW k j (Or.inr (Or.inr hk)))  h)
      refine post_bind (Q := fun r => Fr W M0 r) (fr_Trail_tryClock (fun k j hk => hW k j (Or.elim hk (fun h => (Or.inl ⟨(h).1, (Or.elim (h).2 (fun h => (Or.inl h)) (fun h => (Or.elim h (fun h => (Or.inr (Or.inl h))) (fun h => (Or.elim h (fun h => (Or.inr (Or.inr (Or.inl h)))) (fun h => (Or.elim h (fun h => (Or.inr (Or.inr (Or.inr (Or.inl h))))) (fun h => (Or.elim h (fun h => (Or.inr (Or.inr (Or.inr (Or.inr (Or.inl h)))))) (fun h => (Or.elim h (fun h => (Or.inr (Or.inr (Or.inr (Or.inr (Or.inr (Or.inl h))))))) (fun h => (Or.elim h (fun h => (Or.inr (Or.inr (Or.inr (Or.inr (Or.inr (Or.inr (Or.inl h)))))))) (fun h => (Or.inr (Or.inr (Or.inr (Or.inr (Or.inr (Or.inr (Or.inr h)))))))))))))))))))))⟩)) (fun h => (Or.inr (Or.inl h)))))  h_q14) (fun q16 h_q16 => ?_)
      exact (ih _ _ _ _ h_q16)
def W_Trail_findClock_L30 (k0 : Nat) (k2 : Nat) : Nat → Int → Prop := fun k j => (k = k0 ∧ (j = 1 ∨ j = 2 ∨ j = 3 ∨ j = 4 ∨ j = 5 ∨ j = 6 ∨ j = 7 ∨ j = 8)) ∨ k = k0 + 1 ∨ k = k2 + 1
theorem fr_Trail_findClock_L30 {k0 : Nat} {k1 : Nat} {k2 : Nat} {W : Nat → Int → Prop} {M0 : Mem} (hW : ∀ k j, (W_Trail_findClock_L30 k0 k2) k j → W k j)  : ∀ (fu : Nat) (M : Mem) (v3_ : Int), Fr W M0 M → Post (fun r => Fr W M0 r) (t_Trail_findClock_L30 k0 k1 k2 fu M v3_) := by
  intro fu
  induction fu with
  | zero => intro M v3_ h; exact post_none
  | succ fu ih =>
    intro M v3_ h
    rw [t_Trail_findClock_L30]
    refine post_ite (fun c_1 => ?_) (fun c_1 => ?_)
    · exact post_some h
    · refine post_let (fun q9 _ => ?_)
      exact (fr_Trail_findClock_L51 (fun k j hk => hW k j (Or.elim hk (fun h => (Or.inl ⟨(h).1, (Or.elim (h).2 (fun h => (Or.inl h)) (fun h => (Or.elim h (fun h => (Or.inr (Or.inl h))) (fun h => (Or.elim h (fun h => (Or.inr (Or.inr (Or.inl h)))) (fun h => (Or.elim h (fun h => (Or.inr (Or.inr (Or.inr (Or.inl h))))) (fun h => (Or.elim h (fun h => (Or.inr (Or.inr (Or.inr (Or.inr (Or.inl h)))))) (fun h => (Or.elim h (fun h => (Or.inr (Or.inr (Or.inr (Or.inr (Or.inr (Or.inl h))))))) (fun h => (Or.elim h (fun h => (Or.inr (Or.inr (Or.inr (Or.inr (Or.inr (Or.inr (Or.inl h)))))))) (fun h => (Or.inr (Or.inr (Or.inr (Or.inr (Or.inr (Or.inr (Or.inr h)))))))))))))))))))))⟩)) (fun h => (Or.elim h (fun h => (Or.inr (Or.inl h))) (fun h => (Or.inr (Or.inr h))))))) (fun a0_ a1_ h9 => ih a0_ a1_ h9) _ _ _ _ _ h)
def W_Trail_findClock (k0 : Nat) (k2 : Nat) : Nat → Int → Prop := fun k j => (k = k0 ∧ (j = 1 ∨ j = 2 ∨ j = 3 ∨ j = 4 ∨ j = 5 ∨ j = 6 ∨ j = 7 ∨ j = 8)) ∨ k = k0 + 1 ∨ k = k2 + 1
theorem fr_Trail_findClock {k0 : Nat} {k1 : Nat} {k2 : Nat} {W : Nat → Int → Prop} {M0 : Mem} (hW : ∀ k j, (W_Trail_findClock k0 k2) k j → W k j)  {M : Mem} (h : Fr W M0 M) : Post (fun r => Fr W M0 r) (t_Trail_findClock M k0 k1 k2) := by
  unfold t_Trail_findClock
  refine post_let (fun M1 e_M1 => ?_)
  have h_M1 : Fr W M0 M1 := by rw [e_M1]; exact Fr.setI h (hW _ _ (Or.inl ⟨rfl, (Or.inr (Or.inr (Or.inr (Or.inr (Or.inl rfl)))))⟩))
  refine post_let (fun M2 e_M2 => ?_)
  have h_M2 : Fr W M0 M2 := by rw [e_M2]; exact Fr.setI h_M1 (hW _ _ (Or.inl ⟨rfl, (Or.inr (Or.inr (Or.inr (Or.inr (Or.inr (Or.inl rfl))))))⟩))
  refine post_let (fun M3 e_M3 => ?_)
  have h_M3 : Fr W M0 M3 := by rw [e_M3]; exact Fr.setI h_M2 (hW _ _ (Or.inl ⟨rfl, (Or.inr (Or.inr (Or.inr (Or.inr (Or.inr (Or.inr (Or.inl rfl)))))))⟩))
  refine post_let (fun M4 e_M4 => ?_)
  have h_M4 : Fr W M0 M4 := by rw [e_M4]; exact Fr.setI h_M3 (hW _ _ (Or.inl ⟨rfl, (Or.inr (Or.inr (Or.inr (Or.inr (Or.inr (Or.inr (Or.inr rfl)))))))⟩))
  refine post_bind (Q := fun r => Fr W M0 r) (fr_Trail_tryClock (fun k j hk => hW k j (Or.elim hk (fun h => (Or.inl ⟨(h).1, (Or.elim (h).2 (fun h => (Or.inl h)) (fun h => (Or.elim h (fun h => (Or.inr (Or.inl h))) (fun h => (Or.elim h (fun h => (Or.inr (Or.inr (Or.inl h)))) (fun h => (Or.elim h (fun h => (Or.inr (Or.inr (Or.inr (Or.inl h))))) (fun h => (Or.elim h (fun h => (Or.inr (Or.inr (Or.inr (Or.inr (Or.inl h)))))) (fun h => (Or.elim h (fun h => (Or.inr (Or.inr (Or.inr (Or.inr (Or.inr (Or.inl h))))))) (fun h => (Or.elim h (fun h => (Or.inr (Or.inr (Or.inr (Or.inr (Or.inr (Or.inr (Or.inl h)))))))) (fun h => (Or.inr (Or.inr (Or.inr (Or.inr (Or.inr (Or.inr (Or.inr h)))))))))))))))))))))⟩)) (fun h => (Or.inr (Or.inl h)))))  h_M4) (fun q5 h_q5 => ?_)
  exact (fr_Trail_findClock_L30 (fun k j hk => hW k j (Or.elim hk (fun h => (Or.inl ⟨(h).1, (Or.elim (h).2 (fun h => (Or.inl h)) (fun h => (Or.elim h (fun h => (Or.inr (Or.inl h))) (fun h => (Or.elim h (fun h => (Or.inr (Or.inr (Or.inl h)))) (fun h => (Or.elim h (fun h => (Or.inr (Or.inr (Or.inr (Or.inl h))))) (fun h => (Or.elim h (fun h => (Or.inr (Or.inr (Or.inr (Or.inr (Or.inl h)))))) (fun h => (Or.elim h (fun h => (Or.inr (Or.inr (Or.inr (Or.inr (Or.inr (Or.inl h))))))) (fun h => (Or.elim h (fun h => (Or.inr (Or.inr (Or.inr (Or.inr (Or.inr (Or.inr (Or.inl h)))))))) (fun h => (Or.inr (Or.inr (Or.inr (Or.inr (Or.inr (Or.inr (Or.inr h)))))))))))))))))))))⟩)) (fun h => (Or.elim h (fun h => (Or.inr (Or.inl h))) (fun h => (Or.inr (Or.inr h)))))))  _ _ _ h_q5)
def W_WF_clock : Nat → Int → Prop := fun k j => (k = 189 ∧ (j = 1 ∨ j = 2 ∨ j = 3 ∨ j = 4 ∨ j = 5 ∨ j = 6 ∨ j = 7 ∨ j = 8)) ∨ k = 190 ∨ (k = 52 ∧ (j = 4 ∨ j = 5 ∨ j = 6)) ∨ k = 53 ∨ k = 54 ∨ k = 55 ∨ k = 56
theorem fr_WF_clock {x1 : Int} {W : Nat → Int → Prop} {M0 : Mem} (hW : ∀ k j, (W_WF_clock) k j → W k j)  {M : Mem} (h : Fr W M0 M) : Post (fun r => Fr W M0 r.1) (t_WF_clock M x1) := by
  unfold t_WF_clock
  refine post_ite (fun c_1 => ?_) (fun c_1 => ?_)
  · exact post_some h
  · refine post_ite (fun c_2 => ?_) (fun c_2 => ?_)
    · refine post_let (fun q3 e_q3 => ?_)
      have h_q3 : Fr W M0 q3 := by rw [e_q3]; exact (fr_Scene_copy (fun k j hk => hW k j (Or.elim hk (fun h => (Or.inr (Or.inr (Or.inl ⟨(h).1, (Or.elim (h).2 (fun h => (Or.inl h)) (fun h => (Or.elim h (fun h => (Or.inr (Or.inl h))) (fun h => (Or.inr (Or.inr h))))))⟩)))) (fun h => (Or.elim h (fun h => (Or.inr (Or.inr (Or.inr (Or.inl h))))) (fun h => (Or.elim h (fun h => (Or.inr (Or.inr (Or.inr (Or.inr (Or.inl h)))))) (fun h => (Or.elim h (fun h => (Or.inr (Or.inr (Or.inr (Or.inr (Or.inr (Or.inl h))))))) (fun h => (Or.inr (Or.inr (Or.inr (Or.inr (Or.inr (Or.inr h)))))))))))))))  h)
      refine post_bind (Q := fun r => Fr W M0 r) (fr_Trail_findClock (fun k j hk => hW k j (Or.elim hk (fun h => (Or.inl ⟨(h).1, (Or.elim (h).2 (fun h => (Or.inl h)) (fun h => (Or.elim h (fun h => (Or.inr (Or.inl h))) (fun h => (Or.elim h (fun h => (Or.inr (Or.inr (Or.inl h)))) (fun h => (Or.elim h (fun h => (Or.inr (Or.inr (Or.inr (Or.inl h))))) (fun h => (Or.elim h (fun h => (Or.inr (Or.inr (Or.inr (Or.inr (Or.inl h)))))) (fun h => (Or.elim h (fun h => (Or.inr (Or.inr (Or.inr (Or.inr (Or.inr (Or.inl h))))))) (fun h => (Or.elim h (fun h => (Or.inr (Or.inr (Or.inr (Or.inr (Or.inr (Or.inr (Or.inl h)))))))) (fun h => (Or.inr (Or.inr (Or.inr (Or.inr (Or.inr (Or.inr (Or.inr h)))))))))))))))))))))⟩)) (fun h => (Or.elim h (fun h => (Or.inr (Or.inl h))) (fun h => (Or.inr (Or.inr (Or.inr (Or.inl h)))))))))  h_q3) (fun q6 h_q6 => ?_)
      refine post_ite (fun c_3 => ?_) (fun c_3 => ?_)
      · exact post_some h_q6
      · refine post_ite (fun c_4 => ?_) (fun c_4 => ?_)
        · exact post_some h_q6
        · refine post_ite (fun c_5 => ?_) (fun c_5 => ?_)
          · exact post_some h_q6
          · exact post_some h_q6
    · exact post_some h
def W_Laws_tryVotes_L95 (k1 : Nat) : Nat → Int → Prop := fun k j => k = 178 ∨ k = 184 ∨ k = k1 + 18
theorem fr_Laws_tryVotes_L95 {k1 : Nat} {k2 : Nat} {k3 : Nat} {x4 : Int} {bk41 : Mem → Int → Option (Mem)} {W : Nat → Int → Prop} {M0 : Mem} (hW : ∀ k j, (W_Laws_tryVotes_L95 k1) k j → W k j) (hbk41 : ∀ (a0_ : Mem) (a1_ : Int), Fr W M0 a0_ → Post (fun r => Fr W M0 r) (bk41 a0_ a1_)) : ∀ (fu : Nat) (M : Mem) (v4_ : Int) (v5_ : Int), Fr W M0 M → Post (fun r => Fr W M0 r) (t_Laws_tryVotes_L95 k1 k2 k3 x4 bk41 fu M v4_ v5_) := by
  intro fu
  induction fu with
  | zero => intro M v4_ v5_ h; exact post_none
  | succ fu ih =>
    intro M v4_ v5_ h
    rw [t_Laws_tryVotes_L95]
    refine post_ite (fun c_1 => ?_) (fun c_1 => ?_)
    · exact hbk41 _ _ h
    · refine post_bind (Q := fun r => Fr W M0 r.1) (fr_Laws_joyOf (fun k j hk => hW k j (Or.elim hk (fun h => (Or.inl h)) (fun h => (Or.inr (Or.inr h)))))  h) (fun q20 h_q20 => ?_)
      refine post_let (fun q22 e_q22 => ?_)
      have h_q22 : Fr W M0 q22 := by rw [e_q22]; exact (fr_WF_put (fun k j hk => hW k j (Or.inr (Or.inl hk)))  h_q20)
      exact (ih _ _ _ h_q22)
def W_Laws_tryVotes_L53 (k1 : Nat) (k3 : Nat) : Nat → Int → Prop := fun k j => k = 178 ∨ k = 179 ∨ k = 180 ∨ k = 181 ∨ (k = 182 ∧ (j = 1 ∨ j = 2 ∨ j = 3 ∨ j = 4)) ∨ k = 183 ∨ k = 184 ∨ k = k1 + 18 ∨ k = k3 + 1
theorem fr_Laws_tryVotes_L53 {k1 : Nat} {k2 : Nat} {k3 : Nat} {x4 : Int} {bk41 : Mem → Int → Option (Mem)} {W : Nat → Int → Prop} {M0 : Mem} (hW : ∀ k j, (W_Laws_tryVotes_L53 k1 k3) k j → W k j) (hbk41 : ∀ (a0_ : Mem) (a1_ : Int), Fr W M0 a0_ → Post (fun r => Fr W M0 r) (bk41 a0_ a1_)) : ∀ (fu : Nat) (M : Mem) (v4_ : Int) (v5_ : Int), Fr W M0 M → Post (fun r => Fr W M0 r) (t_Laws_tryVotes_L53 k1 k2 k3 x4 bk41 fu M v4_ v5_) := by
  intro fu
  induction fu with
  | zero => intro M v4_ v5_ h; exact post_none
  | succ fu ih =>
    intro M v4_ v5_ h
    rw [t_Laws_tryVotes_L53]
    refine post_ite (fun c_1 => ?_) (fun c_1 => ?_)
    · refine post_bind (Q := fun r => Fr W M0 r) (fr_Laws_measure (fun k j hk => hW k j (Or.elim hk (fun h => (Or.inr (Or.inl h))) (fun h => (Or.elim h (fun h => (Or.inr (Or.inr (Or.inl h)))) (fun h => (Or.elim h (fun h => (Or.inr (Or.inr (Or.inr (Or.inl h))))) (fun h => (Or.elim h (fun h => (Or.inr (Or.inr (Or.inr (Or.inr (Or.inl ⟨(h).1, (Or.elim (h).2 (fun h => (Or.inl h)) (fun h => (Or.elim h (fun h => (Or.inr (Or.inl h))) (fun h => (Or.elim h (fun h => (Or.inr (Or.inr (Or.inl h)))) (fun h => (Or.inr (Or.inr (Or.inr h)))))))))⟩)))))) (fun h => (Or.inr (Or.inr (Or.inr (Or.inr (Or.inr (Or.inl h)))))))))))))))  h) (fun q14 h_q14 => ?_)
      exact (fr_Laws_tryVotes_L95 (fun k j hk => hW k j (Or.elim hk (fun h => (Or.inl h)) (fun h => (Or.elim h (fun h => (Or.inr (Or.inr (Or.inr (Or.inr (Or.inr (Or.inr (Or.inl h)))))))) (fun h => (Or.inr (Or.inr (Or.inr (Or.inr (Or.inr (Or.inr (Or.inr (Or.inl h))))))))))))) hbk41 _ _ _ _ h_q14)
    · refine post_let (fun q16 e_q16 => ?_)
      have h_q16 : Fr W M0 q16 := by rw [e_q16]; exact (fr_WF_put (fun k j hk => hW k j (Or.inr (Or.inr (Or.inr (Or.inr (Or.inr (Or.inr (Or.inr (Or.inr hk)))))))))  h)
      exact (ih _ _ _ h_q16)
def W_Laws_tryVotes_L41 (k1 : Nat) (k3 : Nat) : Nat → Int → Prop := fun k j => k = 178 ∨ k = 179 ∨ k = 180 ∨ k = 181 ∨ (k = 182 ∧ (j = 1 ∨ j = 2 ∨ j = 3 ∨ j = 4)) ∨ k = 183 ∨ k = 184 ∨ k = k1 + 18 ∨ k = k3 + 1
theorem fr_Laws_tryVotes_L41 {k1 : Nat} {k2 : Nat} {k3 : Nat} {x4 : Int} {W : Nat → Int → Prop} {M0 : Mem} (hW : ∀ k j, (W_Laws_tryVotes_L41 k1 k3) k j → W k j)  : ∀ (fu : Nat) (M : Mem) (v4_ : Int), Fr W M0 M → Post (fun r => Fr W M0 r) (t_Laws_tryVotes_L41 k1 k2 k3 x4 fu M v4_) := by
  intro fu
  induction fu with
  | zero => intro M v4_ h; exact post_none
  | succ fu ih =>
    intro M v4_ h
    rw [t_Laws_tryVotes_L41]
    refine post_ite (fun c_1 => ?_) (fun c_1 => ?_)
    · exact post_some h
    · exact (fr_Laws_tryVotes_L53 (fun k j hk => hW k j (Or.elim hk (fun h => (Or.inl h)) (fun h => (Or.elim h (fun h => (Or.inr (Or.inl h))) (fun h => (Or.elim h (fun h => (Or.inr (Or.inr (Or.inl h)))) (fun h => (Or.elim h (fun h => (Or.inr (Or.inr (Or.inr (Or.inl h))))) (fun h => (Or.elim h (fun h => (Or.inr (Or.inr (Or.inr (Or.inr (Or.inl ⟨(h).1, (Or.elim (h).2 (fun h => (Or.inl h)) (fun h => (Or.elim h (fun h => (Or.inr (Or.inl h))) (fun h => (Or.elim h (fun h => (Or.inr (Or.inr (Or.inl h)))) (fun h => (Or.inr (Or.inr (Or.inr h)))))))))⟩)))))) (fun h => (Or.elim h (fun h => (Or.inr (Or.inr (Or.inr (Or.inr (Or.inr (Or.inl h))))))) (fun h => (Or.elim h (fun h => (Or.inr (Or.inr (Or.inr (Or.inr (Or.inr (Or.inr (Or.inl h)))))))) (fun h => (Or.elim h (fun h => (Or.inr (Or.inr (Or.inr (Or.inr (Or.inr (Or.inr (Or.inr (Or.inl h))))))))) (fun h => (Or.inr (Or.inr (Or.inr (Or.inr (Or.inr (Or.inr (Or.inr (Or.inr h))))))))))))))))))))))))) (fun a0_ a1_ h9 => ih a0_ a1_ h9) _ _ _ _ h)
def W_Laws_tryVotes (k1 : Nat) (k3 : Nat) : Nat → Int → Prop := fun k j => (k = 177 ∧ (j = 6 ∨ j = 7 ∨ j = 8)) ∨ k = 178 ∨ k = 179 ∨ k = 180 ∨ k = 181 ∨ (k = 182 ∧ (j = 1 ∨ j = 2 ∨ j = 3 ∨ j = 4)) ∨ k = 183 ∨ k = 184 ∨ k = k1 + 18 ∨ (k = k3 ∧ (j = 4 ∨ j = 5 ∨ j = 6)) ∨ k = k3 + 1 ∨ k = k3 + 2 ∨ k = k3 + 3 ∨ k = k3 + 4
theorem fr_Laws_tryVotes {k1 : Nat} {k2 : Nat} {k3 : Nat} {x4 : Int} {W : Nat → Int → Prop} {M0 : Mem} (hW : ∀ k j, (W_Laws_tryVotes k1 k3) k j → W k j)  {M : Mem} (h : Fr W M0 M) : Post (fun r => Fr W M0 r) (t_Laws_tryVotes M k1 k2 k3 x4) := by
  unfold t_Laws_tryVotes
  refine post_ite (fun c_1 => ?_) (fun c_1 => ?_)
  · refine post_let (fun M3 e_M3 => ?_)
    have h_M3 : Fr W M0 M3 := by rw [e_M3]; exact Fr.setI h (hW _ _ (Or.inl ⟨rfl, (Or.inr (Or.inr rfl))⟩))
    refine post_let (fun q4 e_q4 => ?_)
    have h_q4 : Fr W M0 q4 := by rw [e_q4]; exact (fr_Scene_copy (fun k j hk => hW k j (Or.elim hk (fun h => (Or.inr (Or.inr (Or.inr (Or.inr (Or.inr (Or.inr (Or.inr (Or.inr (Or.inr (Or.inl ⟨(h).1, (Or.elim (h).2 (fun h => (Or.inl h)) (fun h => (Or.elim h (fun h => (Or.inr (Or.inl h))) (fun h => (Or.inr (Or.inr h))))))⟩))))))))))) (fun h => (Or.elim h (fun h => (Or.inr (Or.inr (Or.inr (Or.inr (Or.inr (Or.inr (Or.inr (Or.inr (Or.inr (Or.inr (Or.inl h)))))))))))) (fun h => (Or.elim h (fun h => (Or.inr (Or.inr (Or.inr (Or.inr (Or.inr (Or.inr (Or.inr (Or.inr (Or.inr (Or.inr (Or.inr (Or.inl h))))))))))))) (fun h => (Or.elim h (fun h => (Or.inr (Or.inr (Or.inr (Or.inr (Or.inr (Or.inr (Or.inr (Or.inr (Or.inr (Or.inr (Or.inr (Or.inr (Or.inl h)))))))))))))) (fun h => (Or.inr (Or.inr (Or.inr (Or.inr (Or.inr (Or.inr (Or.inr (Or.inr (Or.inr (Or.inr (Or.inr (Or.inr (Or.inr h))))))))))))))))))))))  h_M3)
    refine post_let (fun M7 e_M7 => ?_)
    have h_M7 : Fr W M0 M7 := by rw [e_M7]; exact Fr.setI h_q4 (hW _ _ (Or.inl ⟨rfl, (Or.inl rfl)⟩))
    refine post_let (fun M9 e_M9 => ?_)
    have h_M9 : Fr W M0 M9 := by rw [e_M9]; exact Fr.setI h_M7 (hW _ _ (Or.inl ⟨rfl, (Or.inr (Or.inl rfl))⟩))
    exact (fr_Laws_tryVotes_L41 (fun k j hk => hW k j (Or.elim hk (fun h => (Or.inr (Or.inl h))) (fun h => (Or.elim h (fun h => (Or.inr (Or.inr (Or.inl h)))) (fun h => (Or.elim h (fun h => (Or.inr (Or.inr (Or.inr (Or.inl h))))) (fun h => (Or.elim h (fun h => (Or.inr (Or.inr (Or.inr (Or.inr (Or.inl h)))))) (fun h => (Or.elim h (fun h => (Or.inr (Or.inr (Or.inr (Or.inr (Or.inr (Or.inl ⟨(h).1, (Or.elim (h).2 (fun h => (Or.inl h)) (fun h => (Or.elim h (fun h => (Or.inr (Or.inl h))) (fun h => (Or.elim h (fun h => (Or.inr (Or.inr (Or.inl h)))) (fun h => (Or.inr (Or.inr (Or.inr h)))))))))⟩))))))) (fun h => (Or.elim h (fun h => (Or.inr (Or.inr (Or.inr (Or.inr (Or.inr (Or.inr (Or.inl h)))))))) (fun h => (Or.elim h (fun h => (Or.inr (Or.inr (Or.inr (Or.inr (Or.inr (Or.inr (Or.inr (Or.inl h))))))))) (fun h => (Or.elim h (fun h => (Or.inr (Or.inr (Or.inr (Or.inr (Or.inr (Or.inr (Or.inr (Or.inr (Or.inl h)))))))))) (fun h => (Or.inr (Or.inr (Or.inr (Or.inr (Or.inr (Or.inr (Or.inr (Or.inr (Or.inr (Or.inr (Or.inl h))))))))))))))))))))))))))))  _ _ _ h_M9)
  · exact post_some h
def W_WF_stays_L55 : Nat → Int → Prop := fun k j => False
theorem fr_WF_stays_L55 {bk30 : Mem → Int → Int → Option (Mem × Int)} {v1_ : Int} {v2_ : Int} {W : Nat → Int → Prop} {M0 : Mem} (hW : ∀ k j, (W_WF_stays_L55) k j → W k j) (hbk30 : ∀ (a0_ : Mem) (a1_ : Int) (a2_ : Int), Fr W M0 a0_ → Post (fun r => Fr W M0 r.1) (bk30 a0_ a1_ a2_)) {M : Mem} (h : Fr W M0 M) : Post (fun r => Fr W M0 r.1) (t_WF_stays_L55 bk30 M v1_ v2_) := by
  unfold t_WF_stays_L55
  exact hbk30 _ _ _ h
def W_WF_stays_L30 : Nat → Int → Prop := fun k j => False
theorem fr_WF_stays_L30  {W : Nat → Int → Prop} {M0 : Mem} (hW : ∀ k j, (W_WF_stays_L30) k j → W k j)  : ∀ (fu : Nat) (M : Mem) (v1_ : Int) (v2_ : Int), Fr W M0 M → Post (fun r => Fr W M0 r.1) (t_WF_stays_L30  fu M v1_ v2_) := by
  intro fu
  induction fu with
  | zero => intro M v1_ v2_ h; exact post_none
  | succ fu ih =>
    intro M v1_ v2_ h
    rw [t_WF_stays_L30]
    refine post_ite (fun c_1 => ?_) (fun c_1 => ?_)
    · exact post_some h
    · refine post_bindv (fun q7 => ?_)
      refine post_ite (fun c_2 => ?_) (fun c_2 => ?_)
      · exact (fr_WF_stays_L55 (fun k j hk => hk.elim) (fun a0_ a1_ a2_ h9 => ih a0_ a1_ a2_ h9) h)
      · exact (fr_WF_stays_L55 (fun k j hk => hk.elim) (fun a0_ a1_ a2_ h9 => ih a0_ a1_ a2_ h9) h)
def W_WF_stays (T : Nat) : Nat → Int → Prop := fun k j => (k = 177 ∧ (j = 6 ∨ j = 7 ∨ j = 8)) ∨ k = 178 ∨ k = 179 ∨ k = 180 ∨ k = 181 ∨ (k = 182 ∧ (j = 1 ∨ j = 2 ∨ j = 3 ∨ j = 4)) ∨ k = 183 ∨ k = 184 ∨ (k = 52 ∧ (j = 4 ∨ j = 5 ∨ j = 6)) ∨ k = 53 ∨ k = 54 ∨ k = 55 ∨ k = 56 ∨ k = T + 18
theorem fr_WF_stays  {W : Nat → Int → Prop} {M0 : Mem} {T : Nat} (hW : ∀ k j, (W_WF_stays T) k j → W k j) (hT : M0.1 0 4 = (T : Int)) (h04 : ¬ W 0 4)  {M : Mem} (h : Fr W M0 M) : Post (fun r => Fr W M0 r.1) (t_WF_stays M) := by
  unfold t_WF_stays
  have e04_1 : (M.1 0 4).toNat = T := by rw [(h 0 4 h04).1, hT]; rfl
  refine post_bind (Q := fun r => Fr W M0 r) (fr_Laws_tryVotes (fun k j hk => hW k j (by unfold W_Laws_tryVotes at hk; unfold W_WF_stays; rcases hk with hk | hk | hk | hk | hk | hk | hk | hk | hk | hk | hk | hk | hk | hk <;> omega))  h) (fun q3 h_q3 => ?_)
  exact (fr_WF_stays_L30 (fun k j hk => hk.elim)  _ _ _ _ h_q3)
def W_WF_stay_L67 : Nat → Int → Prop := fun k j => False
theorem fr_WF_stay_L67 {x1 : Int} {bk36 : Mem → Int → Int → Option (Mem × Int)} {v1_ : Int} {v2_ : Int} {W : Nat → Int → Prop} {M0 : Mem} (hW : ∀ k j, (W_WF_stay_L67) k j → W k j) (hbk36 : ∀ (a0_ : Mem) (a1_ : Int) (a2_ : Int), Fr W M0 a0_ → Post (fun r => Fr W M0 r.1) (bk36 a0_ a1_ a2_)) {M : Mem} (h : Fr W M0 M) : Post (fun r => Fr W M0 r.1) (t_WF_stay_L67 x1 bk36 M v1_ v2_) := by
  unfold t_WF_stay_L67
  exact hbk36 _ _ _ h
def W_WF_stay_L36 : Nat → Int → Prop := fun k j => False
theorem fr_WF_stay_L36 {x1 : Int} {W : Nat → Int → Prop} {M0 : Mem} (hW : ∀ k j, (W_WF_stay_L36) k j → W k j)  : ∀ (fu : Nat) (M : Mem) (v1_ : Int) (v2_ : Int), Fr W M0 M → Post (fun r => Fr W M0 r.1) (t_WF_stay_L36 x1 fu M v1_ v2_) := by
  intro fu
  induction fu with
  | zero => intro M v1_ v2_ h; exact post_none
  | succ fu ih =>
    intro M v1_ v2_ h
    rw [t_WF_stay_L36]
    refine post_ite (fun c_1 => ?_) (fun c_1 => ?_)
    · exact post_some h
    · refine post_bindv (fun q8 => ?_)
      refine post_ite (fun c_2 => ?_) (fun c_2 => ?_)
      · exact (fr_WF_stay_L67 (fun k j hk => hk.elim) (fun a0_ a1_ a2_ h9 => ih a0_ a1_ a2_ h9) h)
      · refine post_ite (fun c_3 => ?_) (fun c_3 => ?_)
        · exact post_some h
        · exact (fr_WF_stay_L67 (fun k j hk => hk.elim) (fun a0_ a1_ a2_ h9 => ih a0_ a1_ a2_ h9) h)
def W_WF_stay (T : Nat) : Nat → Int → Prop := fun k j => (k = 177 ∧ (j = 6 ∨ j = 7 ∨ j = 8)) ∨ k = 178 ∨ k = 179 ∨ k = 180 ∨ k = 181 ∨ (k = 182 ∧ (j = 1 ∨ j = 2 ∨ j = 3 ∨ j = 4)) ∨ k = 183 ∨ k = 184 ∨ (k = 52 ∧ (j = 4 ∨ j = 5 ∨ j = 6)) ∨ k = 53 ∨ k = 54 ∨ k = 55 ∨ k = 56 ∨ k = T + 18
theorem fr_WF_stay {x1 : Int} {W : Nat → Int → Prop} {M0 : Mem} {T : Nat} (hW : ∀ k j, (W_WF_stay T) k j → W k j) (hT : M0.1 0 4 = (T : Int)) (h04 : ¬ W 0 4)  {M : Mem} (h : Fr W M0 M) : Post (fun r => Fr W M0 r.1) (t_WF_stay M x1) := by
  unfold t_WF_stay
  refine post_ite (fun c_1 => ?_) (fun c_1 => ?_)
  · have e04_2 : (M.1 0 4).toNat = T := by rw [(h 0 4 h04).1, hT]; rfl
    refine post_bind (Q := fun r => Fr W M0 r) (fr_Laws_tryVotes (fun k j hk => hW k j (by unfold W_Laws_tryVotes at hk; unfold W_WF_stay; rcases hk with hk | hk | hk | hk | hk | hk | hk | hk | hk | hk | hk | hk | hk | hk <;> omega))  h) (fun q4 h_q4 => ?_)
    exact (fr_WF_stay_L36 (fun k j hk => hk.elim)  _ _ _ _ h_q4)
  · exact post_some h
def W_WF_treatySum_L4 (T : Nat) : Nat → Int → Prop := fun k j => k = 178 ∨ k = T + 18
theorem fr_WF_treatySum_L4 {x1 : Int} {W : Nat → Int → Prop} {M0 : Mem} {T : Nat} (hW : ∀ k j, (W_WF_treatySum_L4 T) k j → W k j) (hT : M0.1 0 4 = (T : Int)) (h04 : ¬ W 0 4)  : ∀ (fu : Nat) (M : Mem) (v2_ : Int) (v3_ : Int), Fr W M0 M → Post (fun r => Fr W M0 r.1) (t_WF_treatySum_L4 x1 fu M v2_ v3_) := by
  intro fu
  induction fu with
  | zero => intro M v2_ v3_ h; exact post_none
  | succ fu ih =>
    intro M v2_ v3_ h
    rw [t_WF_treatySum_L4]
    refine post_ite (fun c_1 => ?_) (fun c_1 => ?_)
    · exact post_some h
    · refine post_let (fun q4 _ => ?_)
      have e04_2 : (M.1 0 4).toNat = T := by rw [(h 0 4 h04).1, hT]; rfl
      refine post_bind (Q := fun r => Fr W M0 r.1) (fr_Laws_joyOf (fun k j hk => hW k j (by unfold W_Laws_joyOf at hk; unfold W_WF_treatySum_L4; omega))  h) (fun q8 h_q8 => ?_)
      refine post_ite (fun c_3 => ?_) (fun c_3 => ?_)
      · exact (ih _ _ _ h_q8)
      · exact post_some h_q8
def W_WF_treatySum (T : Nat) : Nat → Int → Prop := fun k j => k = 178 ∨ k = T + 18
theorem fr_WF_treatySum {x1 : Int} {W : Nat → Int → Prop} {M0 : Mem} {T : Nat} (hW : ∀ k j, (W_WF_treatySum T) k j → W k j) (hT : M0.1 0 4 = (T : Int)) (h04 : ¬ W 0 4)  {M : Mem} (h : Fr W M0 M) : Post (fun r => Fr W M0 r.1) (t_WF_treatySum M x1) := by
  unfold t_WF_treatySum
  have e04_1 : (M.1 0 4).toNat = T := by rw [(h 0 4 h04).1, hT]; rfl
  exact (fr_WF_treatySum_L4 (fun k j hk => hW k j (Or.elim hk (fun h => (Or.inl h)) (fun h => (Or.inr h)))) hT h04  _ _ _ _ h)
def W_WF_treaty_L110 : Nat → Int → Prop := fun k j => False
theorem fr_WF_treaty_L110 {x1 : Int} {bk61 : Mem → Int → Int → Int → Option (Mem × Int)} {v2_ : Int} {v3_ : Int} {v4_ : Int} {W : Nat → Int → Prop} {M0 : Mem} (hW : ∀ k j, (W_WF_treaty_L110) k j → W k j) (hbk61 : ∀ (a0_ : Mem) (a1_ : Int) (a2_ : Int) (a3_ : Int), Fr W M0 a0_ → Post (fun r => Fr W M0 r.1) (bk61 a0_ a1_ a2_ a3_)) {M : Mem} (h : Fr W M0 M) : Post (fun r => Fr W M0 r.1) (t_WF_treaty_L110 x1 bk61 M v2_ v3_ v4_) := by
  unfold t_WF_treaty_L110
  exact hbk61 _ _ _ _ h
def W_WF_treaty_L96 : Nat → Int → Prop := fun k j => False
theorem fr_WF_treaty_L96 {x1 : Int} {bk61 : Mem → Int → Int → Int → Option (Mem × Int)} {v2_ : Int} {v3_ : Int} {v4_ : Int} {v5_ : Int} {W : Nat → Int → Prop} {M0 : Mem} (hW : ∀ k j, (W_WF_treaty_L96) k j → W k j) (hbk61 : ∀ (a0_ : Mem) (a1_ : Int) (a2_ : Int) (a3_ : Int), Fr W M0 a0_ → Post (fun r => Fr W M0 r.1) (bk61 a0_ a1_ a2_ a3_)) {M : Mem} (h : Fr W M0 M) : Post (fun r => Fr W M0 r.1) (t_WF_treaty_L96 x1 bk61 M v2_ v3_ v4_ v5_) := by
  unfold t_WF_treaty_L96
  refine post_ite (fun c_1 => ?_) (fun c_1 => ?_)
  · exact (fr_WF_treaty_L110 (fun k j hk => hk.elim) hbk61 h)
  · exact (fr_WF_treaty_L110 (fun k j hk => hk.elim) hbk61 h)
def W_WF_treaty_L61 (T : Nat) : Nat → Int → Prop := fun k j => k = 178 ∨ k = T + 18
theorem fr_WF_treaty_L61 {x1 : Int} {W : Nat → Int → Prop} {M0 : Mem} {T : Nat} (hW : ∀ k j, (W_WF_treaty_L61 T) k j → W k j) (hT : M0.1 0 4 = (T : Int)) (h04 : ¬ W 0 4)  : ∀ (fu : Nat) (M : Mem) (v2_ : Int) (v3_ : Int) (v4_ : Int), Fr W M0 M → Post (fun r => Fr W M0 r.1) (t_WF_treaty_L61 x1 fu M v2_ v3_ v4_) := by
  intro fu
  induction fu with
  | zero => intro M v2_ v3_ v4_ h; exact post_none
  | succ fu ih =>
    intro M v2_ v3_ v4_ h
    rw [t_WF_treaty_L61]
    refine post_ite (fun c_1 => ?_) (fun c_1 => ?_)
    · refine post_ite (fun c_2 => ?_) (fun c_2 => ?_)
      · exact post_some h
      · exact post_some h
    · refine post_bindv (fun q13 => ?_)
      refine post_ite (fun c_3 => ?_) (fun c_3 => ?_)
      · exact (fr_WF_treaty_L96 (fun k j hk => hk.elim) (fun a0_ a1_ a2_ a3_ h9 => ih a0_ a1_ a2_ a3_ h9) h)
      · have e04_4 : (M.1 0 4).toNat = T := by rw [(h 0 4 h04).1, hT]; rfl
        refine post_bind (Q := fun r => Fr W M0 r.1) (fr_WF_treatySum (fun k j hk => hW k j (Or.elim hk (fun h => (Or.inl h)) (fun h => (Or.inr h)))) hT h04  h) (fun q16 h_q16 => ?_)
        exact (fr_WF_treaty_L96 (fun k j hk => hk.elim) (fun a0_ a1_ a2_ a3_ h9 => ih a0_ a1_ a2_ a3_ h9) h_q16)
def W_WF_treaty (T : Nat) : Nat → Int → Prop := fun k j => (k = 177 ∧ (j = 6 ∨ j = 7 ∨ j = 8)) ∨ k = 178 ∨ k = 179 ∨ k = 180 ∨ k = 181 ∨ (k = 182 ∧ (j = 1 ∨ j = 2 ∨ j = 3 ∨ j = 4)) ∨ k = 183 ∨ k = 184 ∨ (k = 52 ∧ (j = 4 ∨ j = 5 ∨ j = 6)) ∨ k = 53 ∨ k = 54 ∨ k = 55 ∨ k = 56 ∨ k = T + 18
theorem fr_WF_treaty {x1 : Int} {W : Nat → Int → Prop} {M0 : Mem} {T : Nat} (hW : ∀ k j, (W_WF_treaty T) k j → W k j) (hT : M0.1 0 4 = (T : Int)) (h04 : ¬ W 0 4)  {M : Mem} (h : Fr W M0 M) : Post (fun r => Fr W M0 r.1) (t_WF_treaty M x1) := by
  unfold t_WF_treaty
  refine post_ite (fun c_1 => ?_) (fun c_1 => ?_)
  · exact post_some h
  · refine post_ite (fun c_2 => ?_) (fun c_2 => ?_)
    · have e04_3 : (M.1 0 4).toNat = T := by rw [(h 0 4 h04).1, hT]; rfl
      refine post_bind (Q := fun r => Fr W M0 r) (fr_Laws_tryVotes (fun k j hk => hW k j (by unfold W_Laws_tryVotes at hk; unfold W_WF_treaty; rcases hk with hk | hk | hk | hk | hk | hk | hk | hk | hk | hk | hk | hk | hk | hk <;> omega))  h) (fun q5 h_q5 => ?_)
      have e04_4 : (q5.1 0 4).toNat = T := by rw [(h_q5 0 4 h04).1, hT]; rfl
      refine post_bind (Q := fun r => Fr W M0 r) (fr_Laws_measure (fun k j hk => hW k j (Or.elim hk (fun h => (Or.inr (Or.inr (Or.inl h)))) (fun h => (Or.elim h (fun h => (Or.inr (Or.inr (Or.inr (Or.inl h))))) (fun h => (Or.elim h (fun h => (Or.inr (Or.inr (Or.inr (Or.inr (Or.inl h)))))) (fun h => (Or.elim h (fun h => (Or.inr (Or.inr (Or.inr (Or.inr (Or.inr (Or.inl ⟨(h).1, (Or.elim (h).2 (fun h => (Or.inl h)) (fun h => (Or.elim h (fun h => (Or.inr (Or.inl h))) (fun h => (Or.elim h (fun h => (Or.inr (Or.inr (Or.inl h)))) (fun h => (Or.inr (Or.inr (Or.inr h)))))))))⟩))))))) (fun h => (Or.inr (Or.inr (Or.inr (Or.inr (Or.inr (Or.inr (Or.inl h))))))))))))))))  h_q5) (fun q8 h_q8 => ?_)
      have e04_5 : (q8.1 0 4).toNat = T := by rw [(h_q8 0 4 h04).1, hT]; rfl
      exact (fr_WF_treaty_L61 (fun k j hk => hW k j (Or.elim hk (fun h => (Or.inr (Or.inl h))) (fun h => (Or.inr (Or.inr (Or.inr (Or.inr (Or.inr (Or.inr (Or.inr (Or.inr (Or.inr (Or.inr (Or.inr (Or.inr (Or.inr h)))))))))))))))) hT h04  _ _ _ _ _ h_q8)
    · exact post_some h
def W_WF_moves_L61 : Nat → Int → Prop := fun k j => False
theorem fr_WF_moves_L61 {x1 : Int} {x2 : Int} {W : Nat → Int → Prop} {M0 : Mem} (hW : ∀ k j, (W_WF_moves_L61) k j → W k j)  : ∀ (fu : Nat) (M : Mem) (v2_ : Int) (v3_ : Int), Fr W M0 M → Post (fun r => Fr W M0 r.1) (t_WF_moves_L61 x1 x2 fu M v2_ v3_) := by
  intro fu
  induction fu with
  | zero => intro M v2_ v3_ h; exact post_none
  | succ fu ih =>
    intro M v2_ v3_ h
    rw [t_WF_moves_L61]
    refine post_ite (fun c_1 => ?_) (fun c_1 => ?_)
    · exact post_some h
    · refine post_bindv (fun q12 => ?_)
      refine post_ite (fun c_2 => ?_) (fun c_2 => ?_)
      · refine post_ite (fun c_3 => ?_) (fun c_3 => ?_)
        · exact post_some h
        · exact post_some h
      · exact (ih _ _ _ h)
def W_WF_moves (T : Nat) : Nat → Int → Prop := fun k j => (k = 177 ∧ (j = 6 ∨ j = 7 ∨ j = 8)) ∨ k = 178 ∨ k = 179 ∨ k = 180 ∨ k = 181 ∨ (k = 182 ∧ (j = 1 ∨ j = 2 ∨ j = 3 ∨ j = 4)) ∨ k = 183 ∨ k = 184 ∨ (k = 52 ∧ (j = 4 ∨ j = 5 ∨ j = 6)) ∨ k = 53 ∨ k = 54 ∨ k = 55 ∨ k = 56 ∨ k = T + 18
theorem fr_WF_moves {x1 : Int} {x2 : Int} {W : Nat → Int → Prop} {M0 : Mem} {T : Nat} (hW : ∀ k j, (W_WF_moves T) k j → W k j) (hT : M0.1 0 4 = (T : Int)) (h04 : ¬ W 0 4)  {M : Mem} (h : Fr W M0 M) : Post (fun r => Fr W M0 r.1) (t_WF_moves M x1 x2) := by
  unfold t_WF_moves
  refine post_ite (fun c_1 => ?_) (fun c_1 => ?_)
  · exact post_some h
  · refine post_ite (fun c_2 => ?_) (fun c_2 => ?_)
    · exact post_some h
    · refine post_ite (fun c_3 => ?_) (fun c_3 => ?_)
      · exact post_some h
      · refine post_ite (fun c_4 => ?_) (fun c_4 => ?_)
        · have e04_5 : (M.1 0 4).toNat = T := by rw [(h 0 4 h04).1, hT]; rfl
          refine post_bind (Q := fun r => Fr W M0 r) (fr_Laws_tryVotes (fun k j hk => hW k j (by unfold W_Laws_tryVotes at hk; unfold W_WF_moves; rcases hk with hk | hk | hk | hk | hk | hk | hk | hk | hk | hk | hk | hk | hk | hk <;> omega))  h) (fun q9 h_q9 => ?_)
          exact (fr_WF_moves_L61 (fun k j hk => hk.elim)  _ _ _ _ h_q9)
        · exact post_some h
def W_Notes_add : Nat → Int → Prop := fun k j => (k = 172 ∧ (j = 5)) ∨ k = 173 ∨ k = 174 ∨ k = 175
theorem fr_Notes_add {x1 : Int} {x2 : Int} {x3 : Int} {W : Nat → Int → Prop} {M0 : Mem} (hW : ∀ k j, (W_Notes_add) k j → W k j)  {M : Mem} (h : Fr W M0 M) : Fr W M0 (t_Notes_add M x1 x2 x3).1 := by
  show Pl (fun r => Fr W M0 r.1) (t_Notes_add M x1 x2 x3)
  unfold t_Notes_add
  refine pl_ite (fun c_1 => ?_) (fun c_1 => ?_)
  · refine pl_let (fun q4 e_q4 => ?_)
    have h_q4 : Fr W M0 q4 := by rw [e_q4]; exact (fr_WF_put (fun k j hk => hW k j (Or.inr (Or.inl hk)))  h)
    refine pl_let (fun q7 e_q7 => ?_)
    have h_q7 : Fr W M0 q7 := by rw [e_q7]; exact (fr_WF_put (fun k j hk => hW k j (Or.inr (Or.inr (Or.inl hk))))  h_q4)
    refine pl_let (fun q10 e_q10 => ?_)
    have h_q10 : Fr W M0 q10 := by rw [e_q10]; exact (fr_WF_put (fun k j hk => hW k j (Or.inr (Or.inr (Or.inr hk))))  h_q7)
    refine pl_let (fun M13 e_M13 => ?_)
    have h_M13 : Fr W M0 M13 := by rw [e_M13]; exact Fr.setI h_q10 (hW _ _ (Or.inl ⟨rfl, rfl⟩))
    exact h_M13
  · exact h
def W_WF_note_L23 : Nat → Int → Prop := fun k j => (k = 172 ∧ (j = 5)) ∨ k = 173 ∨ k = 174 ∨ k = 175
theorem fr_WF_note_L23 {x1 : Int} {x2 : Int} {W : Nat → Int → Prop} {M0 : Mem} (hW : ∀ k j, (W_WF_note_L23) k j → W k j)  {M : Mem} (h : Fr W M0 M) : Fr W M0 (t_WF_note_L23 x1 x2 M).1 := by
  show Pl (fun r => Fr W M0 r.1) (t_WF_note_L23 x1 x2 M)
  unfold t_WF_note_L23
  refine pl_let (fun q8 e_q8 => ?_)
  have h_q8 : Fr W M0 q8.1 := by rw [e_q8]; exact (fr_Notes_add (fun k j hk => hW k j (Or.elim hk (fun h => (Or.inl ⟨(h).1, (h).2⟩)) (fun h => (Or.elim h (fun h => (Or.inr (Or.inl h))) (fun h => (Or.elim h (fun h => (Or.inr (Or.inr (Or.inl h)))) (fun h => (Or.inr (Or.inr (Or.inr h))))))))))  h)
  exact h_q8
end
