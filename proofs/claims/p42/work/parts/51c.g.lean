section
def W_WF_note : Nat → Int → Prop := fun k j => (k = 172 ∧ (j = 5)) ∨ k = 173 ∨ k = 174 ∨ k = 175
theorem fr_WF_note {x1 : Int} {x2 : Int} {W : Nat → Int → Prop} {M0 : Mem} (hW : ∀ k j, (W_WF_note) k j → W k j)  {M : Mem} (h : Fr W M0 M) : Fr W M0 (t_WF_note M x1 x2).1 := by
  show Pl (fun r => Fr W M0 r.1) (t_WF_note M x1 x2)
  unfold t_WF_note
  refine pl_let (fun q1 _ => ?_)
  refine pl_ite (fun c_1 => ?_) (fun c_1 => ?_)
  · exact h
  · refine pl_ite (fun c_2 => ?_) (fun c_2 => ?_)
    · exact (fr_WF_note_L23 (fun k j hk => hW k j (Or.elim hk (fun h => (Or.inl ⟨(h).1, (h).2⟩)) (fun h => (Or.elim h (fun h => (Or.inr (Or.inl h))) (fun h => (Or.elim h (fun h => (Or.inr (Or.inr (Or.inl h)))) (fun h => (Or.inr (Or.inr (Or.inr h))))))))))  h)
    · refine pl_let (fun q5 _ => ?_)
      refine pl_ite (fun c_3 => ?_) (fun c_3 => ?_)
      · exact h
      · exact (fr_WF_note_L23 (fun k j hk => hW k j (Or.elim hk (fun h => (Or.inl ⟨(h).1, (h).2⟩)) (fun h => (Or.elim h (fun h => (Or.inr (Or.inl h))) (fun h => (Or.elim h (fun h => (Or.inr (Or.inr (Or.inl h)))) (fun h => (Or.inr (Or.inr (Or.inr h))))))))))  h)
def W_WF_strike : Nat → Int → Prop := fun k j => (k = 172 ∧ (j = 5)) ∨ k = 173 ∨ k = 174 ∨ k = 175
theorem fr_WF_strike {x1 : Int} {W : Nat → Int → Prop} {M0 : Mem} (hW : ∀ k j, (W_WF_strike) k j → W k j)  {M : Mem} (h : Fr W M0 M) : Fr W M0 (t_WF_strike M x1).1 := by
  show Pl (fun r => Fr W M0 r.1) (t_WF_strike M x1)
  unfold t_WF_strike
  refine pl_ite (fun c_1 => ?_) (fun c_1 => ?_)
  · exact h
  · refine pl_ite (fun c_2 => ?_) (fun c_2 => ?_)
    · refine pl_let (fun q4 e_q4 => ?_)
      have h_q4 : Fr W M0 q4.1 := by rw [e_q4]; exact (fr_Notes_add (fun k j hk => hW k j (Or.elim hk (fun h => (Or.inl ⟨(h).1, (h).2⟩)) (fun h => (Or.elim h (fun h => (Or.inr (Or.inl h))) (fun h => (Or.elim h (fun h => (Or.inr (Or.inr (Or.inl h)))) (fun h => (Or.inr (Or.inr (Or.inr h))))))))))  h)
      exact h_q4
    · exact h
def W_WF_known : Nat → Int → Prop := fun k j => (k = 172 ∧ (j = 6))
theorem fr_WF_known {x1 : Int} {W : Nat → Int → Prop} {M0 : Mem} (hW : ∀ k j, (W_WF_known) k j → W k j)  {M : Mem} (h : Fr W M0 M) : Fr W M0 (t_WF_known M x1).1 := by
  show Pl (fun r => Fr W M0 r.1) (t_WF_known M x1)
  unfold t_WF_known
  refine pl_ite (fun c_1 => ?_) (fun c_1 => ?_)
  · exact h
  · refine pl_ite (fun c_2 => ?_) (fun c_2 => ?_)
    · refine pl_let (fun M4 e_M4 => ?_)
      have h_M4 : Fr W M0 M4 := by rw [e_M4]; exact Fr.setI h (hW _ _ ⟨rfl, rfl⟩)
      exact h_M4
    · exact h
def W_Notes_setDowns_L5 (k2 : Nat) : Nat → Int → Prop := fun k j => k = k2 + 1
theorem fr_Notes_setDowns_L5 {k1 : Nat} {k2 : Nat} {x3 : Int} {W : Nat → Int → Prop} {M0 : Mem} (hW : ∀ k j, (W_Notes_setDowns_L5 k2) k j → W k j)  : ∀ (fu : Nat) (M : Mem) (v2_ : Int) (v3_ : Int), Fr W M0 M → Post (fun r => Fr W M0 r) (t_Notes_setDowns_L5 k1 k2 x3 fu M v2_ v3_) := by
  intro fu
  induction fu with
  | zero => intro M v2_ v3_ h; exact post_none
  | succ fu ih =>
    intro M v2_ v3_ h
    rw [t_Notes_setDowns_L5]
    refine post_ite (fun c_1 => ?_) (fun c_1 => ?_)
    · exact post_some h
    · refine post_let (fun q3 e_q3 => ?_)
      have h_q3 : Fr W M0 q3 := by rw [e_q3]; exact (fr_WF_put (fun k j hk => hW k j hk)  h)
      exact (ih _ _ _ h_q3)
def W_Notes_setDowns (k2 : Nat) : Nat → Int → Prop := fun k j => k = k2 + 1
theorem fr_Notes_setDowns {k1 : Nat} {k2 : Nat} {x3 : Int} {W : Nat → Int → Prop} {M0 : Mem} (hW : ∀ k j, (W_Notes_setDowns k2) k j → W k j)  {M : Mem} (h : Fr W M0 M) : Post (fun r => Fr W M0 r) (t_Notes_setDowns M k1 k2 x3) := by
  unfold t_Notes_setDowns
  exact (fr_Notes_setDowns_L5 (fun k j hk => hW k j hk)  _ _ _ _ h)
def W_Notes_areSo_L72 : Nat → Int → Prop := fun k j => False
theorem fr_Notes_areSo_L72 {x1 : Int} {k2 : Nat} {k3 : Nat} {k4 : Nat} {bk3 : Mem → Int → Option (Mem × Int)} {v5_ : Int} {W : Nat → Int → Prop} {M0 : Mem} (hW : ∀ k j, (W_Notes_areSo_L72) k j → W k j) (hbk3 : ∀ (a0_ : Mem) (a1_ : Int), Fr W M0 a0_ → Post (fun r => Fr W M0 r.1) (bk3 a0_ a1_)) {M : Mem} (h : Fr W M0 M) : Post (fun r => Fr W M0 r.1) (t_Notes_areSo_L72 x1 k2 k3 k4 bk3 M v5_) := by
  unfold t_Notes_areSo_L72
  exact hbk3 _ _ h
def W_Notes_areSo_L67 : Nat → Int → Prop := fun k j => False
theorem fr_Notes_areSo_L67 {x1 : Int} {k2 : Nat} {k3 : Nat} {k4 : Nat} {bk3 : Mem → Int → Option (Mem × Int)} {v5_ : Int} {v6_ : Int} {v7_ : Int} {W : Nat → Int → Prop} {M0 : Mem} (hW : ∀ k j, (W_Notes_areSo_L67) k j → W k j) (hbk3 : ∀ (a0_ : Mem) (a1_ : Int), Fr W M0 a0_ → Post (fun r => Fr W M0 r.1) (bk3 a0_ a1_)) {M : Mem} (h : Fr W M0 M) : Post (fun r => Fr W M0 r.1) (t_Notes_areSo_L67 x1 k2 k3 k4 bk3 M v5_ v6_ v7_) := by
  unfold t_Notes_areSo_L67
  refine post_ite (fun c_1 => ?_) (fun c_1 => ?_)
  · exact (fr_Notes_areSo_L72 (fun k j hk => hk.elim) hbk3 h)
  · exact post_some h
def W_Notes_areSo_L3 (k4 : Nat) : Nat → Int → Prop := fun k j => (k = k4 ∧ (j = 1 ∨ j = 2 ∨ j = 3 ∨ j = 4)) ∨ k = k4 + 1
theorem fr_Notes_areSo_L3 {x1 : Int} {k2 : Nat} {k3 : Nat} {k4 : Nat} {W : Nat → Int → Prop} {M0 : Mem} (hW : ∀ k j, (W_Notes_areSo_L3 k4) k j → W k j)  : ∀ (fu : Nat) (M : Mem) (v5_ : Int), Fr W M0 M → Post (fun r => Fr W M0 r.1) (t_Notes_areSo_L3 x1 k2 k3 k4 fu M v5_) := by
  intro fu
  induction fu with
  | zero => intro M v5_ h; exact post_none
  | succ fu ih =>
    intro M v5_ h
    rw [t_Notes_areSo_L3]
    refine post_ite (fun c_1 => ?_) (fun c_1 => ?_)
    · exact post_some h
    · refine post_let (fun q3 _ => ?_)
      refine post_ite (fun c_2 => ?_) (fun c_2 => ?_)
      · refine post_let (fun q6 _ => ?_)
        refine post_bind (Q := fun r => Fr W M0 r) (fr_Trail_follow (fun k j hk => hW k j (Or.elim hk (fun h => (Or.inl ⟨(h).1, (Or.elim (h).2 (fun h => (Or.inl h)) (fun h => (Or.elim h (fun h => (Or.inr (Or.inl h))) (fun h => (Or.elim h (fun h => (Or.inr (Or.inr (Or.inl h)))) (fun h => (Or.inr (Or.inr (Or.inr h)))))))))⟩)) (fun h => (Or.inr h))))  h) (fun q8 h_q8 => ?_)
        refine post_let (fun q10 _ => ?_)
        refine post_let (fun q12 _ => ?_)
        refine post_ite (fun c_3 => ?_) (fun c_3 => ?_)
        · exact (fr_Notes_areSo_L67 (fun k j hk => hk.elim) (fun a0_ a1_ h9 => ih a0_ a1_ h9) h_q8)
        · exact (fr_Notes_areSo_L67 (fun k j hk => hk.elim) (fun a0_ a1_ h9 => ih a0_ a1_ h9) h_q8)
      · exact (fr_Notes_areSo_L72 (fun k j hk => hk.elim) (fun a0_ a1_ h9 => ih a0_ a1_ h9) h)
def W_Notes_areSo (k4 : Nat) : Nat → Int → Prop := fun k j => (k = k4 ∧ (j = 1 ∨ j = 2 ∨ j = 3 ∨ j = 4)) ∨ k = k4 + 1
theorem fr_Notes_areSo {x1 : Int} {k2 : Nat} {k3 : Nat} {k4 : Nat} {W : Nat → Int → Prop} {M0 : Mem} (hW : ∀ k j, (W_Notes_areSo k4) k j → W k j)  {M : Mem} (h : Fr W M0 M) : Post (fun r => Fr W M0 r.1) (t_Notes_areSo M x1 k2 k3 k4) := by
  unfold t_Notes_areSo
  exact (fr_Notes_areSo_L3 (fun k j hk => hW k j (Or.elim hk (fun h => (Or.inl ⟨(h).1, (Or.elim (h).2 (fun h => (Or.inl h)) (fun h => (Or.elim h (fun h => (Or.inr (Or.inl h))) (fun h => (Or.elim h (fun h => (Or.inr (Or.inr (Or.inl h)))) (fun h => (Or.inr (Or.inr (Or.inr h)))))))))⟩)) (fun h => (Or.inr h))))  _ _ _ h)
def W_Notes_findFits_L139 : Nat → Int → Prop := fun k j => False
theorem fr_Notes_findFits_L139 {k1 : Nat} {k2 : Nat} {k3 : Nat} {k4 : Nat} {bk54 : Mem → Int → Int → Int → Option (Mem)} {v4_ : Int} {v5_ : Int} {v6_ : Int} {W : Nat → Int → Prop} {M0 : Mem} (hW : ∀ k j, (W_Notes_findFits_L139) k j → W k j) (hbk54 : ∀ (a0_ : Mem) (a1_ : Int) (a2_ : Int) (a3_ : Int), Fr W M0 a0_ → Post (fun r => Fr W M0 r) (bk54 a0_ a1_ a2_ a3_)) {M : Mem} (h : Fr W M0 M) : Post (fun r => Fr W M0 r) (t_Notes_findFits_L139 k1 k2 k3 k4 bk54 M v4_ v5_ v6_) := by
  unfold t_Notes_findFits_L139
  exact hbk54 _ _ _ _ h
def W_Notes_findFits_L94 : Nat → Int → Prop := fun k j => k = 176
theorem fr_Notes_findFits_L94 {k1 : Nat} {k2 : Nat} {k3 : Nat} {k4 : Nat} {bk54 : Mem → Int → Int → Int → Option (Mem)} {W : Nat → Int → Prop} {M0 : Mem} (hW : ∀ k j, (W_Notes_findFits_L94) k j → W k j) (hbk54 : ∀ (a0_ : Mem) (a1_ : Int) (a2_ : Int) (a3_ : Int), Fr W M0 a0_ → Post (fun r => Fr W M0 r) (bk54 a0_ a1_ a2_ a3_)) : ∀ (fu : Nat) (M : Mem) (v4_ : Int) (v5_ : Int) (v6_ : Int) (v7_ : Int), Fr W M0 M → Post (fun r => Fr W M0 r) (t_Notes_findFits_L94 k1 k2 k3 k4 bk54 fu M v4_ v5_ v6_ v7_) := by
  intro fu
  induction fu with
  | zero => intro M v4_ v5_ v6_ v7_ h; exact post_none
  | succ fu ih =>
    intro M v4_ v5_ v6_ v7_ h
    rw [t_Notes_findFits_L94]
    refine post_ite (fun c_1 => ?_) (fun c_1 => ?_)
    · exact (fr_Notes_findFits_L139 (fun k j hk => hk.elim) hbk54 h)
    · refine post_let (fun q20 _ => ?_)
      refine post_let (fun q22 _ => ?_)
      refine post_let (fun q24 e_q24 => ?_)
      have h_q24 : Fr W M0 q24 := by rw [e_q24]; exact (fr_WF_put (fun k j hk => hW k j hk)  h)
      exact (ih _ _ _ _ _ h_q24)
def W_Notes_findFits_L54 (k3 : Nat) (k4 : Nat) : Nat → Int → Prop := fun k j => (k = 172 ∧ (j = 4)) ∨ k = 176 ∨ k = k3 + 1 ∨ (k = k4 ∧ (j = 1 ∨ j = 2 ∨ j = 3 ∨ j = 4)) ∨ k = k4 + 1
theorem fr_Notes_findFits_L54 {k1 : Nat} {k2 : Nat} {k3 : Nat} {k4 : Nat} {W : Nat → Int → Prop} {M0 : Mem} (hW : ∀ k j, (W_Notes_findFits_L54 k3 k4) k j → W k j)  : ∀ (fu : Nat) (M : Mem) (v4_ : Int) (v5_ : Int) (v6_ : Int), Fr W M0 M → Post (fun r => Fr W M0 r) (t_Notes_findFits_L54 k1 k2 k3 k4 fu M v4_ v5_ v6_) := by
  intro fu
  induction fu with
  | zero => intro M v4_ v5_ v6_ h; exact post_none
  | succ fu ih =>
    intro M v4_ v5_ v6_ h
    rw [t_Notes_findFits_L54]
    refine post_ite (fun c_1 => ?_) (fun c_1 => ?_)
    · exact post_some h
    · refine post_bind (Q := fun r => Fr W M0 r) (fr_Notes_setDowns (fun k j hk => hW k j (Or.inr (Or.inr (Or.inl hk))))  h) (fun q11 h_q11 => ?_)
      refine post_bind (Q := fun r => Fr W M0 r.1) (fr_Notes_areSo (fun k j hk => hW k j (Or.elim hk (fun h => (Or.inr (Or.inr (Or.inr (Or.inl ⟨(h).1, (Or.elim (h).2 (fun h => (Or.inl h)) (fun h => (Or.elim h (fun h => (Or.inr (Or.inl h))) (fun h => (Or.elim h (fun h => (Or.inr (Or.inr (Or.inl h)))) (fun h => (Or.inr (Or.inr (Or.inr h)))))))))⟩))))) (fun h => (Or.inr (Or.inr (Or.inr (Or.inr h)))))))  h_q11) (fun q13 h_q13 => ?_)
      refine post_ite (fun c_2 => ?_) (fun c_2 => ?_)
      · exact (fr_Notes_findFits_L139 (fun k j hk => hk.elim) (fun a0_ a1_ a2_ a3_ h9 => ih a0_ a1_ a2_ a3_ h9) h_q13)
      · refine post_let (fun M17 e_M17 => ?_)
        have h_M17 : Fr W M0 M17 := by rw [e_M17]; exact Fr.setI h_q13 (hW _ _ (Or.inl ⟨rfl, rfl⟩))
        exact (fr_Notes_findFits_L94 (fun k j hk => hW k j (Or.inr (Or.inl hk))) (fun a0_ a1_ a2_ a3_ h9 => ih a0_ a1_ a2_ a3_ h9) _ _ _ _ _ _ h_M17)
def W_Notes_findFits_L17 (k3 : Nat) (k4 : Nat) : Nat → Int → Prop := fun k j => (k = 172 ∧ (j = 4)) ∨ k = 176 ∨ k = k3 + 1 ∨ (k = k4 ∧ (j = 1 ∨ j = 2 ∨ j = 3 ∨ j = 4)) ∨ k = k4 + 1
theorem fr_Notes_findFits_L17 {k1 : Nat} {k2 : Nat} {k3 : Nat} {k4 : Nat} {W : Nat → Int → Prop} {M0 : Mem} (hW : ∀ k j, (W_Notes_findFits_L17 k3 k4) k j → W k j)  : ∀ (fu : Nat) (M : Mem) (v4_ : Int) (v5_ : Int) (v6_ : Int), Fr W M0 M → Post (fun r => Fr W M0 r) (t_Notes_findFits_L17 k1 k2 k3 k4 fu M v4_ v5_ v6_) := by
  intro fu
  induction fu with
  | zero => intro M v4_ v5_ v6_ h; exact post_none
  | succ fu ih =>
    intro M v4_ v5_ v6_ h
    rw [t_Notes_findFits_L17]
    refine post_ite (fun c_1 => ?_) (fun c_1 => ?_)
    · refine post_let (fun M7 e_M7 => ?_)
      have h_M7 : Fr W M0 M7 := by rw [e_M7]; exact Fr.setI h (hW _ _ (Or.inl ⟨rfl, rfl⟩))
      refine post_bind (Q := fun r => Fr W M0 r) (fr_Arrays_fill (fun k j hk => hW k j (Or.inr (Or.inl hk)))  h_M7) (fun q8 h_q8 => ?_)
      exact (fr_Notes_findFits_L54 (fun k j hk => hW k j (Or.elim hk (fun h => (Or.inl ⟨(h).1, (h).2⟩)) (fun h => (Or.elim h (fun h => (Or.inr (Or.inl h))) (fun h => (Or.elim h (fun h => (Or.inr (Or.inr (Or.inl h)))) (fun h => (Or.elim h (fun h => (Or.inr (Or.inr (Or.inr (Or.inl ⟨(h).1, (Or.elim (h).2 (fun h => (Or.inl h)) (fun h => (Or.elim h (fun h => (Or.inr (Or.inl h))) (fun h => (Or.elim h (fun h => (Or.inr (Or.inr (Or.inl h)))) (fun h => (Or.inr (Or.inr (Or.inr h)))))))))⟩))))) (fun h => (Or.inr (Or.inr (Or.inr (Or.inr h)))))))))))))  _ _ _ _ _ h_q8)
    · exact (ih _ _ _ _ h)
def W_Notes_findFits (k3 : Nat) (k4 : Nat) : Nat → Int → Prop := fun k j => (k = 172 ∧ (j = 4)) ∨ k = 176 ∨ (k = k3 ∧ (j = 4 ∨ j = 5 ∨ j = 6)) ∨ k = k3 + 1 ∨ k = k3 + 2 ∨ k = k3 + 3 ∨ k = k3 + 4 ∨ (k = k4 ∧ (j = 1 ∨ j = 2 ∨ j = 3 ∨ j = 4)) ∨ k = k4 + 1
theorem fr_Notes_findFits {k1 : Nat} {k2 : Nat} {k3 : Nat} {k4 : Nat} {W : Nat → Int → Prop} {M0 : Mem} (hW : ∀ k j, (W_Notes_findFits k3 k4) k j → W k j)  {M : Mem} (h : Fr W M0 M) : Post (fun r => Fr W M0 r) (t_Notes_findFits M k1 k2 k3 k4) := by
  unfold t_Notes_findFits
  refine post_let (fun q1 e_q1 => ?_)
  have h_q1 : Fr W M0 q1 := by rw [e_q1]; exact (fr_Scene_copy (fun k j hk => hW k j (Or.elim hk (fun h => (Or.inr (Or.inr (Or.inl ⟨(h).1, (Or.elim (h).2 (fun h => (Or.inl h)) (fun h => (Or.elim h (fun h => (Or.inr (Or.inl h))) (fun h => (Or.inr (Or.inr h))))))⟩)))) (fun h => (Or.elim h (fun h => (Or.inr (Or.inr (Or.inr (Or.inl h))))) (fun h => (Or.elim h (fun h => (Or.inr (Or.inr (Or.inr (Or.inr (Or.inl h)))))) (fun h => (Or.elim h (fun h => (Or.inr (Or.inr (Or.inr (Or.inr (Or.inr (Or.inl h))))))) (fun h => (Or.inr (Or.inr (Or.inr (Or.inr (Or.inr (Or.inr (Or.inl h))))))))))))))))  h)
  refine post_bindv (fun q3 => ?_)
  exact (fr_Notes_findFits_L17 (fun k j hk => hW k j (Or.elim hk (fun h => (Or.inl ⟨(h).1, (h).2⟩)) (fun h => (Or.elim h (fun h => (Or.inr (Or.inl h))) (fun h => (Or.elim h (fun h => (Or.inr (Or.inr (Or.inr (Or.inl h))))) (fun h => (Or.elim h (fun h => (Or.inr (Or.inr (Or.inr (Or.inr (Or.inr (Or.inr (Or.inr (Or.inl ⟨(h).1, (Or.elim (h).2 (fun h => (Or.inl h)) (fun h => (Or.elim h (fun h => (Or.inr (Or.inl h))) (fun h => (Or.elim h (fun h => (Or.inr (Or.inr (Or.inl h)))) (fun h => (Or.inr (Or.inr (Or.inr h)))))))))⟩))))))))) (fun h => (Or.inr (Or.inr (Or.inr (Or.inr (Or.inr (Or.inr (Or.inr (Or.inr h)))))))))))))))))  _ _ _ _ _ h_q1)
def W_WF_fits : Nat → Int → Prop := fun k j => (k = 172 ∧ (j = 4)) ∨ k = 176 ∨ (k = 189 ∧ (j = 1 ∨ j = 2 ∨ j = 3 ∨ j = 4)) ∨ k = 190 ∨ (k = 52 ∧ (j = 4 ∨ j = 5 ∨ j = 6)) ∨ k = 53 ∨ k = 54 ∨ k = 55 ∨ k = 56
theorem fr_WF_fits  {W : Nat → Int → Prop} {M0 : Mem} (hW : ∀ k j, (W_WF_fits) k j → W k j)  {M : Mem} (h : Fr W M0 M) : Post (fun r => Fr W M0 r.1) (t_WF_fits M) := by
  unfold t_WF_fits
  refine post_bind (Q := fun r => Fr W M0 r) (fr_Notes_findFits (fun k j hk => hW k j (Or.elim hk (fun h => (Or.inl ⟨(h).1, (h).2⟩)) (fun h => (Or.elim h (fun h => (Or.inr (Or.inl h))) (fun h => (Or.elim h (fun h => (Or.inr (Or.inr (Or.inr (Or.inr (Or.inl ⟨(h).1, (Or.elim (h).2 (fun h => (Or.inl h)) (fun h => (Or.elim h (fun h => (Or.inr (Or.inl h))) (fun h => (Or.inr (Or.inr h))))))⟩)))))) (fun h => (Or.elim h (fun h => (Or.inr (Or.inr (Or.inr (Or.inr (Or.inr (Or.inl h))))))) (fun h => (Or.elim h (fun h => (Or.inr (Or.inr (Or.inr (Or.inr (Or.inr (Or.inr (Or.inl h)))))))) (fun h => (Or.elim h (fun h => (Or.inr (Or.inr (Or.inr (Or.inr (Or.inr (Or.inr (Or.inr (Or.inl h))))))))) (fun h => (Or.elim h (fun h => (Or.inr (Or.inr (Or.inr (Or.inr (Or.inr (Or.inr (Or.inr (Or.inr h))))))))) (fun h => (Or.elim h (fun h => (Or.inr (Or.inr (Or.inl ⟨(h).1, (Or.elim (h).2 (fun h => (Or.inl h)) (fun h => (Or.elim h (fun h => (Or.inr (Or.inl h))) (fun h => (Or.elim h (fun h => (Or.inr (Or.inr (Or.inl h)))) (fun h => (Or.inr (Or.inr (Or.inr h)))))))))⟩)))) (fun h => (Or.inr (Or.inr (Or.inr (Or.inl h)))))))))))))))))))))  h) (fun q2 h_q2 => ?_)
  exact post_some h_q2
def W_WF_may : Nat → Int → Prop := fun k j => (k = 172 ∧ (j = 4)) ∨ k = 176 ∨ (k = 189 ∧ (j = 1 ∨ j = 2 ∨ j = 3 ∨ j = 4)) ∨ k = 190 ∨ (k = 52 ∧ (j = 4 ∨ j = 5 ∨ j = 6)) ∨ k = 53 ∨ k = 54 ∨ k = 55 ∨ k = 56
theorem fr_WF_may {x1 : Int} {W : Nat → Int → Prop} {M0 : Mem} (hW : ∀ k j, (W_WF_may) k j → W k j)  {M : Mem} (h : Fr W M0 M) : Post (fun r => Fr W M0 r.1) (t_WF_may M x1) := by
  unfold t_WF_may
  refine post_let (fun q2 _ => ?_)
  refine post_ite (fun c_1 => ?_) (fun c_1 => ?_)
  · exact post_some h
  · refine post_bind (Q := fun r => Fr W M0 r) (fr_Notes_findFits (fun k j hk => hW k j (Or.elim hk (fun h => (Or.inl ⟨(h).1, (h).2⟩)) (fun h => (Or.elim h (fun h => (Or.inr (Or.inl h))) (fun h => (Or.elim h (fun h => (Or.inr (Or.inr (Or.inr (Or.inr (Or.inl ⟨(h).1, (Or.elim (h).2 (fun h => (Or.inl h)) (fun h => (Or.elim h (fun h => (Or.inr (Or.inl h))) (fun h => (Or.inr (Or.inr h))))))⟩)))))) (fun h => (Or.elim h (fun h => (Or.inr (Or.inr (Or.inr (Or.inr (Or.inr (Or.inl h))))))) (fun h => (Or.elim h (fun h => (Or.inr (Or.inr (Or.inr (Or.inr (Or.inr (Or.inr (Or.inl h)))))))) (fun h => (Or.elim h (fun h => (Or.inr (Or.inr (Or.inr (Or.inr (Or.inr (Or.inr (Or.inr (Or.inl h))))))))) (fun h => (Or.elim h (fun h => (Or.inr (Or.inr (Or.inr (Or.inr (Or.inr (Or.inr (Or.inr (Or.inr h))))))))) (fun h => (Or.elim h (fun h => (Or.inr (Or.inr (Or.inl ⟨(h).1, (Or.elim (h).2 (fun h => (Or.inl h)) (fun h => (Or.elim h (fun h => (Or.inr (Or.inl h))) (fun h => (Or.elim h (fun h => (Or.inr (Or.inr (Or.inl h)))) (fun h => (Or.inr (Or.inr (Or.inr h)))))))))⟩)))) (fun h => (Or.inr (Or.inr (Or.inr (Or.inl h)))))))))))))))))))))  h) (fun q6 h_q6 => ?_)
    refine post_let (fun q8 _ => ?_)
    exact post_some h_q6
def W_Chronicle_number (k0 : Nat) : Nat → Int → Prop := fun k j => (k = k0 ∧ (j = 5))
theorem fr_Chronicle_number {k0 : Nat} {W : Nat → Int → Prop} {M0 : Mem} (hW : ∀ k j, (W_Chronicle_number k0) k j → W k j)  {M : Mem} (h : Fr W M0 M) : Fr W M0 (t_Chronicle_number M k0).1 := by
  show Pl (fun r => Fr W M0 r.1) (t_Chronicle_number M k0)
  unfold t_Chronicle_number
  refine pl_let (fun M1 e_M1 => ?_)
  have h_M1 : Fr W M0 M1 := by rw [e_M1]; exact Fr.setL h (hW _ _ ⟨rfl, rfl⟩)
  exact h_M1
def W_Chronicle_goOn_L61 (k0 : Nat) : Nat → Int → Prop := fun k j => (k = k0 ∧ (j = 3)) ∨ k = k0 + 1 ∨ k = k0 + 2 ∨ k = k0 + 3
theorem fr_Chronicle_goOn_L61 {k0 : Nat} {k1 : Nat} {k2 : Nat} {v1_ : Int} {v2_ : Int} {v3_ : Int} {W : Nat → Int → Prop} {M0 : Mem} (hW : ∀ k j, (W_Chronicle_goOn_L61 k0) k j → W k j)  {M : Mem} (h : Fr W M0 M) : Post (fun r => Fr W M0 r) (t_Chronicle_goOn_L61 k0 k1 k2 M v1_ v2_ v3_) := by
  unfold t_Chronicle_goOn_L61
  refine post_let (fun q16 e_q16 => ?_)
  have h_q16 : Fr W M0 q16 := by rw [e_q16]; exact (fr_WF_put (fun k j hk => hW k j (Or.inr (Or.inl hk)))  h)
  refine post_let (fun q19 e_q19 => ?_)
  have h_q19 : Fr W M0 q19 := by rw [e_q19]; exact (fr_WF_put (fun k j hk => hW k j (Or.inr (Or.inr (Or.inl hk))))  h_q16)
  refine post_let (fun q22 e_q22 => ?_)
  have h_q22 : Fr W M0 q22 := by rw [e_q22]; exact (fr_WF_put (fun k j hk => hW k j (Or.inr (Or.inr (Or.inr hk))))  h_q19)
  refine post_let (fun M25 e_M25 => ?_)
  have h_M25 : Fr W M0 M25 := by rw [e_M25]; exact Fr.setI h_q22 (hW _ _ (Or.inl ⟨rfl, rfl⟩))
  exact post_some h_M25
def W_Chronicle_goOn (k0 : Nat) (k2 : Nat) : Nat → Int → Prop := fun k j => (k = k0 ∧ (j = 3 ∨ j = 5)) ∨ k = k0 + 1 ∨ k = k0 + 2 ∨ k = k0 + 3 ∨ (k = k2 ∧ (j = 6)) ∨ k = k2 + 1
theorem fr_Chronicle_goOn {k0 : Nat} {k1 : Nat} {k2 : Nat} {W : Nat → Int → Prop} {M0 : Mem} (hW : ∀ k j, (W_Chronicle_goOn k0 k2) k j → W k j)  {M : Mem} (h : Fr W M0 M) : Post (fun r => Fr W M0 r) (t_Chronicle_goOn M k0 k1 k2) := by
  unfold t_Chronicle_goOn
  refine post_ite (fun c_1 => ?_) (fun c_1 => ?_)
  · exact (fr_Chronicle_goOn_L61 (fun k j hk => hW k j (Or.elim hk (fun h => (Or.inl ⟨(h).1, (Or.inl (h).2)⟩)) (fun h => (Or.elim h (fun h => (Or.inr (Or.inl h))) (fun h => (Or.elim h (fun h => (Or.inr (Or.inr (Or.inl h)))) (fun h => (Or.inr (Or.inr (Or.inr (Or.inl h)))))))))))  h)
  · refine post_let (fun q3 e_q3 => ?_)
    have h_q3 : Fr W M0 q3.1 := by rw [e_q3]; exact (fr_Chronicle_number (fun k j hk => hW k j (Or.inl ⟨(hk).1, (Or.inr (hk).2)⟩))  h)
    refine post_ite (fun c_2 => ?_) (fun c_2 => ?_)
    · exact post_none
    · refine post_let (fun q7 e_q7 => ?_)
      have h_q7 : Fr W M0 q7.1 := by rw [e_q7]; exact (fr_Chronicle_number (fun k j hk => hW k j (Or.inl ⟨(hk).1, (Or.inr (hk).2)⟩))  h_q3)
      refine post_let (fun q9 _ => ?_)
      refine post_let (fun q11 e_q11 => ?_)
      have h_q11 : Fr W M0 q11 := by rw [e_q11]; exact (fr_WF_put (fun k j hk => hW k j (Or.inr (Or.inr (Or.inr (Or.inr (Or.inr hk))))))  h_q7)
      refine post_bind (Q := fun r => Fr W M0 r) (fr_Scene_pourAnew (fun k j hk => hW k j (Or.inr (Or.inr (Or.inr (Or.inr (Or.inl ⟨(hk).1, (hk).2⟩))))))  h_q11) (fun q13 h_q13 => ?_)
      exact (fr_Chronicle_goOn_L61 (fun k j hk => hW k j (Or.elim hk (fun h => (Or.inl ⟨(h).1, (Or.inl (h).2)⟩)) (fun h => (Or.elim h (fun h => (Or.inr (Or.inl h))) (fun h => (Or.elim h (fun h => (Or.inr (Or.inr (Or.inl h)))) (fun h => (Or.inr (Or.inr (Or.inr (Or.inl h)))))))))))  h_q13)
def W_WF_years_L73 : Nat → Int → Prop := fun k j => False
theorem fr_WF_years_L73 {x1 : Int} {W : Nat → Int → Prop} {M0 : Mem} (hW : ∀ k j, (W_WF_years_L73) k j → W k j)  {M : Mem} (h : Fr W M0 M) : Post (fun r => Fr W M0 r.1) (t_WF_years_L73 x1 M) := by
  unfold t_WF_years_L73
  exact post_some h
def W_WF_years_L28 : Nat → Int → Prop := fun k j => (k = 177 ∧ (j = 8)) ∨ (k = 47 ∧ (j = 6)) ∨ k = 48 ∨ (k = 62 ∧ (j = 3 ∨ j = 5)) ∨ k = 63 ∨ k = 64 ∨ k = 65 ∨ (k = 70 ∧ (j = 2))
theorem fr_WF_years_L28 {x1 : Int} {W : Nat → Int → Prop} {M0 : Mem} (hW : ∀ k j, (W_WF_years_L28) k j → W k j)  : ∀ (fu : Nat) (M : Mem) (v2_ : Int), Fr W M0 M → Post (fun r => Fr W M0 r.1) (t_WF_years_L28 x1 fu M v2_) := by
  intro fu
  induction fu with
  | zero => intro M v2_ h; exact post_none
  | succ fu ih =>
    intro M v2_ h
    rw [t_WF_years_L28]
    refine post_ite (fun c_1 => ?_) (fun c_1 => ?_)
    · refine post_ite (fun c_2 => ?_) (fun c_2 => ?_)
      · exact (fr_WF_years_L73 (fun k j hk => hk.elim)  h)
      · refine post_let (fun q7 e_q7 => ?_)
        have h_q7 : Fr W M0 q7 := by rw [e_q7]; exact (fr_Past_clear (fun k j hk => hW k j (Or.inr (Or.inr (Or.inr (Or.inr (Or.inr (Or.inr (Or.inr ⟨(hk).1, (hk).2⟩))))))))  h)
        refine post_let (fun M9 e_M9 => ?_)
        have h_M9 : Fr W M0 M9 := by rw [e_M9]; exact Fr.setI h_q7 (hW _ _ (Or.inl ⟨rfl, rfl⟩))
        exact (fr_WF_years_L73 (fun k j hk => hk.elim)  h_M9)
    · refine post_bind (Q := fun r => Fr W M0 r) (fr_Chronicle_goOn (fun k j hk => hW k j (Or.elim hk (fun h => (Or.inr (Or.inr (Or.inr (Or.inl ⟨(h).1, (Or.elim (h).2 (fun h => (Or.inl h)) (fun h => (Or.inr h)))⟩))))) (fun h => (Or.elim h (fun h => (Or.inr (Or.inr (Or.inr (Or.inr (Or.inl h)))))) (fun h => (Or.elim h (fun h => (Or.inr (Or.inr (Or.inr (Or.inr (Or.inr (Or.inl h))))))) (fun h => (Or.elim h (fun h => (Or.inr (Or.inr (Or.inr (Or.inr (Or.inr (Or.inr (Or.inl h)))))))) (fun h => (Or.elim h (fun h => (Or.inr (Or.inl ⟨(h).1, (h).2⟩))) (fun h => (Or.inr (Or.inr (Or.inl h))))))))))))))  h) (fun q11 h_q11 => ?_)
      exact (ih _ _ h_q11)
def W_WF_years : Nat → Int → Prop := fun k j => (k = 177 ∧ (j = 8)) ∨ (k = 47 ∧ (j = 6)) ∨ k = 48 ∨ (k = 62 ∧ (j = 3 ∨ j = 5)) ∨ k = 63 ∨ k = 64 ∨ k = 65 ∨ (k = 70 ∧ (j = 2))
theorem fr_WF_years {x1 : Int} {W : Nat → Int → Prop} {M0 : Mem} (hW : ∀ k j, (W_WF_years) k j → W k j)  {M : Mem} (h : Fr W M0 M) : Post (fun r => Fr W M0 r.1) (t_WF_years M x1) := by
  unfold t_WF_years
  refine post_ite (fun c_1 => ?_) (fun c_1 => ?_)
  · exact post_some h
  · refine post_ite (fun c_2 => ?_) (fun c_2 => ?_)
    · exact post_some h
    · refine post_ite (fun c_3 => ?_) (fun c_3 => ?_)
      · exact (fr_WF_years_L28 (fun k j hk => hW k j (Or.elim hk (fun h => (Or.inl ⟨(h).1, (h).2⟩)) (fun h => (Or.elim h (fun h => (Or.inr (Or.inl ⟨(h).1, (h).2⟩))) (fun h => (Or.elim h (fun h => (Or.inr (Or.inr (Or.inl h)))) (fun h => (Or.elim h (fun h => (Or.inr (Or.inr (Or.inr (Or.inl ⟨(h).1, (Or.elim (h).2 (fun h => (Or.inl h)) (fun h => (Or.inr h)))⟩))))) (fun h => (Or.elim h (fun h => (Or.inr (Or.inr (Or.inr (Or.inr (Or.inl h)))))) (fun h => (Or.elim h (fun h => (Or.inr (Or.inr (Or.inr (Or.inr (Or.inr (Or.inl h))))))) (fun h => (Or.elim h (fun h => (Or.inr (Or.inr (Or.inr (Or.inr (Or.inr (Or.inr (Or.inl h)))))))) (fun h => (Or.inr (Or.inr (Or.inr (Or.inr (Or.inr (Or.inr (Or.inr ⟨(h).1, (h).2⟩))))))))))))))))))))))  _ _ _ h)
      · exact post_some h
def W_WF_tried_L152 : Nat → Int → Prop := fun k j => k = 54 ∨ k = 55 ∨ k = 56
theorem fr_WF_tried_L152 {x1 : Int} {x2 : Int} {x3 : Int} {bk126 : Mem → Int → Int → Option (Mem × Int)} {v3_ : Int} {v4_ : Int} {u6_ : Nat} {v7_ : Int} {W : Nat → Int → Prop} {M0 : Mem} (hW : ∀ k j, (W_WF_tried_L152) k j → W k j) (hbk126 : ∀ (a0_ : Mem) (a1_ : Int) (a2_ : Int), Fr W M0 a0_ → Post (fun r => Fr W M0 r.1) (bk126 a0_ a1_ a2_)) {M : Mem} (h : Fr W M0 M) : Post (fun r => Fr W M0 r.1) (t_WF_tried_L152 x1 x2 x3 bk126 M v3_ v4_ u6_ v7_) := by
  unfold t_WF_tried_L152
  refine post_bind (Q := fun r => Fr W M0 r.1) (fr_Scene_beat (fun k j hk => hW k j (Or.elim hk (fun h => (Or.inl h)) (fun h => (Or.elim h (fun h => (Or.inr (Or.inl h))) (fun h => (Or.inr (Or.inr h)))))))  h) (fun q22 h_q22 => ?_)
  exact hbk126 _ _ _ h_q22
def W_WF_tried_L126 : Nat → Int → Prop := fun k j => k = 54 ∨ k = 55 ∨ k = 56
theorem fr_WF_tried_L126 {x1 : Int} {x2 : Int} {x3 : Int} {W : Nat → Int → Prop} {M0 : Mem} (hW : ∀ k j, (W_WF_tried_L126) k j → W k j)  : ∀ (fu : Nat) (M : Mem) (v3_ : Int) (v4_ : Int), Fr W M0 M → Post (fun r => Fr W M0 r.1) (t_WF_tried_L126 x1 x2 x3 fu M v3_ v4_) := by
  intro fu
  induction fu with
  | zero => intro M v3_ v4_ h; exact post_none
  | succ fu ih =>
    intro M v3_ v4_ h
    rw [t_WF_tried_L126]
    refine post_ite (fun c_1 => ?_) (fun c_1 => ?_)
    · exact post_some h
    · refine post_ite (fun c_2 => ?_) (fun c_2 => ?_)
      · exact (fr_WF_tried_L152 (fun k j hk => hW k j (Or.elim hk (fun h => (Or.inl h)) (fun h => (Or.elim h (fun h => (Or.inr (Or.inl h))) (fun h => (Or.inr (Or.inr h))))))) (fun a0_ a1_ a2_ h9 => ih a0_ a1_ a2_ h9) h)
      · exact (fr_WF_tried_L152 (fun k j hk => hW k j (Or.elim hk (fun h => (Or.inl h)) (fun h => (Or.elim h (fun h => (Or.inr (Or.inl h))) (fun h => (Or.inr (Or.inr h))))))) (fun a0_ a1_ a2_ h9 => ih a0_ a1_ a2_ h9) h)
def W_WF_tried_L120 : Nat → Int → Prop := fun k j => k = 54 ∨ k = 55 ∨ k = 56
theorem fr_WF_tried_L120 {x1 : Int} {x2 : Int} {x3 : Int} {W : Nat → Int → Prop} {M0 : Mem} (hW : ∀ k j, (W_WF_tried_L120) k j → W k j)  {M : Mem} (h : Fr W M0 M) : Post (fun r => Fr W M0 r.1) (t_WF_tried_L120 x1 x2 x3 M) := by
  unfold t_WF_tried_L120
  exact (fr_WF_tried_L126 (fun k j hk => hW k j (Or.elim hk (fun h => (Or.inl h)) (fun h => (Or.elim h (fun h => (Or.inr (Or.inl h))) (fun h => (Or.inr (Or.inr h)))))))  _ _ _ _ h)
def W_WF_tried : Nat → Int → Prop := fun k j => (k = 52 ∧ (j = 4 ∨ j = 5 ∨ j = 6)) ∨ k = 53 ∨ k = 54 ∨ k = 55 ∨ k = 56
theorem fr_WF_tried {x1 : Int} {x2 : Int} {x3 : Int} {W : Nat → Int → Prop} {M0 : Mem} (hW : ∀ k j, (W_WF_tried) k j → W k j)  {M : Mem} (h : Fr W M0 M) : Post (fun r => Fr W M0 r.1) (t_WF_tried M x1 x2 x3) := by
  unfold t_WF_tried
  refine post_ite (fun c_1 => ?_) (fun c_1 => ?_)
  · exact post_some h
  · refine post_ite (fun c_2 => ?_) (fun c_2 => ?_)
    · exact post_some h
    · refine post_let (fun q3 _ => ?_)
      refine post_ite (fun c_3 => ?_) (fun c_3 => ?_)
      · exact post_some h
      · refine post_let (fun q6 e_q6 => ?_)
        have h_q6 : Fr W M0 q6 := by rw [e_q6]; exact (fr_Scene_copy (fun k j hk => hW k j (Or.elim hk (fun h => (Or.inl ⟨(h).1, (Or.elim (h).2 (fun h => (Or.inl h)) (fun h => (Or.elim h (fun h => (Or.inr (Or.inl h))) (fun h => (Or.inr (Or.inr h))))))⟩)) (fun h => (Or.elim h (fun h => (Or.inr (Or.inl h))) (fun h => (Or.elim h (fun h => (Or.inr (Or.inr (Or.inl h)))) (fun h => (Or.elim h (fun h => (Or.inr (Or.inr (Or.inr (Or.inl h))))) (fun h => (Or.inr (Or.inr (Or.inr (Or.inr h)))))))))))))  h)
        refine post_ite (fun c_4 => ?_) (fun c_4 => ?_)
        · refine post_let (fun M9 e_M9 => ?_)
          have h_M9 : Fr W M0 M9 := by rw [e_M9]; exact Fr.setL h_q6 (hW _ _ (Or.inl ⟨rfl, (Or.inr (Or.inl rfl))⟩))
          exact (fr_WF_tried_L120 (fun k j hk => hW k j (Or.elim hk (fun h => (Or.inr (Or.inr (Or.inl h)))) (fun h => (Or.elim h (fun h => (Or.inr (Or.inr (Or.inr (Or.inl h))))) (fun h => (Or.inr (Or.inr (Or.inr (Or.inr h)))))))))  h_M9)
        · refine post_ite (fun c_5 => ?_) (fun c_5 => ?_)
          · exact (fr_WF_tried_L120 (fun k j hk => hW k j (Or.elim hk (fun h => (Or.inr (Or.inr (Or.inl h)))) (fun h => (Or.elim h (fun h => (Or.inr (Or.inr (Or.inr (Or.inl h))))) (fun h => (Or.inr (Or.inr (Or.inr (Or.inr h)))))))))  h_q6)
          · refine post_ite (fun c_6 => ?_) (fun c_6 => ?_)
            · refine post_let (fun M12 e_M12 => ?_)
              have h_M12 : Fr W M0 M12 := by rw [e_M12]; exact Fr.setL h_q6 (hW _ _ (Or.inl ⟨rfl, (Or.inl rfl)⟩))
              exact (fr_WF_tried_L120 (fun k j hk => hW k j (Or.elim hk (fun h => (Or.inr (Or.inr (Or.inl h)))) (fun h => (Or.elim h (fun h => (Or.inr (Or.inr (Or.inr (Or.inl h))))) (fun h => (Or.inr (Or.inr (Or.inr (Or.inr h)))))))))  h_M12)
            · refine post_ite (fun c_7 => ?_) (fun c_7 => ?_)
              · refine post_let (fun q14 e_q14 => ?_)
                have h_q14 : Fr W M0 q14 := by rw [e_q14]; exact (fr_WF_put (fun k j hk => hW k j (Or.inr (Or.inl hk)))  h_q6)
                exact (fr_WF_tried_L120 (fun k j hk => hW k j (Or.elim hk (fun h => (Or.inr (Or.inr (Or.inl h)))) (fun h => (Or.elim h (fun h => (Or.inr (Or.inr (Or.inr (Or.inl h))))) (fun h => (Or.inr (Or.inr (Or.inr (Or.inr h)))))))))  h_q14)
              · refine post_ite (fun c_8 => ?_) (fun c_8 => ?_)
                · refine post_let (fun q17 e_q17 => ?_)
                  have h_q17 : Fr W M0 q17 := by rw [e_q17]; exact (fr_WF_put (fun k j hk => hW k j (Or.inr (Or.inr (Or.inl hk))))  h_q6)
                  exact (fr_WF_tried_L120 (fun k j hk => hW k j (Or.elim hk (fun h => (Or.inr (Or.inr (Or.inl h)))) (fun h => (Or.elim h (fun h => (Or.inr (Or.inr (Or.inr (Or.inl h))))) (fun h => (Or.inr (Or.inr (Or.inr (Or.inr h)))))))))  h_q17)
                · exact (fr_WF_tried_L120 (fun k j hk => hW k j (Or.elim hk (fun h => (Or.inr (Or.inr (Or.inl h)))) (fun h => (Or.elim h (fun h => (Or.inr (Or.inr (Or.inr (Or.inl h))))) (fun h => (Or.inr (Or.inr (Or.inr (Or.inr h)))))))))  h_q6)
def W_Past_takeBack_L77 : Nat → Int → Prop := fun k j => (k = 70 ∧ (j = 1 ∨ j = 2))
theorem fr_Past_takeBack_L77 {k1 : Nat} {v2_ : Int} {W : Nat → Int → Prop} {M0 : Mem} (hW : ∀ k j, (W_Past_takeBack_L77) k j → W k j)  {M : Mem} (h : Fr W M0 M) : Fr W M0 (t_Past_takeBack_L77 k1 M v2_).1 := by
  show Pl (fun r => Fr W M0 r.1) (t_Past_takeBack_L77 k1 M v2_)
  unfold t_Past_takeBack_L77
  refine pl_let (fun M16 e_M16 => ?_)
  have h_M16 : Fr W M0 M16 := by rw [e_M16]; exact Fr.setI h (hW _ _ ⟨rfl, (Or.inl rfl)⟩)
  refine pl_let (fun M18 e_M18 => ?_)
  have h_M18 : Fr W M0 M18 := by rw [e_M18]; exact Fr.setI h_M16 (hW _ _ ⟨rfl, (Or.inr rfl)⟩)
  exact h_M18
def W_Past_takeBack_L53 : Nat → Int → Prop := fun k j => (k = 70 ∧ (j = 1 ∨ j = 2))
theorem fr_Past_takeBack_L53 {k1 : Nat} {W : Nat → Int → Prop} {M0 : Mem} (hW : ∀ k j, (W_Past_takeBack_L53) k j → W k j)  {M : Mem} (h : Fr W M0 M) : Fr W M0 (t_Past_takeBack_L53 k1 M).1 := by
  show Pl (fun r => Fr W M0 r.1) (t_Past_takeBack_L53 k1 M)
  unfold t_Past_takeBack_L53
  refine pl_ite (fun c_1 => ?_) (fun c_1 => ?_)
  · exact (fr_Past_takeBack_L77 (fun k j hk => hW k j ⟨(hk).1, (Or.elim (hk).2 (fun h => (Or.inl h)) (fun h => (Or.inr h)))⟩)  h)
  · exact (fr_Past_takeBack_L77 (fun k j hk => hW k j ⟨(hk).1, (Or.elim (hk).2 (fun h => (Or.inl h)) (fun h => (Or.inr h)))⟩)  h)
def W_Past_takeBack (k1 : Nat) : Nat → Int → Prop := fun k j => (k = 70 ∧ (j = 1 ∨ j = 2)) ∨ (k = k1 ∧ (j = 4 ∨ j = 5 ∨ j = 6)) ∨ k = k1 + 1 ∨ k = k1 + 2 ∨ k = k1 + 3 ∨ k = k1 + 4
theorem fr_Past_takeBack {k1 : Nat} {W : Nat → Int → Prop} {M0 : Mem} (hW : ∀ k j, (W_Past_takeBack k1) k j → W k j)  {M : Mem} (h : Fr W M0 M) : Fr W M0 (t_Past_takeBack M k1).1 := by
  show Pl (fun r => Fr W M0 r.1) (t_Past_takeBack M k1)
  unfold t_Past_takeBack
  refine pl_ite (fun c_1 => ?_) (fun c_1 => ?_)
  · exact h
  · refine pl_ite (fun c_2 => ?_) (fun c_2 => ?_)
    · exact (fr_Past_takeBack_L53 (fun k j hk => hW k j (Or.inl ⟨(hk).1, (Or.elim (hk).2 (fun h => (Or.inl h)) (fun h => (Or.inr h)))⟩))  h)
    · refine pl_ite (fun c_3 => ?_) (fun c_3 => ?_)
      · exact (fr_Past_takeBack_L53 (fun k j hk => hW k j (Or.inl ⟨(hk).1, (Or.elim (hk).2 (fun h => (Or.inl h)) (fun h => (Or.inr h)))⟩))  h)
      · refine pl_let (fun q11 e_q11 => ?_)
        have h_q11 : Fr W M0 q11 := by rw [e_q11]; exact (fr_Scene_copy (fun k j hk => hW k j (Or.elim hk (fun h => (Or.inr (Or.inl ⟨(h).1, (Or.elim (h).2 (fun h => (Or.inl h)) (fun h => (Or.elim h (fun h => (Or.inr (Or.inl h))) (fun h => (Or.inr (Or.inr h))))))⟩))) (fun h => (Or.elim h (fun h => (Or.inr (Or.inr (Or.inl h)))) (fun h => (Or.elim h (fun h => (Or.inr (Or.inr (Or.inr (Or.inl h))))) (fun h => (Or.elim h (fun h => (Or.inr (Or.inr (Or.inr (Or.inr (Or.inl h)))))) (fun h => (Or.inr (Or.inr (Or.inr (Or.inr (Or.inr h))))))))))))))  h)
        exact (fr_Past_takeBack_L53 (fun k j hk => hW k j (Or.inl ⟨(hk).1, (Or.elim (hk).2 (fun h => (Or.inl h)) (fun h => (Or.inr h)))⟩))  h_q11)
def W_WF_undo : Nat → Int → Prop := fun k j => (k = 177 ∧ (j = 8)) ∨ (k = 47 ∧ (j = 4 ∨ j = 5 ∨ j = 6)) ∨ k = 48 ∨ k = 49 ∨ k = 50 ∨ k = 51 ∨ (k = 70 ∧ (j = 1 ∨ j = 2))
theorem fr_WF_undo  {W : Nat → Int → Prop} {M0 : Mem} (hW : ∀ k j, (W_WF_undo) k j → W k j)  {M : Mem} (h : Fr W M0 M) : Fr W M0 (t_WF_undo M).1 := by
  show Pl (fun r => Fr W M0 r.1) (t_WF_undo M)
  unfold t_WF_undo
  refine pl_let (fun q1 e_q1 => ?_)
  have h_q1 : Fr W M0 q1.1 := by rw [e_q1]; exact (fr_Past_takeBack (fun k j hk => hW k j (Or.elim hk (fun h => (Or.inr (Or.inr (Or.inr (Or.inr (Or.inr (Or.inr ⟨(h).1, (Or.elim (h).2 (fun h => (Or.inl h)) (fun h => (Or.inr h)))⟩))))))) (fun h => (Or.elim h (fun h => (Or.inr (Or.inl ⟨(h).1, (Or.elim (h).2 (fun h => (Or.inl h)) (fun h => (Or.elim h (fun h => (Or.inr (Or.inl h))) (fun h => (Or.inr (Or.inr h))))))⟩))) (fun h => (Or.elim h (fun h => (Or.inr (Or.inr (Or.inl h)))) (fun h => (Or.elim h (fun h => (Or.inr (Or.inr (Or.inr (Or.inl h))))) (fun h => (Or.elim h (fun h => (Or.inr (Or.inr (Or.inr (Or.inr (Or.inl h)))))) (fun h => (Or.inr (Or.inr (Or.inr (Or.inr (Or.inr (Or.inl h)))))))))))))))))  h)
  refine pl_ite (fun c_1 => ?_) (fun c_1 => ?_)
  · exact h_q1
  · refine pl_let (fun M4 e_M4 => ?_)
    have h_M4 : Fr W M0 M4 := by rw [e_M4]; exact Fr.setI h_q1 (hW _ _ (Or.inl ⟨rfl, rfl⟩))
    exact h_M4
def W_Chronicle_copy (k0 : Nat) : Nat → Int → Prop := fun k j => (k = k0 ∧ (j = 3 ∨ j = 4 ∨ j = 5)) ∨ k = k0 + 1 ∨ k = k0 + 2 ∨ k = k0 + 3
theorem fr_Chronicle_copy {k0 : Nat} {k1 : Nat} {W : Nat → Int → Prop} {M0 : Mem} (hW : ∀ k j, (W_Chronicle_copy k0) k j → W k j)  {M : Mem} (h : Fr W M0 M) : Fr W M0 (t_Chronicle_copy M k0 k1) := by
  show Pl (fun r => Fr W M0 r) (t_Chronicle_copy M k0 k1)
  unfold t_Chronicle_copy
  refine pl_let (fun q1 e_q1 => ?_)
  have h_q1 : Fr W M0 q1 := by rw [e_q1]; exact (fr_WF_copyRow (fun k j hk => hW k j (Or.inr (Or.inl hk)))  h)
  refine pl_let (fun q3 e_q3 => ?_)
  have h_q3 : Fr W M0 q3 := by rw [e_q3]; exact (fr_WF_copyRow (fun k j hk => hW k j (Or.inr (Or.inr (Or.inl hk))))  h_q1)
  refine pl_let (fun q5 e_q5 => ?_)
  have h_q5 : Fr W M0 q5 := by rw [e_q5]; exact (fr_WF_copyRow (fun k j hk => hW k j (Or.inr (Or.inr (Or.inr hk))))  h_q3)
  refine pl_let (fun M8 e_M8 => ?_)
  have h_M8 : Fr W M0 M8 := by rw [e_M8]; exact Fr.setI h_q5 (hW _ _ (Or.inl ⟨rfl, (Or.inl rfl)⟩))
  refine pl_let (fun M10 e_M10 => ?_)
  have h_M10 : Fr W M0 M10 := by rw [e_M10]; exact Fr.setI h_M8 (hW _ _ (Or.inl ⟨rfl, (Or.inr (Or.inl rfl))⟩))
  refine pl_let (fun M11 e_M11 => ?_)
  have h_M11 : Fr W M0 M11 := by rw [e_M11]; exact Fr.setL h_M10 (hW _ _ (Or.inl ⟨rfl, (Or.inr (Or.inr rfl))⟩))
  exact h_M11
def W_WF_keep : Nat → Int → Prop := fun k j => (k = 0 ∧ (j = 13)) ∨ (k = 57 ∧ (j = 4 ∨ j = 5 ∨ j = 6)) ∨ k = 58 ∨ k = 59 ∨ k = 60 ∨ k = 61 ∨ (k = 66 ∧ (j = 3 ∨ j = 4 ∨ j = 5)) ∨ k = 67 ∨ k = 68 ∨ k = 69
theorem fr_WF_keep  {W : Nat → Int → Prop} {M0 : Mem} (hW : ∀ k j, (W_WF_keep) k j → W k j)  {M : Mem} (h : Fr W M0 M) : Fr W M0 (t_WF_keep M).1 := by
  show Pl (fun r => Fr W M0 r.1) (t_WF_keep M)
  unfold t_WF_keep
  refine pl_let (fun q1 e_q1 => ?_)
  have h_q1 : Fr W M0 q1 := by rw [e_q1]; exact (fr_Scene_copy (fun k j hk => hW k j (Or.elim hk (fun h => (Or.inr (Or.inl ⟨(h).1, (Or.elim (h).2 (fun h => (Or.inl h)) (fun h => (Or.elim h (fun h => (Or.inr (Or.inl h))) (fun h => (Or.inr (Or.inr h))))))⟩))) (fun h => (Or.elim h (fun h => (Or.inr (Or.inr (Or.inl h)))) (fun h => (Or.elim h (fun h => (Or.inr (Or.inr (Or.inr (Or.inl h))))) (fun h => (Or.elim h (fun h => (Or.inr (Or.inr (Or.inr (Or.inr (Or.inl h)))))) (fun h => (Or.inr (Or.inr (Or.inr (Or.inr (Or.inr (Or.inl h)))))))))))))))  h)
  refine pl_let (fun q3 e_q3 => ?_)
  have h_q3 : Fr W M0 q3 := by rw [e_q3]; exact (fr_Chronicle_copy (fun k j hk => hW k j (Or.elim hk (fun h => (Or.inr (Or.inr (Or.inr (Or.inr (Or.inr (Or.inr (Or.inl ⟨(h).1, (Or.elim (h).2 (fun h => (Or.inl h)) (fun h => (Or.elim h (fun h => (Or.inr (Or.inl h))) (fun h => (Or.inr (Or.inr h))))))⟩)))))))) (fun h => (Or.elim h (fun h => (Or.inr (Or.inr (Or.inr (Or.inr (Or.inr (Or.inr (Or.inr (Or.inl h))))))))) (fun h => (Or.elim h (fun h => (Or.inr (Or.inr (Or.inr (Or.inr (Or.inr (Or.inr (Or.inr (Or.inr (Or.inl h)))))))))) (fun h => (Or.inr (Or.inr (Or.inr (Or.inr (Or.inr (Or.inr (Or.inr (Or.inr (Or.inr h))))))))))))))))  h_q1)
  refine pl_let (fun M5 e_M5 => ?_)
  have h_M5 : Fr W M0 M5 := by rw [e_M5]; exact Fr.setI h_q3 (hW _ _ (Or.inl ⟨rfl, rfl⟩))
  exact h_M5
def W_WF_back : Nat → Int → Prop := fun k j => (k = 177 ∧ (j = 8)) ∨ (k = 47 ∧ (j = 4 ∨ j = 5 ∨ j = 6)) ∨ k = 48 ∨ k = 49 ∨ k = 50 ∨ k = 51 ∨ (k = 62 ∧ (j = 3 ∨ j = 4 ∨ j = 5)) ∨ k = 63 ∨ k = 64 ∨ k = 65 ∨ (k = 70 ∧ (j = 2))
theorem fr_WF_back  {W : Nat → Int → Prop} {M0 : Mem} (hW : ∀ k j, (W_WF_back) k j → W k j)  {M : Mem} (h : Fr W M0 M) : Fr W M0 (t_WF_back M).1 := by
  show Pl (fun r => Fr W M0 r.1) (t_WF_back M)
  unfold t_WF_back
  refine pl_ite (fun c_1 => ?_) (fun c_1 => ?_)
  · exact h
  · refine pl_let (fun q3 e_q3 => ?_)
    have h_q3 : Fr W M0 q3 := by rw [e_q3]; exact (fr_Scene_copy (fun k j hk => hW k j (Or.elim hk (fun h => (Or.inr (Or.inl ⟨(h).1, (Or.elim (h).2 (fun h => (Or.inl h)) (fun h => (Or.elim h (fun h => (Or.inr (Or.inl h))) (fun h => (Or.inr (Or.inr h))))))⟩))) (fun h => (Or.elim h (fun h => (Or.inr (Or.inr (Or.inl h)))) (fun h => (Or.elim h (fun h => (Or.inr (Or.inr (Or.inr (Or.inl h))))) (fun h => (Or.elim h (fun h => (Or.inr (Or.inr (Or.inr (Or.inr (Or.inl h)))))) (fun h => (Or.inr (Or.inr (Or.inr (Or.inr (Or.inr (Or.inl h)))))))))))))))  h)
    refine pl_let (fun q5 e_q5 => ?_)
    have h_q5 : Fr W M0 q5 := by rw [e_q5]; exact (fr_Chronicle_copy (fun k j hk => hW k j (Or.elim hk (fun h => (Or.inr (Or.inr (Or.inr (Or.inr (Or.inr (Or.inr (Or.inl ⟨(h).1, (Or.elim (h).2 (fun h => (Or.inl h)) (fun h => (Or.elim h (fun h => (Or.inr (Or.inl h))) (fun h => (Or.inr (Or.inr h))))))⟩)))))))) (fun h => (Or.elim h (fun h => (Or.inr (Or.inr (Or.inr (Or.inr (Or.inr (Or.inr (Or.inr (Or.inl h))))))))) (fun h => (Or.elim h (fun h => (Or.inr (Or.inr (Or.inr (Or.inr (Or.inr (Or.inr (Or.inr (Or.inr (Or.inl h)))))))))) (fun h => (Or.inr (Or.inr (Or.inr (Or.inr (Or.inr (Or.inr (Or.inr (Or.inr (Or.inr (Or.inl h)))))))))))))))))  h_q3)
    refine pl_let (fun q7 e_q7 => ?_)
    have h_q7 : Fr W M0 q7 := by rw [e_q7]; exact (fr_Past_clear (fun k j hk => hW k j (Or.inr (Or.inr (Or.inr (Or.inr (Or.inr (Or.inr (Or.inr (Or.inr (Or.inr (Or.inr ⟨(hk).1, (hk).2⟩)))))))))))  h_q5)
    refine pl_let (fun M9 e_M9 => ?_)
    have h_M9 : Fr W M0 M9 := by rw [e_M9]; exact Fr.setI h_q7 (hW _ _ (Or.inl ⟨rfl, rfl⟩))
    exact h_M9
def W_MO_begins_L73 : Nat → Int → Prop := fun k j => k = 212
theorem fr_MO_begins_L73 {bk43 : Mem → Int → Option (Mem)} {v1_ : Int} {v3_ : Int} {v4_ : Int} {W : Nat → Int → Prop} {M0 : Mem} (hW : ∀ k j, (W_MO_begins_L73) k j → W k j) (hbk43 : ∀ (a0_ : Mem) (a1_ : Int), Fr W M0 a0_ → Post (fun r => Fr W M0 r) (bk43 a0_ a1_)) {M : Mem} (h : Fr W M0 M) : Post (fun r => Fr W M0 r) (t_MO_begins_L73 bk43 M v1_ v3_ v4_) := by
  unfold t_MO_begins_L73
  refine post_guard (fun c_1 => ?_)
  refine post_let (fun M18 e_M18 => ?_)
  have h_M18 : Fr W M0 M18 := by rw [e_M18]; exact Fr.setI h (hW _ _ rfl)
  exact hbk43 _ _ h_M18
def W_MO_begins_L114 : Nat → Int → Prop := fun k j => k = 213 ∨ k = 214 ∨ k = 215
theorem fr_MO_begins_L114 {bk82 : Mem → Int → Option (Mem)} {v1_ : Int} {v3_ : Int} {v4_ : Int} {W : Nat → Int → Prop} {M0 : Mem} (hW : ∀ k j, (W_MO_begins_L114) k j → W k j) (hbk82 : ∀ (a0_ : Mem) (a1_ : Int), Fr W M0 a0_ → Post (fun r => Fr W M0 r) (bk82 a0_ a1_)) {M : Mem} (h : Fr W M0 M) : Post (fun r => Fr W M0 r) (t_MO_begins_L114 bk82 M v1_ v3_ v4_) := by
  unfold t_MO_begins_L114
  refine post_guard (fun c_1 => ?_)
  refine post_let (fun M20 e_M20 => ?_)
  have h_M20 : Fr W M0 M20 := by rw [e_M20]; exact Fr.setI h (hW _ _ (Or.inl rfl))
  refine post_guard (fun c_2 => ?_)
  refine post_let (fun M22 e_M22 => ?_)
  have h_M22 : Fr W M0 M22 := by rw [e_M22]; exact Fr.setI h_M20 (hW _ _ (Or.inr (Or.inl rfl)))
  refine post_guard (fun c_3 => ?_)
  refine post_let (fun M24 e_M24 => ?_)
  have h_M24 : Fr W M0 M24 := by rw [e_M24]; exact Fr.setI h_M22 (hW _ _ (Or.inr (Or.inr rfl)))
  exact hbk82 _ _ h_M24
def W_MO_begins_L82 : Nat → Int → Prop := fun k j => k = 213 ∨ k = 214 ∨ k = 215
theorem fr_MO_begins_L82  {W : Nat → Int → Prop} {M0 : Mem} (hW : ∀ k j, (W_MO_begins_L82) k j → W k j)  : ∀ (fu : Nat) (M : Mem) (v1_ : Int), Fr W M0 M → Post (fun r => Fr W M0 r) (t_MO_begins_L82  fu M v1_) := by
  intro fu
  induction fu with
  | zero => intro M v1_ h; exact post_none
  | succ fu ih =>
    intro M v1_ h
    rw [t_MO_begins_L82]
    refine post_ite (fun c_1 => ?_) (fun c_1 => ?_)
    · exact post_some h
    · refine post_ite (fun c_2 => ?_) (fun c_2 => ?_)
      · exact (fr_MO_begins_L114 (fun k j hk => hW k j (Or.elim hk (fun h => (Or.inl h)) (fun h => (Or.elim h (fun h => (Or.inr (Or.inl h))) (fun h => (Or.inr (Or.inr h))))))) (fun a0_ a1_ h9 => ih a0_ a1_ h9) h)
      · refine post_guard (fun c_3 => ?_)
        exact (fr_MO_begins_L114 (fun k j hk => hW k j (Or.elim hk (fun h => (Or.inl h)) (fun h => (Or.elim h (fun h => (Or.inr (Or.inl h))) (fun h => (Or.inr (Or.inr h))))))) (fun a0_ a1_ h9 => ih a0_ a1_ h9) h)
def W_MO_begins_L43 : Nat → Int → Prop := fun k j => k = 212 ∨ k = 213 ∨ k = 214 ∨ k = 215
theorem fr_MO_begins_L43  {W : Nat → Int → Prop} {M0 : Mem} (hW : ∀ k j, (W_MO_begins_L43) k j → W k j)  : ∀ (fu : Nat) (M : Mem) (v1_ : Int), Fr W M0 M → Post (fun r => Fr W M0 r) (t_MO_begins_L43  fu M v1_) := by
  intro fu
  induction fu with
  | zero => intro M v1_ h; exact post_none
  | succ fu ih =>
    intro M v1_ h
    rw [t_MO_begins_L43]
    refine post_ite (fun c_1 => ?_) (fun c_1 => ?_)
    · exact (fr_MO_begins_L82 (fun k j hk => hW k j (Or.elim hk (fun h => (Or.inr (Or.inl h))) (fun h => (Or.elim h (fun h => (Or.inr (Or.inr (Or.inl h)))) (fun h => (Or.inr (Or.inr (Or.inr h))))))))  _ _ _ h)
    · refine post_ite (fun c_2 => ?_) (fun c_2 => ?_)
      · exact (fr_MO_begins_L73 (fun k j hk => hW k j (Or.inl hk)) (fun a0_ a1_ h9 => ih a0_ a1_ h9) h)
      · refine post_guard (fun c_3 => ?_)
        exact (fr_MO_begins_L73 (fun k j hk => hW k j (Or.inl hk)) (fun a0_ a1_ h9 => ih a0_ a1_ h9) h)
def W_MO_begins : Nat → Int → Prop := fun k j => (k = 207 ∧ (j = 0)) ∨ (k = 208 ∧ (j = 0)) ∨ (k = 209 ∧ (j = 0)) ∨ (k = 210 ∧ (j = 0)) ∨ (k = 211 ∧ (j = 0)) ∨ k = 212 ∨ k = 213 ∨ k = 214 ∨ k = 215
theorem fr_MO_begins  {W : Nat → Int → Prop} {M0 : Mem} (hW : ∀ k j, (W_MO_begins) k j → W k j)  {M : Mem} (h : Fr W M0 M) : Post (fun r => Fr W M0 r) (t_MO_begins M) := by
  unfold t_MO_begins
  refine post_let (fun M1 e_M1 => ?_)
  have h_M1 : Fr W M0 M1 := by rw [e_M1]; exact Fr.setI h (hW _ _ (Or.inl ⟨rfl, rfl⟩))
  refine post_let (fun M2 e_M2 => ?_)
  have h_M2 : Fr W M0 M2 := by rw [e_M2]; exact Fr.setI h_M1 (hW _ _ (Or.inr (Or.inl ⟨rfl, rfl⟩)))
  refine post_let (fun M4 e_M4 => ?_)
  have h_M4 : Fr W M0 M4 := by rw [e_M4]; exact Fr.setI h_M2 (hW _ _ (Or.inr (Or.inr (Or.inl ⟨rfl, rfl⟩))))
  refine post_let (fun M5 e_M5 => ?_)
  have h_M5 : Fr W M0 M5 := by rw [e_M5]; exact Fr.setL h_M4 (hW _ _ (Or.inr (Or.inr (Or.inr (Or.inl ⟨rfl, rfl⟩)))))
  refine post_let (fun M6 e_M6 => ?_)
  have h_M6 : Fr W M0 M6 := by rw [e_M6]; exact Fr.setL h_M5 (hW _ _ (Or.inr (Or.inr (Or.inr (Or.inr (Or.inl ⟨rfl, rfl⟩))))))
  exact (fr_MO_begins_L43 (fun k j hk => hW k j (Or.elim hk (fun h => (Or.inr (Or.inr (Or.inr (Or.inr (Or.inr (Or.inl h))))))) (fun h => (Or.elim h (fun h => (Or.inr (Or.inr (Or.inr (Or.inr (Or.inr (Or.inr (Or.inl h)))))))) (fun h => (Or.elim h (fun h => (Or.inr (Or.inr (Or.inr (Or.inr (Or.inr (Or.inr (Or.inr (Or.inl h))))))))) (fun h => (Or.inr (Or.inr (Or.inr (Or.inr (Or.inr (Or.inr (Or.inr (Or.inr h)))))))))))))))  _ _ _ h_M6)
def W_MO_feed_L73 : Nat → Int → Prop := fun k j => k = 192
theorem fr_MO_feed_L73 {x1 : Int} {x2 : Int} {x3 : Int} {x4 : Int} {x5 : Int} {bk20 : Mem → Int → Option (Mem × Int)} {v6_ : Int} {v7_ : Int} {W : Nat → Int → Prop} {M0 : Mem} (hW : ∀ k j, (W_MO_feed_L73) k j → W k j) (hbk20 : ∀ (a0_ : Mem) (a1_ : Int), Fr W M0 a0_ → Post (fun r => Fr W M0 r.1) (bk20 a0_ a1_)) {M : Mem} (h : Fr W M0 M) : Post (fun r => Fr W M0 r.1) (t_MO_feed_L73 x1 x2 x3 x4 x5 bk20 M v6_ v7_) := by
  unfold t_MO_feed_L73
  refine post_guard (fun c_1 => ?_)
  refine post_let (fun M14 e_M14 => ?_)
  have h_M14 : Fr W M0 M14 := by rw [e_M14]; exact Fr.setI h (hW _ _ rfl)
  exact hbk20 _ _ h_M14
def W_MO_feed_L20 : Nat → Int → Prop := fun k j => (k = 191 ∧ (j = 2)) ∨ k = 192
theorem fr_MO_feed_L20 {x1 : Int} {x2 : Int} {x3 : Int} {x4 : Int} {x5 : Int} {W : Nat → Int → Prop} {M0 : Mem} (hW : ∀ k j, (W_MO_feed_L20) k j → W k j)  : ∀ (fu : Nat) (M : Mem) (v6_ : Int), Fr W M0 M → Post (fun r => Fr W M0 r.1) (t_MO_feed_L20 x1 x2 x3 x4 x5 fu M v6_) := by
  intro fu
  induction fu with
  | zero => intro M v6_ h; exact post_none
  | succ fu ih =>
    intro M v6_ h
    rw [t_MO_feed_L20]
    refine post_ite (fun c_1 => ?_) (fun c_1 => ?_)
    · refine post_let (fun M6 e_M6 => ?_)
      have h_M6 : Fr W M0 M6 := by rw [e_M6]; exact Fr.setI h (hW _ _ (Or.inl ⟨rfl, rfl⟩))
      exact post_some h_M6
    · refine post_ite (fun c_2 => ?_) (fun c_2 => ?_)
      · refine post_ite (fun c_3 => ?_) (fun c_3 => ?_)
        · refine post_ite (fun c_4 => ?_) (fun c_4 => ?_)
          · refine post_ite (fun c_5 => ?_) (fun c_5 => ?_)
            · exact (fr_MO_feed_L73 (fun k j hk => hW k j (Or.inr hk)) (fun a0_ a1_ h9 => ih a0_ a1_ h9) h)
            · exact (fr_MO_feed_L73 (fun k j hk => hW k j (Or.inr hk)) (fun a0_ a1_ h9 => ih a0_ a1_ h9) h)
          · exact (fr_MO_feed_L73 (fun k j hk => hW k j (Or.inr hk)) (fun a0_ a1_ h9 => ih a0_ a1_ h9) h)
        · exact (fr_MO_feed_L73 (fun k j hk => hW k j (Or.inr hk)) (fun a0_ a1_ h9 => ih a0_ a1_ h9) h)
      · exact (fr_MO_feed_L73 (fun k j hk => hW k j (Or.inr hk)) (fun a0_ a1_ h9 => ih a0_ a1_ h9) h)
def W_MO_feed : Nat → Int → Prop := fun k j => (k = 191 ∧ (j = 0 ∨ j = 2)) ∨ k = 192
theorem fr_MO_feed {x1 : Int} {x2 : Int} {x3 : Int} {x4 : Int} {x5 : Int} {W : Nat → Int → Prop} {M0 : Mem} (hW : ∀ k j, (W_MO_feed) k j → W k j)  {M : Mem} (h : Fr W M0 M) : Post (fun r => Fr W M0 r.1) (t_MO_feed M x1 x2 x3 x4 x5) := by
  unfold t_MO_feed
  refine post_let (fun M1 e_M1 => ?_)
  have h_M1 : Fr W M0 M1 := by rw [e_M1]; exact Fr.setI h (hW _ _ (Or.inl ⟨rfl, (Or.inl rfl)⟩))
  refine post_ite (fun c_1 => ?_) (fun c_1 => ?_)
  · exact (fr_MO_feed_L20 (fun k j hk => hW k j (Or.elim hk (fun h => (Or.inl ⟨(h).1, (Or.inr (h).2)⟩)) (fun h => (Or.inr h))))  _ _ _ h_M1)
  · exact post_some h_M1
def W_MO_name_L53 : Nat → Int → Prop := fun k j => (k = 191 ∧ (j = 23))
theorem fr_MO_name_L53 {bk7 : Mem → Int → Option (Mem)} {v1_ : Int} {v3_ : Int} {v4_ : Int} {W : Nat → Int → Prop} {M0 : Mem} (hW : ∀ k j, (W_MO_name_L53) k j → W k j) (hbk7 : ∀ (a0_ : Mem) (a1_ : Int), Fr W M0 a0_ → Post (fun r => Fr W M0 r) (bk7 a0_ a1_)) {M : Mem} (h : Fr W M0 M) : Post (fun r => Fr W M0 r) (t_MO_name_L53 bk7 M v1_ v3_ v4_) := by
  unfold t_MO_name_L53
  refine post_let (fun M10 e_M10 => ?_)
  have h_M10 : Fr W M0 M10 := by rw [e_M10]; exact Fr.setI h (hW _ _ ⟨rfl, rfl⟩)
  exact hbk7 _ _ h_M10
def W_MO_name_L7 : Nat → Int → Prop := fun k j => (k = 191 ∧ (j = 23))
theorem fr_MO_name_L7  {W : Nat → Int → Prop} {M0 : Mem} (hW : ∀ k j, (W_MO_name_L7) k j → W k j)  : ∀ (fu : Nat) (M : Mem) (v1_ : Int), Fr W M0 M → Post (fun r => Fr W M0 r) (t_MO_name_L7  fu M v1_) := by
  intro fu
  induction fu with
  | zero => intro M v1_ h; exact post_none
  | succ fu ih =>
    intro M v1_ h
    rw [t_MO_name_L7]
    refine post_ite (fun c_1 => ?_) (fun c_1 => ?_)
    · exact post_some h
    · refine post_ite (fun c_2 => ?_) (fun c_2 => ?_)
      · exact (fr_MO_name_L53 (fun k j hk => hW k j ⟨(hk).1, (hk).2⟩) (fun a0_ a1_ h9 => ih a0_ a1_ h9) h)
      · refine post_guard (fun c_3 => ?_)
        exact (fr_MO_name_L53 (fun k j hk => hW k j ⟨(hk).1, (hk).2⟩) (fun a0_ a1_ h9 => ih a0_ a1_ h9) h)
def W_MO_name : Nat → Int → Prop := fun k j => (k = 191 ∧ (j = 23))
theorem fr_MO_name  {W : Nat → Int → Prop} {M0 : Mem} (hW : ∀ k j, (W_MO_name) k j → W k j)  {M : Mem} (h : Fr W M0 M) : Post (fun r => Fr W M0 r) (t_MO_name M) := by
  unfold t_MO_name
  refine post_let (fun M1 e_M1 => ?_)
  have h_M1 : Fr W M0 M1 := by rw [e_M1]; exact Fr.setI h (hW _ _ ⟨rfl, rfl⟩)
  exact (fr_MO_name_L7 (fun k j hk => hW k j ⟨(hk).1, (hk).2⟩)  _ _ _ h_M1)
def W_MO_sign_L150 : Nat → Int → Prop := fun k j => (k = 191 ∧ (j = 20))
theorem fr_MO_sign_L150 {x1 : Int} {W : Nat → Int → Prop} {M0 : Mem} (hW : ∀ k j, (W_MO_sign_L150) k j → W k j)  {M : Mem} (h : Fr W M0 M) : Post (fun r => Fr W M0 r) (t_MO_sign_L150 x1 M) := by
  unfold t_MO_sign_L150
  refine post_ite (fun c_1 => ?_) (fun c_1 => ?_)
  · exact post_some h
  · refine post_let (fun M33 e_M33 => ?_)
    have h_M33 : Fr W M0 M33 := by rw [e_M33]; exact Fr.setI h (hW _ _ ⟨rfl, rfl⟩)
    exact post_some h_M33
def W_MO_sign_L128 : Nat → Int → Prop := fun k j => (k = 191 ∧ (j = 20 ∨ j = 23))
theorem fr_MO_sign_L128 {x1 : Int} {W : Nat → Int → Prop} {M0 : Mem} (hW : ∀ k j, (W_MO_sign_L128) k j → W k j)  {M : Mem} (h : Fr W M0 M) : Post (fun r => Fr W M0 r) (t_MO_sign_L128 x1 M) := by
  unfold t_MO_sign_L128
  refine post_ite (fun c_1 => ?_) (fun c_1 => ?_)
  · refine post_bindv (fun q26 => ?_)
    refine post_ite (fun c_2 => ?_) (fun c_2 => ?_)
    · refine post_let (fun M29 e_M29 => ?_)
      have h_M29 : Fr W M0 M29 := by rw [e_M29]; exact Fr.setI h (hW _ _ ⟨rfl, (Or.inr rfl)⟩)
      exact (fr_MO_sign_L150 (fun k j hk => hW k j ⟨(hk).1, (Or.inl (hk).2)⟩)  h_M29)
    · exact (fr_MO_sign_L150 (fun k j hk => hW k j ⟨(hk).1, (Or.inl (hk).2)⟩)  h)
  · exact (fr_MO_sign_L150 (fun k j hk => hW k j ⟨(hk).1, (Or.inl (hk).2)⟩)  h)
def W_MO_sign_L106 : Nat → Int → Prop := fun k j => (k = 191 ∧ (j = 20 ∨ j = 23))
theorem fr_MO_sign_L106 {x1 : Int} {W : Nat → Int → Prop} {M0 : Mem} (hW : ∀ k j, (W_MO_sign_L106) k j → W k j)  {M : Mem} (h : Fr W M0 M) : Post (fun r => Fr W M0 r) (t_MO_sign_L106 x1 M) := by
  unfold t_MO_sign_L106
  refine post_ite (fun c_1 => ?_) (fun c_1 => ?_)
  · refine post_bindv (fun q21 => ?_)
    refine post_ite (fun c_2 => ?_) (fun c_2 => ?_)
    · refine post_let (fun M24 e_M24 => ?_)
      have h_M24 : Fr W M0 M24 := by rw [e_M24]; exact Fr.setI h (hW _ _ ⟨rfl, (Or.inr rfl)⟩)
      exact (fr_MO_sign_L128 (fun k j hk => hW k j ⟨(hk).1, (Or.elim (hk).2 (fun h => (Or.inl h)) (fun h => (Or.inr h)))⟩)  h_M24)
    · exact (fr_MO_sign_L128 (fun k j hk => hW k j ⟨(hk).1, (Or.elim (hk).2 (fun h => (Or.inl h)) (fun h => (Or.inr h)))⟩)  h)
  · exact (fr_MO_sign_L128 (fun k j hk => hW k j ⟨(hk).1, (Or.elim (hk).2 (fun h => (Or.inl h)) (fun h => (Or.inr h)))⟩)  h)
def W_MO_sign_L76 : Nat → Int → Prop := fun k j => (k = 191 ∧ (j = 20 ∨ j = 22 ∨ j = 23))
theorem fr_MO_sign_L76 {x1 : Int} {v3_ : Int} {W : Nat → Int → Prop} {M0 : Mem} (hW : ∀ k j, (W_MO_sign_L76) k j → W k j)  {M : Mem} (h : Fr W M0 M) : Post (fun r => Fr W M0 r) (t_MO_sign_L76 x1 M v3_) := by
  unfold t_MO_sign_L76
  refine post_let (fun M13 e_M13 => ?_)
  have h_M13 : Fr W M0 M13 := by rw [e_M13]; exact Fr.setI h (hW _ _ ⟨rfl, (Or.inr (Or.inl rfl))⟩)
  refine post_let (fun M14 e_M14 => ?_)
  have h_M14 : Fr W M0 M14 := by rw [e_M14]; exact Fr.setI h_M13 (hW _ _ ⟨rfl, (Or.inr (Or.inr rfl))⟩)
  refine post_ite (fun c_1 => ?_) (fun c_1 => ?_)
  · refine post_bindv (fun q16 => ?_)
    refine post_ite (fun c_2 => ?_) (fun c_2 => ?_)
    · refine post_let (fun M19 e_M19 => ?_)
      have h_M19 : Fr W M0 M19 := by rw [e_M19]; exact Fr.setI h_M14 (hW _ _ ⟨rfl, (Or.inr (Or.inr rfl))⟩)
      exact (fr_MO_sign_L106 (fun k j hk => hW k j ⟨(hk).1, (Or.elim (hk).2 (fun h => (Or.inl h)) (fun h => (Or.inr (Or.inr h))))⟩)  h_M19)
    · exact (fr_MO_sign_L106 (fun k j hk => hW k j ⟨(hk).1, (Or.elim (hk).2 (fun h => (Or.inl h)) (fun h => (Or.inr (Or.inr h))))⟩)  h_M14)
  · exact (fr_MO_sign_L106 (fun k j hk => hW k j ⟨(hk).1, (Or.elim (hk).2 (fun h => (Or.inl h)) (fun h => (Or.inr (Or.inr h))))⟩)  h_M14)
def W_MO_sign_L71 : Nat → Int → Prop := fun k j => (k = 191 ∧ (j = 20 ∨ j = 22 ∨ j = 23))
theorem fr_MO_sign_L71 {x1 : Int} {W : Nat → Int → Prop} {M0 : Mem} (hW : ∀ k j, (W_MO_sign_L71) k j → W k j)  {M : Mem} (h : Fr W M0 M) : Post (fun r => Fr W M0 r) (t_MO_sign_L71 x1 M) := by
  unfold t_MO_sign_L71
  exact (fr_MO_sign_L76 (fun k j hk => hW k j ⟨(hk).1, (Or.elim (hk).2 (fun h => (Or.inl h)) (fun h => (Or.elim h (fun h => (Or.inr (Or.inl h))) (fun h => (Or.inr (Or.inr h))))))⟩)  h)
def W_MO_sign : Nat → Int → Prop := fun k j => (k = 191 ∧ (j = 20 ∨ j = 22 ∨ j = 23))
theorem fr_MO_sign {x1 : Int} {W : Nat → Int → Prop} {M0 : Mem} (hW : ∀ k j, (W_MO_sign) k j → W k j)  {M : Mem} (h : Fr W M0 M) : Post (fun r => Fr W M0 r) (t_MO_sign M x1) := by
  unfold t_MO_sign
  refine post_let (fun M2 e_M2 => ?_)
  have h_M2 : Fr W M0 M2 := by rw [e_M2]; exact Fr.setI h (hW _ _ ⟨rfl, (Or.inl rfl)⟩)
  refine post_ite (fun c_1 => ?_) (fun c_1 => ?_)
  · exact (fr_MO_sign_L71 (fun k j hk => hW k j ⟨(hk).1, (Or.elim (hk).2 (fun h => (Or.inl h)) (fun h => (Or.elim h (fun h => (Or.inr (Or.inl h))) (fun h => (Or.inr (Or.inr h))))))⟩)  h_M2)
  · refine post_ite (fun c_2 => ?_) (fun c_2 => ?_)
    · exact (fr_MO_sign_L71 (fun k j hk => hW k j ⟨(hk).1, (Or.elim (hk).2 (fun h => (Or.inl h)) (fun h => (Or.elim h (fun h => (Or.inr (Or.inl h))) (fun h => (Or.inr (Or.inr h))))))⟩)  h_M2)
    · refine post_ite (fun c_3 => ?_) (fun c_3 => ?_)
      · exact (fr_MO_sign_L71 (fun k j hk => hW k j ⟨(hk).1, (Or.elim (hk).2 (fun h => (Or.inl h)) (fun h => (Or.elim h (fun h => (Or.inr (Or.inl h))) (fun h => (Or.inr (Or.inr h))))))⟩)  h_M2)
      · refine post_ite (fun c_4 => ?_) (fun c_4 => ?_)
        · exact (fr_MO_sign_L71 (fun k j hk => hW k j ⟨(hk).1, (Or.elim (hk).2 (fun h => (Or.inl h)) (fun h => (Or.elim h (fun h => (Or.inr (Or.inl h))) (fun h => (Or.inr (Or.inr h))))))⟩)  h_M2)
        · refine post_ite (fun c_5 => ?_) (fun c_5 => ?_)
          · exact (fr_MO_sign_L71 (fun k j hk => hW k j ⟨(hk).1, (Or.elim (hk).2 (fun h => (Or.inl h)) (fun h => (Or.elim h (fun h => (Or.inr (Or.inl h))) (fun h => (Or.inr (Or.inr h))))))⟩)  h_M2)
          · refine post_ite (fun c_6 => ?_) (fun c_6 => ?_)
            · exact (fr_MO_sign_L71 (fun k j hk => hW k j ⟨(hk).1, (Or.elim (hk).2 (fun h => (Or.inl h)) (fun h => (Or.elim h (fun h => (Or.inr (Or.inl h))) (fun h => (Or.inr (Or.inr h))))))⟩)  h_M2)
            · refine post_ite (fun c_7 => ?_) (fun c_7 => ?_)
              · exact (fr_MO_sign_L71 (fun k j hk => hW k j ⟨(hk).1, (Or.elim (hk).2 (fun h => (Or.inl h)) (fun h => (Or.elim h (fun h => (Or.inr (Or.inl h))) (fun h => (Or.inr (Or.inr h))))))⟩)  h_M2)
              · refine post_ite (fun c_8 => ?_) (fun c_8 => ?_)
                · exact (fr_MO_sign_L71 (fun k j hk => hW k j ⟨(hk).1, (Or.elim (hk).2 (fun h => (Or.inl h)) (fun h => (Or.elim h (fun h => (Or.inr (Or.inl h))) (fun h => (Or.inr (Or.inr h))))))⟩)  h_M2)
                · refine post_ite (fun c_9 => ?_) (fun c_9 => ?_)
                  · exact (fr_MO_sign_L71 (fun k j hk => hW k j ⟨(hk).1, (Or.elim (hk).2 (fun h => (Or.inl h)) (fun h => (Or.elim h (fun h => (Or.inr (Or.inl h))) (fun h => (Or.inr (Or.inr h))))))⟩)  h_M2)
                  · refine post_ite (fun c_10 => ?_) (fun c_10 => ?_)
                    · exact (fr_MO_sign_L71 (fun k j hk => hW k j ⟨(hk).1, (Or.elim (hk).2 (fun h => (Or.inl h)) (fun h => (Or.elim h (fun h => (Or.inr (Or.inl h))) (fun h => (Or.inr (Or.inr h))))))⟩)  h_M2)
                    · exact (fr_MO_sign_L76 (fun k j hk => hW k j ⟨(hk).1, (Or.elim (hk).2 (fun h => (Or.inl h)) (fun h => (Or.elim h (fun h => (Or.inr (Or.inl h))) (fun h => (Or.inr (Or.inr h))))))⟩)  h_M2)
def W_MO_token_L18 : Nat → Int → Prop := fun k j => (k = 191 ∧ (j = 20))
theorem fr_MO_token_L18 {bk0 : Mem → Option (Mem)} {W : Nat → Int → Prop} {M0 : Mem} (hW : ∀ k j, (W_MO_token_L18) k j → W k j) (hbk0 : ∀ (a0_ : Mem), Fr W M0 a0_ → Post (fun r => Fr W M0 r) (bk0 a0_)) {M : Mem} (h : Fr W M0 M) : Post (fun r => Fr W M0 r) (t_MO_token_L18 bk0 M) := by
  unfold t_MO_token_L18
  refine post_let (fun M24 e_M24 => ?_)
  have h_M24 : Fr W M0 M24 := by rw [e_M24]; exact Fr.setI h (hW _ _ ⟨rfl, rfl⟩)
  exact hbk0 _ h_M24
def W_MO_token_L127 : Nat → Int → Prop := fun k j => (k = 191 ∧ (j = 22 ∨ j = 23))
theorem fr_MO_token_L127 {v2_ : Int} {W : Nat → Int → Prop} {M0 : Mem} (hW : ∀ k j, (W_MO_token_L127) k j → W k j)  {M : Mem} (h : Fr W M0 M) : Post (fun r => Fr W M0 r) (t_MO_token_L127 M v2_) := by
  unfold t_MO_token_L127
  refine post_let (fun M54 e_M54 => ?_)
  have h_M54 : Fr W M0 M54 := by rw [e_M54]; exact Fr.setI h (hW _ _ ⟨rfl, (Or.inl rfl)⟩)
  refine post_ite (fun c_1 => ?_) (fun c_1 => ?_)
  · refine post_bind (Q := fun r => Fr W M0 r) (fr_MO_name (fun k j hk => hW k j ⟨(hk).1, (Or.inr (hk).2)⟩)  h_M54) (fun q57 h_q57 => ?_)
    exact post_some h_q57
  · exact post_some h_M54
def W_MO_token_L64 : Nat → Int → Prop := fun k j => (k = 191 ∧ (j = 20 ∨ j = 22 ∨ j = 23))
theorem fr_MO_token_L64  {W : Nat → Int → Prop} {M0 : Mem} (hW : ∀ k j, (W_MO_token_L64) k j → W k j)  : ∀ (fu : Nat) (M : Mem) , Fr W M0 M → Post (fun r => Fr W M0 r) (t_MO_token_L64  fu M ) := by
  intro fu
  induction fu with
  | zero => intro M  h; exact post_none
  | succ fu ih =>
    intro M  h
    rw [t_MO_token_L64]
    refine post_bindv (fun q36 => ?_)
    refine post_let (fun q38 _ => ?_)
    refine post_ite (fun c_1 => ?_) (fun c_1 => ?_)
    · refine post_bindv (fun q41 => ?_)
      refine post_let (fun M43 e_M43 => ?_)
      have h_M43 : Fr W M0 M43 := by rw [e_M43]; exact Fr.setI h (hW _ _ ⟨rfl, (Or.inr (Or.inr rfl))⟩)
      refine post_ite (fun c_2 => ?_) (fun c_2 => ?_)
      · refine post_ite (fun c_3 => ?_) (fun c_3 => ?_)
        · exact (fr_MO_token_L127 (fun k j hk => hW k j ⟨(hk).1, (Or.elim (hk).2 (fun h => (Or.inr (Or.inl h))) (fun h => (Or.inr (Or.inr h))))⟩)  h_M43)
        · exact (fr_MO_token_L127 (fun k j hk => hW k j ⟨(hk).1, (Or.elim (hk).2 (fun h => (Or.inr (Or.inl h))) (fun h => (Or.inr (Or.inr h))))⟩)  h_M43)
      · exact (fr_MO_token_L127 (fun k j hk => hW k j ⟨(hk).1, (Or.elim (hk).2 (fun h => (Or.inr (Or.inl h))) (fun h => (Or.inr (Or.inr h))))⟩)  h_M43)
    · refine post_let (fun M50 e_M50 => ?_)
      have h_M50 : Fr W M0 M50 := by rw [e_M50]; exact Fr.setI h (hW _ _ ⟨rfl, (Or.inl rfl)⟩)
      exact (ih _ h_M50)
def W_MO_token_L204 : Nat → Int → Prop := fun k j => (k = 191 ∧ (j = 20 ∨ j = 23))
theorem fr_MO_token_L204 {bk162 : Mem → Option (Mem)} {v2_ : Int} {W : Nat → Int → Prop} {M0 : Mem} (hW : ∀ k j, (W_MO_token_L204) k j → W k j) (hbk162 : ∀ (a0_ : Mem), Fr W M0 a0_ → Post (fun r => Fr W M0 r) (bk162 a0_)) {M : Mem} (h : Fr W M0 M) : Post (fun r => Fr W M0 r) (t_MO_token_L204 bk162 M v2_) := by
  unfold t_MO_token_L204
  refine post_let (fun M51 e_M51 => ?_)
  have h_M51 : Fr W M0 M51 := by rw [e_M51]; exact Fr.setI h (hW _ _ ⟨rfl, (Or.inr rfl)⟩)
  refine post_let (fun M53 e_M53 => ?_)
  have h_M53 : Fr W M0 M53 := by rw [e_M53]; exact Fr.setI h_M51 (hW _ _ ⟨rfl, (Or.inl rfl)⟩)
  exact hbk162 _ h_M53
def W_MO_token_L162 : Nat → Int → Prop := fun k j => (k = 191 ∧ (j = 20 ∨ j = 23))
theorem fr_MO_token_L162  {W : Nat → Int → Prop} {M0 : Mem} (hW : ∀ k j, (W_MO_token_L162) k j → W k j)  : ∀ (fu : Nat) (M : Mem) , Fr W M0 M → Post (fun r => Fr W M0 r) (t_MO_token_L162  fu M ) := by
  intro fu
  induction fu with
  | zero => intro M  h; exact post_none
  | succ fu ih =>
    intro M  h
    rw [t_MO_token_L162]
    refine post_bindv (fun q25 => ?_)
    refine post_let (fun q27 _ => ?_)
    refine post_ite (fun c_1 => ?_) (fun c_1 => ?_)
    · exact post_some h
    · refine post_ite (fun c_2 => ?_) (fun c_2 => ?_)
      · refine post_bindv (fun q33 => ?_)
        exact (fr_MO_token_L204 (fun k j hk => hW k j ⟨(hk).1, (Or.elim (hk).2 (fun h => (Or.inl h)) (fun h => (Or.inr h)))⟩) (fun a0_ h9 => ih a0_ h9) h)
      · exact (fr_MO_token_L204 (fun k j hk => hW k j ⟨(hk).1, (Or.elim (hk).2 (fun h => (Or.inl h)) (fun h => (Or.inr h)))⟩) (fun a0_ h9 => ih a0_ h9) h)
def W_MO_token_L0 : Nat → Int → Prop := fun k j => (k = 191 ∧ (j = 20 ∨ j = 21 ∨ j = 22 ∨ j = 23))
theorem fr_MO_token_L0  {W : Nat → Int → Prop} {M0 : Mem} (hW : ∀ k j, (W_MO_token_L0) k j → W k j)  : ∀ (fu : Nat) (M : Mem) , Fr W M0 M → Post (fun r => Fr W M0 r) (t_MO_token_L0  fu M ) := by
  intro fu
  induction fu with
  | zero => intro M  h; exact post_none
  | succ fu ih =>
    intro M  h
    rw [t_MO_token_L0]
    refine post_bindv (fun q1 => ?_)
    refine post_ite (fun c_1 => ?_) (fun c_1 => ?_)
    · exact (fr_MO_token_L18 (fun k j hk => hW k j ⟨(hk).1, (Or.inl (hk).2)⟩) (fun a0_ h9 => ih a0_ h9) h)
    · refine post_bindv (fun q4 => ?_)
      refine post_ite (fun c_2 => ?_) (fun c_2 => ?_)
      · exact (fr_MO_token_L18 (fun k j hk => hW k j ⟨(hk).1, (Or.inl (hk).2)⟩) (fun a0_ h9 => ih a0_ h9) h)
      · refine post_let (fun M8 e_M8 => ?_)
        have h_M8 : Fr W M0 M8 := by rw [e_M8]; exact Fr.setI h (hW _ _ ⟨rfl, (Or.inr (Or.inl rfl))⟩)
        refine post_bindv (fun q9 => ?_)
        refine post_ite (fun c_3 => ?_) (fun c_3 => ?_)
        · refine post_let (fun M22 e_M22 => ?_)
          have h_M22 : Fr W M0 M22 := by rw [e_M22]; exact Fr.setI h_M8 (hW _ _ ⟨rfl, (Or.inr (Or.inr (Or.inl rfl)))⟩)
          exact post_some h_M22
        · refine post_let (fun q12 _ => ?_)
          refine post_ite (fun c_4 => ?_) (fun c_4 => ?_)
          · refine post_let (fun q15 _ => ?_)
            refine post_ite (fun c_5 => ?_) (fun c_5 => ?_)
            · refine post_bind (Q := fun r => Fr W M0 r) (fr_MO_sign (fun k j hk => hW k j ⟨(hk).1, (Or.elim (hk).2 (fun h => (Or.inl h)) (fun h => (Or.elim h (fun h => (Or.inr (Or.inr (Or.inl h)))) (fun h => (Or.inr (Or.inr (Or.inr h)))))))⟩)  h_M8) (fun q18 h_q18 => ?_)
              exact post_some h_q18
            · refine post_let (fun M20 e_M20 => ?_)
              have h_M20 : Fr W M0 M20 := by rw [e_M20]; exact Fr.setI h_M8 (hW _ _ ⟨rfl, (Or.inr (Or.inr (Or.inl rfl)))⟩)
              refine post_let (fun M21 e_M21 => ?_)
              have h_M21 : Fr W M0 M21 := by rw [e_M21]; exact Fr.setI h_M20 (hW _ _ ⟨rfl, (Or.inr (Or.inr (Or.inr rfl)))⟩)
              exact (fr_MO_token_L162 (fun k j hk => hW k j ⟨(hk).1, (Or.elim (hk).2 (fun h => (Or.inl h)) (fun h => (Or.inr (Or.inr (Or.inr h)))))⟩)  _ _ h_M21)
          · exact (fr_MO_token_L64 (fun k j hk => hW k j ⟨(hk).1, (Or.elim (hk).2 (fun h => (Or.inl h)) (fun h => (Or.elim h (fun h => (Or.inr (Or.inr (Or.inl h)))) (fun h => (Or.inr (Or.inr (Or.inr h)))))))⟩)  _ _ h_M8)
def W_MO_token : Nat → Int → Prop := fun k j => (k = 191 ∧ (j = 20 ∨ j = 21 ∨ j = 22 ∨ j = 23))
theorem fr_MO_token  {W : Nat → Int → Prop} {M0 : Mem} (hW : ∀ k j, (W_MO_token) k j → W k j)  {M : Mem} (h : Fr W M0 M) : Post (fun r => Fr W M0 r) (t_MO_token M) := by
  unfold t_MO_token
  exact (fr_MO_token_L0 (fun k j hk => hW k j ⟨(hk).1, (Or.elim (hk).2 (fun h => (Or.inl h)) (fun h => (Or.elim h (fun h => (Or.inr (Or.inl h))) (fun h => (Or.elim h (fun h => (Or.inr (Or.inr (Or.inl h)))) (fun h => (Or.inr (Or.inr (Or.inr h)))))))))⟩)  _ _ h)
def W_MO_wrong : Nat → Int → Prop := fun k j => (k = 191 ∧ (j = 24 ∨ j = 25))
theorem fr_MO_wrong {x1 : Int} {W : Nat → Int → Prop} {M0 : Mem} (hW : ∀ k j, (W_MO_wrong) k j → W k j)  {M : Mem} (h : Fr W M0 M) : Fr W M0 (t_MO_wrong M x1) := by
  show Pl (fun r => Fr W M0 r) (t_MO_wrong M x1)
  unfold t_MO_wrong
  refine pl_ite (fun c_1 => ?_) (fun c_1 => ?_)
  · refine pl_let (fun M3 e_M3 => ?_)
    have h_M3 : Fr W M0 M3 := by rw [e_M3]; exact Fr.setI h (hW _ _ ⟨rfl, (Or.inl rfl)⟩)
    refine pl_let (fun M5 e_M5 => ?_)
    have h_M5 : Fr W M0 M5 := by rw [e_M5]; exact Fr.setI h_M3 (hW _ _ ⟨rfl, (Or.inr rfl)⟩)
    exact h_M5
  · exact h
def W_MO_goOn : Nat → Int → Prop := fun k j => (k = 191 ∧ (j = 20 ∨ j = 21 ∨ j = 22 ∨ j = 23))
theorem fr_MO_goOn  {W : Nat → Int → Prop} {M0 : Mem} (hW : ∀ k j, (W_MO_goOn) k j → W k j)  {M : Mem} (h : Fr W M0 M) : Post (fun r => Fr W M0 r) (t_MO_goOn M) := by
  unfold t_MO_goOn
  refine post_ite (fun c_1 => ?_) (fun c_1 => ?_)
  · refine post_bind (Q := fun r => Fr W M0 r) (fr_MO_token (fun k j hk => hW k j ⟨(hk).1, (Or.elim (hk).2 (fun h => (Or.inl h)) (fun h => (Or.elim h (fun h => (Or.inr (Or.inl h))) (fun h => (Or.elim h (fun h => (Or.inr (Or.inr (Or.inl h)))) (fun h => (Or.inr (Or.inr (Or.inr h)))))))))⟩)  h) (fun q3 h_q3 => ?_)
    exact post_some h_q3
  · exact post_some h
def W_MO_numeralAtHand_L46 : Nat → Int → Prop := fun k j => False
theorem fr_MO_numeralAtHand_L46 {x1 : Int} {x2 : Int} {W : Nat → Int → Prop} {M0 : Mem} (hW : ∀ k j, (W_MO_numeralAtHand_L46) k j → W k j)  {M : Mem} (h : Fr W M0 M) : Fr W M0 (t_MO_numeralAtHand_L46 x1 x2 M).1 := by
  show Pl (fun r => Fr W M0 r.1) (t_MO_numeralAtHand_L46 x1 x2 M)
  unfold t_MO_numeralAtHand_L46
  refine pl_ite (fun c_1 => ?_) (fun c_1 => ?_)
  · exact h
  · exact h
def W_MO_numeralAtHand_L41 : Nat → Int → Prop := fun k j => (k = 191 ∧ (j = 24 ∨ j = 25))
theorem fr_MO_numeralAtHand_L41 {x1 : Int} {x2 : Int} {W : Nat → Int → Prop} {M0 : Mem} (hW : ∀ k j, (W_MO_numeralAtHand_L41) k j → W k j)  {M : Mem} (h : Fr W M0 M) : Fr W M0 (t_MO_numeralAtHand_L41 x1 x2 M).1 := by
  show Pl (fun r => Fr W M0 r.1) (t_MO_numeralAtHand_L41 x1 x2 M)
  unfold t_MO_numeralAtHand_L41
  refine pl_let (fun q11 e_q11 => ?_)
  have h_q11 : Fr W M0 q11 := by rw [e_q11]; exact (fr_MO_wrong (fun k j hk => hW k j ⟨(hk).1, (Or.elim (hk).2 (fun h => (Or.inl h)) (fun h => (Or.inr h)))⟩)  h)
  exact (fr_MO_numeralAtHand_L46 (fun k j hk => hk.elim)  h_q11)
def W_MO_numeralAtHand : Nat → Int → Prop := fun k j => (k = 191 ∧ (j = 24 ∨ j = 25))
theorem fr_MO_numeralAtHand {x1 : Int} {x2 : Int} {W : Nat → Int → Prop} {M0 : Mem} (hW : ∀ k j, (W_MO_numeralAtHand) k j → W k j)  {M : Mem} (h : Fr W M0 M) : Fr W M0 (t_MO_numeralAtHand M x1 x2).1 := by
  show Pl (fun r => Fr W M0 r.1) (t_MO_numeralAtHand M x1 x2)
  unfold t_MO_numeralAtHand
  refine pl_ite (fun c_1 => ?_) (fun c_1 => ?_)
  · refine pl_ite (fun c_2 => ?_) (fun c_2 => ?_)
    · refine pl_ite (fun c_3 => ?_) (fun c_3 => ?_)
      · exact (fr_MO_numeralAtHand_L41 (fun k j hk => hW k j ⟨(hk).1, (Or.elim (hk).2 (fun h => (Or.inl h)) (fun h => (Or.inr h)))⟩)  h)
      · refine pl_ite (fun c_4 => ?_) (fun c_4 => ?_)
        · exact (fr_MO_numeralAtHand_L46 (fun k j hk => hk.elim)  h)
        · exact (fr_MO_numeralAtHand_L41 (fun k j hk => hW k j ⟨(hk).1, (Or.elim (hk).2 (fun h => (Or.inl h)) (fun h => (Or.inr h)))⟩)  h)
    · refine pl_let (fun q9 e_q9 => ?_)
      have h_q9 : Fr W M0 q9 := by rw [e_q9]; exact (fr_MO_wrong (fun k j hk => hW k j ⟨(hk).1, (Or.elim (hk).2 (fun h => (Or.inl h)) (fun h => (Or.inr h)))⟩)  h)
      exact (fr_MO_numeralAtHand_L46 (fun k j hk => hk.elim)  h_q9)
  · exact h
def W_MO_numeral : Nat → Int → Prop := fun k j => (k = 191 ∧ (j = 20 ∨ j = 21 ∨ j = 22 ∨ j = 23 ∨ j = 24 ∨ j = 25))
theorem fr_MO_numeral {x1 : Int} {x2 : Int} {W : Nat → Int → Prop} {M0 : Mem} (hW : ∀ k j, (W_MO_numeral) k j → W k j)  {M : Mem} (h : Fr W M0 M) : Post (fun r => Fr W M0 r.1) (t_MO_numeral M x1 x2) := by
  unfold t_MO_numeral
  refine post_let (fun q1 e_q1 => ?_)
  have h_q1 : Fr W M0 q1.1 := by rw [e_q1]; exact (fr_MO_numeralAtHand (fun k j hk => hW k j ⟨(hk).1, (Or.elim (hk).2 (fun h => (Or.inr (Or.inr (Or.inr (Or.inr (Or.inl h)))))) (fun h => (Or.inr (Or.inr (Or.inr (Or.inr (Or.inr h)))))))⟩)  h)
  refine post_bind (Q := fun r => Fr W M0 r) (fr_MO_goOn (fun k j hk => hW k j ⟨(hk).1, (Or.elim (hk).2 (fun h => (Or.inl h)) (fun h => (Or.elim h (fun h => (Or.inr (Or.inl h))) (fun h => (Or.elim h (fun h => (Or.inr (Or.inr (Or.inl h)))) (fun h => (Or.inr (Or.inr (Or.inr (Or.inl h))))))))))⟩)  h_q1) (fun q3 h_q3 => ?_)
  exact post_some h_q3
def W_MO_fresh_L44 : Nat → Int → Prop := fun k j => (k = 191 ∧ (j = 20 ∨ j = 21 ∨ j = 22 ∨ j = 23))
theorem fr_MO_fresh_L44 {r1 : Nat} {N1 : Nat} {x2 : Int} {x3 : Int} {W : Nat → Int → Prop} {M0 : Mem} (hW : ∀ k j, (W_MO_fresh_L44) k j → W k j)  {M : Mem} (h : Fr W M0 M) : Post (fun r => Fr W M0 r.1) (t_MO_fresh_L44 r1 N1 x2 x3 M) := by
  unfold t_MO_fresh_L44
  refine post_ite (fun c_1 => ?_) (fun c_1 => ?_)
  · refine post_bind (Q := fun r => Fr W M0 r) (fr_MO_token (fun k j hk => hW k j ⟨(hk).1, (Or.elim (hk).2 (fun h => (Or.inl h)) (fun h => (Or.elim h (fun h => (Or.inr (Or.inl h))) (fun h => (Or.elim h (fun h => (Or.inr (Or.inr (Or.inl h)))) (fun h => (Or.inr (Or.inr (Or.inr h)))))))))⟩)  h) (fun q16 h_q16 => ?_)
    exact post_some h_q16
  · exact post_some h
def W_MO_fresh : Nat → Int → Prop := fun k j => (k = 191 ∧ (j = 20 ∨ j = 21 ∨ j = 22 ∨ j = 23 ∨ j = 24 ∨ j = 25))
theorem fr_MO_fresh {r1 : Nat} {N1 : Nat} {x2 : Int} {x3 : Int} {W : Nat → Int → Prop} {M0 : Mem} (hW : ∀ k j, (W_MO_fresh) k j → W k j)  {M : Mem} (h : Fr W M0 M) : Post (fun r => Fr W M0 r.1) (t_MO_fresh M r1 N1 x2 x3) := by
  unfold t_MO_fresh
  refine post_ite (fun c_1 => ?_) (fun c_1 => ?_)
  · refine post_ite (fun c_2 => ?_) (fun c_2 => ?_)
    · refine post_bindv (fun q6 => ?_)
      refine post_ite (fun c_3 => ?_) (fun c_3 => ?_)
      · exact (fr_MO_fresh_L44 (fun k j hk => hW k j ⟨(hk).1, (Or.elim (hk).2 (fun h => (Or.inl h)) (fun h => (Or.elim h (fun h => (Or.inr (Or.inl h))) (fun h => (Or.elim h (fun h => (Or.inr (Or.inr (Or.inl h)))) (fun h => (Or.inr (Or.inr (Or.inr (Or.inl h))))))))))⟩)  h)
      · refine post_let (fun q9 e_q9 => ?_)
        have h_q9 : Fr W M0 q9 := by rw [e_q9]; exact (fr_MO_wrong (fun k j hk => hW k j ⟨(hk).1, (Or.elim (hk).2 (fun h => (Or.inr (Or.inr (Or.inr (Or.inr (Or.inl h)))))) (fun h => (Or.inr (Or.inr (Or.inr (Or.inr (Or.inr h)))))))⟩)  h)
        exact (fr_MO_fresh_L44 (fun k j hk => hW k j ⟨(hk).1, (Or.elim (hk).2 (fun h => (Or.inl h)) (fun h => (Or.elim h (fun h => (Or.inr (Or.inl h))) (fun h => (Or.elim h (fun h => (Or.inr (Or.inr (Or.inl h)))) (fun h => (Or.inr (Or.inr (Or.inr (Or.inl h))))))))))⟩)  h_q9)
    · refine post_let (fun q11 e_q11 => ?_)
      have h_q11 : Fr W M0 q11 := by rw [e_q11]; exact (fr_MO_wrong (fun k j hk => hW k j ⟨(hk).1, (Or.elim (hk).2 (fun h => (Or.inr (Or.inr (Or.inr (Or.inr (Or.inl h)))))) (fun h => (Or.inr (Or.inr (Or.inr (Or.inr (Or.inr h)))))))⟩)  h)
      exact (fr_MO_fresh_L44 (fun k j hk => hW k j ⟨(hk).1, (Or.elim (hk).2 (fun h => (Or.inl h)) (fun h => (Or.elim h (fun h => (Or.inr (Or.inl h))) (fun h => (Or.elim h (fun h => (Or.inr (Or.inr (Or.inl h)))) (fun h => (Or.inr (Or.inr (Or.inr (Or.inl h))))))))))⟩)  h_q11)
  · exact post_some h
def W_MO_cellAtHand : Nat → Int → Prop := fun k j => (k = 191 ∧ (j = 20 ∨ j = 21 ∨ j = 22 ∨ j = 23 ∨ j = 24 ∨ j = 25))
theorem fr_MO_cellAtHand  {W : Nat → Int → Prop} {M0 : Mem} (hW : ∀ k j, (W_MO_cellAtHand) k j → W k j)  {M : Mem} (h : Fr W M0 M) : Post (fun r => Fr W M0 r.1) (t_MO_cellAtHand M) := by
  unfold t_MO_cellAtHand
  refine post_bindv (fun q1 => ?_)
  refine post_bind (Q := fun r => Fr W M0 r.1) (fr_MO_numeral (fun k j hk => hW k j ⟨(hk).1, (Or.elim (hk).2 (fun h => (Or.inl h)) (fun h => (Or.elim h (fun h => (Or.inr (Or.inl h))) (fun h => (Or.elim h (fun h => (Or.inr (Or.inr (Or.inl h)))) (fun h => (Or.elim h (fun h => (Or.inr (Or.inr (Or.inr (Or.inl h))))) (fun h => (Or.elim h (fun h => (Or.inr (Or.inr (Or.inr (Or.inr (Or.inl h)))))) (fun h => (Or.inr (Or.inr (Or.inr (Or.inr (Or.inr h)))))))))))))))⟩)  h) (fun q3 h_q3 => ?_)
  refine post_bindv (fun q5 => ?_)
  refine post_let (fun q7 e_q7 => ?_)
  have h_q7 : Fr W M0 q7.1 := by rw [e_q7]; exact (fr_MO_numeralAtHand (fun k j hk => hW k j ⟨(hk).1, (Or.elim (hk).2 (fun h => (Or.inr (Or.inr (Or.inr (Or.inr (Or.inl h)))))) (fun h => (Or.inr (Or.inr (Or.inr (Or.inr (Or.inr h)))))))⟩)  h_q3)
  refine post_bindv (fun q9 => ?_)
  exact post_some h_q7
def W_MO_reads : Nat → Int → Prop := fun k j => k = 193
theorem fr_MO_reads {x1 : Int} {x2 : Int} {W : Nat → Int → Prop} {M0 : Mem} (hW : ∀ k j, (W_MO_reads) k j → W k j)  {M : Mem} (h : Fr W M0 M) : Post (fun r => Fr W M0 r) (t_MO_reads M x1 x2) := by
  unfold t_MO_reads
  refine post_guard (fun c_1 => ?_)
  refine post_let (fun M2 e_M2 => ?_)
  have h_M2 : Fr W M0 M2 := by rw [e_M2]; exact Fr.setI h (hW _ _ rfl)
  exact post_some h_M2
def W_MO_wardLine_L57 : Nat → Int → Prop := fun k j => (k = 191 ∧ (j = 20 ∨ j = 21 ∨ j = 22 ∨ j = 23 ∨ j = 24 ∨ j = 25)) ∨ k = 193 ∨ k = 195 ∨ k = 196
theorem fr_MO_wardLine_L57 {x1 : Int} {W : Nat → Int → Prop} {M0 : Mem} (hW : ∀ k j, (W_MO_wardLine_L57) k j → W k j)  {M : Mem} (h : Fr W M0 M) : Post (fun r => Fr W M0 r) (t_MO_wardLine_L57 x1 M) := by
  unfold t_MO_wardLine_L57
  refine post_ite (fun c_1 => ?_) (fun c_1 => ?_)
  · refine post_guard (fun c_2 => ?_)
    refine post_let (fun M19 e_M19 => ?_)
    have h_M19 : Fr W M0 M19 := by rw [e_M19]; exact Fr.setI h (hW _ _ (Or.inr (Or.inr (Or.inl rfl))))
    refine post_bind (Q := fun r => Fr W M0 r) (fr_MO_token (fun k j hk => hW k j (Or.inl ⟨(hk).1, (Or.elim (hk).2 (fun h => (Or.inl h)) (fun h => (Or.elim h (fun h => (Or.inr (Or.inl h))) (fun h => (Or.elim h (fun h => (Or.inr (Or.inr (Or.inl h)))) (fun h => (Or.inr (Or.inr (Or.inr (Or.inl h))))))))))⟩))  h_M19) (fun q20 h_q20 => ?_)
    refine post_bind (Q := fun r => Fr W M0 r.1) (fr_MO_numeral (fun k j hk => hW k j (Or.inl ⟨(hk).1, (Or.elim (hk).2 (fun h => (Or.inl h)) (fun h => (Or.elim h (fun h => (Or.inr (Or.inl h))) (fun h => (Or.elim h (fun h => (Or.inr (Or.inr (Or.inl h)))) (fun h => (Or.elim h (fun h => (Or.inr (Or.inr (Or.inr (Or.inl h))))) (fun h => (Or.elim h (fun h => (Or.inr (Or.inr (Or.inr (Or.inr (Or.inl h)))))) (fun h => (Or.inr (Or.inr (Or.inr (Or.inr (Or.inr h)))))))))))))))⟩))  h_q20) (fun q22 h_q22 => ?_)
    refine post_guard (fun c_3 => ?_)
    refine post_let (fun M25 e_M25 => ?_)
    have h_M25 : Fr W M0 M25 := by rw [e_M25]; exact Fr.setI h_q22 (hW _ _ (Or.inr (Or.inr (Or.inr rfl))))
    refine post_bindv (fun q26 => ?_)
    refine post_bind (Q := fun r => Fr W M0 r) (fr_MO_reads (fun k j hk => hW k j (Or.inr (Or.inl hk)))  h_M25) (fun q28 h_q28 => ?_)
    exact post_some h_q28
  · exact post_some h
def W_MO_wardLine_L52 : Nat → Int → Prop := fun k j => (k = 191 ∧ (j = 20 ∨ j = 21 ∨ j = 22 ∨ j = 23 ∨ j = 24 ∨ j = 25)) ∨ k = 193 ∨ k = 195 ∨ k = 196
theorem fr_MO_wardLine_L52 {x1 : Int} {W : Nat → Int → Prop} {M0 : Mem} (hW : ∀ k j, (W_MO_wardLine_L52) k j → W k j)  {M : Mem} (h : Fr W M0 M) : Post (fun r => Fr W M0 r) (t_MO_wardLine_L52 x1 M) := by
  unfold t_MO_wardLine_L52
  refine post_let (fun q30 e_q30 => ?_)
  have h_q30 : Fr W M0 q30 := by rw [e_q30]; exact (fr_MO_wrong (fun k j hk => hW k j (Or.inl ⟨(hk).1, (Or.elim (hk).2 (fun h => (Or.inr (Or.inr (Or.inr (Or.inr (Or.inl h)))))) (fun h => (Or.inr (Or.inr (Or.inr (Or.inr (Or.inr h)))))))⟩))  h)
  exact (fr_MO_wardLine_L57 (fun k j hk => hW k j (Or.elim hk (fun h => (Or.inl ⟨(h).1, (Or.elim (h).2 (fun h => (Or.inl h)) (fun h => (Or.elim h (fun h => (Or.inr (Or.inl h))) (fun h => (Or.elim h (fun h => (Or.inr (Or.inr (Or.inl h)))) (fun h => (Or.elim h (fun h => (Or.inr (Or.inr (Or.inr (Or.inl h))))) (fun h => (Or.elim h (fun h => (Or.inr (Or.inr (Or.inr (Or.inr (Or.inl h)))))) (fun h => (Or.inr (Or.inr (Or.inr (Or.inr (Or.inr h)))))))))))))))⟩)) (fun h => (Or.elim h (fun h => (Or.inr (Or.inl h))) (fun h => (Or.elim h (fun h => (Or.inr (Or.inr (Or.inl h)))) (fun h => (Or.inr (Or.inr (Or.inr h))))))))))  h_q30)
def W_MO_wardLine : Nat → Int → Prop := fun k j => (k = 191 ∧ (j = 20 ∨ j = 21 ∨ j = 22 ∨ j = 23 ∨ j = 24 ∨ j = 25)) ∨ k = 193 ∨ k = 194 ∨ k = 195 ∨ k = 196
theorem fr_MO_wardLine {x1 : Int} {W : Nat → Int → Prop} {M0 : Mem} (hW : ∀ k j, (W_MO_wardLine) k j → W k j)  {M : Mem} (h : Fr W M0 M) : Post (fun r => Fr W M0 r) (t_MO_wardLine M x1) := by
  unfold t_MO_wardLine
  refine post_bindv (fun q1 => ?_)
  refine post_bind (Q := fun r => Fr W M0 r.1) (fr_MO_fresh (fun k j hk => hW k j (Or.inl ⟨(hk).1, (Or.elim (hk).2 (fun h => (Or.inl h)) (fun h => (Or.elim h (fun h => (Or.inr (Or.inl h))) (fun h => (Or.elim h (fun h => (Or.inr (Or.inr (Or.inl h)))) (fun h => (Or.elim h (fun h => (Or.inr (Or.inr (Or.inr (Or.inl h))))) (fun h => (Or.elim h (fun h => (Or.inr (Or.inr (Or.inr (Or.inr (Or.inl h)))))) (fun h => (Or.inr (Or.inr (Or.inr (Or.inr (Or.inr h)))))))))))))))⟩))  h) (fun q3 h_q3 => ?_)
  refine post_guard (fun c_1 => ?_)
  refine post_let (fun M6 e_M6 => ?_)
  have h_M6 : Fr W M0 M6 := by rw [e_M6]; exact Fr.setI h_q3 (hW _ _ (Or.inr (Or.inr (Or.inl rfl))))
  refine post_ite (fun c_2 => ?_) (fun c_2 => ?_)
  · refine post_ite (fun c_3 => ?_) (fun c_3 => ?_)
    · refine post_ite (fun c_4 => ?_) (fun c_4 => ?_)
      · exact (fr_MO_wardLine_L52 (fun k j hk => hW k j (Or.elim hk (fun h => (Or.inl ⟨(h).1, (Or.elim (h).2 (fun h => (Or.inl h)) (fun h => (Or.elim h (fun h => (Or.inr (Or.inl h))) (fun h => (Or.elim h (fun h => (Or.inr (Or.inr (Or.inl h)))) (fun h => (Or.elim h (fun h => (Or.inr (Or.inr (Or.inr (Or.inl h))))) (fun h => (Or.elim h (fun h => (Or.inr (Or.inr (Or.inr (Or.inr (Or.inl h)))))) (fun h => (Or.inr (Or.inr (Or.inr (Or.inr (Or.inr h)))))))))))))))⟩)) (fun h => (Or.elim h (fun h => (Or.inr (Or.inl h))) (fun h => (Or.elim h (fun h => (Or.inr (Or.inr (Or.inr (Or.inl h))))) (fun h => (Or.inr (Or.inr (Or.inr (Or.inr h)))))))))))  h_M6)
      · refine post_ite (fun c_5 => ?_) (fun c_5 => ?_)
        · exact (fr_MO_wardLine_L57 (fun k j hk => hW k j (Or.elim hk (fun h => (Or.inl ⟨(h).1, (Or.elim (h).2 (fun h => (Or.inl h)) (fun h => (Or.elim h (fun h => (Or.inr (Or.inl h))) (fun h => (Or.elim h (fun h => (Or.inr (Or.inr (Or.inl h)))) (fun h => (Or.elim h (fun h => (Or.inr (Or.inr (Or.inr (Or.inl h))))) (fun h => (Or.elim h (fun h => (Or.inr (Or.inr (Or.inr (Or.inr (Or.inl h)))))) (fun h => (Or.inr (Or.inr (Or.inr (Or.inr (Or.inr h)))))))))))))))⟩)) (fun h => (Or.elim h (fun h => (Or.inr (Or.inl h))) (fun h => (Or.elim h (fun h => (Or.inr (Or.inr (Or.inr (Or.inl h))))) (fun h => (Or.inr (Or.inr (Or.inr (Or.inr h)))))))))))  h_M6)
        · exact (fr_MO_wardLine_L52 (fun k j hk => hW k j (Or.elim hk (fun h => (Or.inl ⟨(h).1, (Or.elim (h).2 (fun h => (Or.inl h)) (fun h => (Or.elim h (fun h => (Or.inr (Or.inl h))) (fun h => (Or.elim h (fun h => (Or.inr (Or.inr (Or.inl h)))) (fun h => (Or.elim h (fun h => (Or.inr (Or.inr (Or.inr (Or.inl h))))) (fun h => (Or.elim h (fun h => (Or.inr (Or.inr (Or.inr (Or.inr (Or.inl h)))))) (fun h => (Or.inr (Or.inr (Or.inr (Or.inr (Or.inr h)))))))))))))))⟩)) (fun h => (Or.elim h (fun h => (Or.inr (Or.inl h))) (fun h => (Or.elim h (fun h => (Or.inr (Or.inr (Or.inr (Or.inl h))))) (fun h => (Or.inr (Or.inr (Or.inr (Or.inr h)))))))))))  h_M6)
    · exact (fr_MO_wardLine_L52 (fun k j hk => hW k j (Or.elim hk (fun h => (Or.inl ⟨(h).1, (Or.elim (h).2 (fun h => (Or.inl h)) (fun h => (Or.elim h (fun h => (Or.inr (Or.inl h))) (fun h => (Or.elim h (fun h => (Or.inr (Or.inr (Or.inl h)))) (fun h => (Or.elim h (fun h => (Or.inr (Or.inr (Or.inr (Or.inl h))))) (fun h => (Or.elim h (fun h => (Or.inr (Or.inr (Or.inr (Or.inr (Or.inl h)))))) (fun h => (Or.inr (Or.inr (Or.inr (Or.inr (Or.inr h)))))))))))))))⟩)) (fun h => (Or.elim h (fun h => (Or.inr (Or.inl h))) (fun h => (Or.elim h (fun h => (Or.inr (Or.inr (Or.inr (Or.inl h))))) (fun h => (Or.inr (Or.inr (Or.inr (Or.inr h)))))))))))  h_M6)
  · exact (fr_MO_wardLine_L57 (fun k j hk => hW k j (Or.elim hk (fun h => (Or.inl ⟨(h).1, (Or.elim (h).2 (fun h => (Or.inl h)) (fun h => (Or.elim h (fun h => (Or.inr (Or.inl h))) (fun h => (Or.elim h (fun h => (Or.inr (Or.inr (Or.inl h)))) (fun h => (Or.elim h (fun h => (Or.inr (Or.inr (Or.inr (Or.inl h))))) (fun h => (Or.elim h (fun h => (Or.inr (Or.inr (Or.inr (Or.inr (Or.inl h)))))) (fun h => (Or.inr (Or.inr (Or.inr (Or.inr (Or.inr h)))))))))))))))⟩)) (fun h => (Or.elim h (fun h => (Or.inr (Or.inl h))) (fun h => (Or.elim h (fun h => (Or.inr (Or.inr (Or.inr (Or.inl h))))) (fun h => (Or.inr (Or.inr (Or.inr (Or.inr h)))))))))))  h_M6)
def W_MO_partLine_L147 : Nat → Int → Prop := fun k j => k = 197
theorem fr_MO_partLine_L147 {bk137 : Mem → Int → Int → Int → Int → Int → Option (Mem)} {W : Nat → Int → Prop} {M0 : Mem} (hW : ∀ k j, (W_MO_partLine_L147) k j → W k j) (hbk137 : ∀ (a0_ : Mem) (a1_ : Int) (a2_ : Int) (a3_ : Int) (a4_ : Int) (a5_ : Int), Fr W M0 a0_ → Post (fun r => Fr W M0 r) (bk137 a0_ a1_ a2_ a3_ a4_ a5_)) : ∀ (fu : Nat) (M : Mem) (v1_ : Int) (v2_ : Int) (v3_ : Int) (v4_ : Int) (v5_ : Int) (v6_ : Int), Fr W M0 M → Post (fun r => Fr W M0 r) (t_MO_partLine_L147 bk137 fu M v1_ v2_ v3_ v4_ v5_ v6_) := by
  intro fu
  induction fu with
  | zero => intro M v1_ v2_ v3_ v4_ v5_ v6_ h; exact post_none
  | succ fu ih =>
    intro M v1_ v2_ v3_ v4_ v5_ v6_ h
    rw [t_MO_partLine_L147]
    refine post_ite (fun c_1 => ?_) (fun c_1 => ?_)
    · exact hbk137 _ _ _ _ _ _ h
    · refine post_bindv (fun q46 => ?_)
      refine post_guard (fun c_2 => ?_)
      refine post_let (fun M49 e_M49 => ?_)
      have h_M49 : Fr W M0 M49 := by rw [e_M49]; exact Fr.setI h (hW _ _ rfl)
      exact (ih _ _ _ _ _ _ _ h_M49)
def W_MO_partLine_L137 : Nat → Int → Prop := fun k j => k = 193 ∨ k = 197
theorem fr_MO_partLine_L137  {W : Nat → Int → Prop} {M0 : Mem} (hW : ∀ k j, (W_MO_partLine_L137) k j → W k j)  : ∀ (fu : Nat) (M : Mem) (v1_ : Int) (v2_ : Int) (v3_ : Int) (v4_ : Int) (v5_ : Int), Fr W M0 M → Post (fun r => Fr W M0 r) (t_MO_partLine_L137  fu M v1_ v2_ v3_ v4_ v5_) := by
  intro fu
  induction fu with
  | zero => intro M v1_ v2_ v3_ v4_ v5_ h; exact post_none
  | succ fu ih =>
    intro M v1_ v2_ v3_ v4_ v5_ h
    rw [t_MO_partLine_L137]
    refine post_ite (fun c_1 => ?_) (fun c_1 => ?_)
    · refine post_bindv (fun q41 => ?_)
      refine post_bind (Q := fun r => Fr W M0 r) (fr_MO_reads (fun k j hk => hW k j (Or.inl hk))  h) (fun q43 h_q43 => ?_)
      exact post_some h_q43
    · exact (fr_MO_partLine_L147 (fun k j hk => hW k j (Or.inr hk)) (fun a0_ a1_ a2_ a3_ a4_ a5_ h9 => ih a0_ a1_ a2_ a3_ a4_ a5_ h9) _ _ _ _ _ _ _ _ h)
def W_MO_partLine_L42 : Nat → Int → Prop := fun k j => (k = 191 ∧ (j = 20 ∨ j = 21 ∨ j = 22 ∨ j = 23 ∨ j = 24 ∨ j = 25)) ∨ k = 193 ∨ k = 197
theorem fr_MO_partLine_L42  {W : Nat → Int → Prop} {M0 : Mem} (hW : ∀ k j, (W_MO_partLine_L42) k j → W k j)  {M : Mem} (h : Fr W M0 M) : Post (fun r => Fr W M0 r) (t_MO_partLine_L42 M) := by
  unfold t_MO_partLine_L42
  refine post_ite (fun c_1 => ?_) (fun c_1 => ?_)
  · refine post_bindv (fun q15 => ?_)
    refine post_bindv (fun q18 => ?_)
    refine post_bind (Q := fun r => Fr W M0 r) (fr_MO_token (fun k j hk => hW k j (Or.inl ⟨(hk).1, (Or.elim (hk).2 (fun h => (Or.inl h)) (fun h => (Or.elim h (fun h => (Or.inr (Or.inl h))) (fun h => (Or.elim h (fun h => (Or.inr (Or.inr (Or.inl h)))) (fun h => (Or.inr (Or.inr (Or.inr (Or.inl h))))))))))⟩))  h) (fun q20 h_q20 => ?_)
    refine post_bindv (fun q22 => ?_)
    refine post_bind (Q := fun r => Fr W M0 r.1) (fr_MO_numeral (fun k j hk => hW k j (Or.inl ⟨(hk).1, (Or.elim (hk).2 (fun h => (Or.inl h)) (fun h => (Or.elim h (fun h => (Or.inr (Or.inl h))) (fun h => (Or.elim h (fun h => (Or.inr (Or.inr (Or.inl h)))) (fun h => (Or.elim h (fun h => (Or.inr (Or.inr (Or.inr (Or.inl h))))) (fun h => (Or.elim h (fun h => (Or.inr (Or.inr (Or.inr (Or.inr (Or.inl h)))))) (fun h => (Or.inr (Or.inr (Or.inr (Or.inr (Or.inr h)))))))))))))))⟩))  h_q20) (fun q24 h_q24 => ?_)
    refine post_bindv (fun q26 => ?_)
    refine post_bind (Q := fun r => Fr W M0 r.1) (fr_MO_numeral (fun k j hk => hW k j (Or.inl ⟨(hk).1, (Or.elim (hk).2 (fun h => (Or.inl h)) (fun h => (Or.elim h (fun h => (Or.inr (Or.inl h))) (fun h => (Or.elim h (fun h => (Or.inr (Or.inr (Or.inl h)))) (fun h => (Or.elim h (fun h => (Or.inr (Or.inr (Or.inr (Or.inl h))))) (fun h => (Or.elim h (fun h => (Or.inr (Or.inr (Or.inr (Or.inr (Or.inl h)))))) (fun h => (Or.inr (Or.inr (Or.inr (Or.inr (Or.inr h)))))))))))))))⟩))  h_q24) (fun q28 h_q28 => ?_)
    refine post_bindv (fun q30 => ?_)
    refine post_bind (Q := fun r => Fr W M0 r.1) (fr_MO_numeral (fun k j hk => hW k j (Or.inl ⟨(hk).1, (Or.elim (hk).2 (fun h => (Or.inl h)) (fun h => (Or.elim h (fun h => (Or.inr (Or.inl h))) (fun h => (Or.elim h (fun h => (Or.inr (Or.inr (Or.inl h)))) (fun h => (Or.elim h (fun h => (Or.inr (Or.inr (Or.inr (Or.inl h))))) (fun h => (Or.elim h (fun h => (Or.inr (Or.inr (Or.inr (Or.inr (Or.inl h)))))) (fun h => (Or.inr (Or.inr (Or.inr (Or.inr (Or.inr h)))))))))))))))⟩))  h_q28) (fun q32 h_q32 => ?_)
    refine post_bindv (fun q34 => ?_)
    refine post_bind (Q := fun r => Fr W M0 r.1) (fr_MO_numeral (fun k j hk => hW k j (Or.inl ⟨(hk).1, (Or.elim (hk).2 (fun h => (Or.inl h)) (fun h => (Or.elim h (fun h => (Or.inr (Or.inl h))) (fun h => (Or.elim h (fun h => (Or.inr (Or.inr (Or.inl h)))) (fun h => (Or.elim h (fun h => (Or.inr (Or.inr (Or.inr (Or.inl h))))) (fun h => (Or.elim h (fun h => (Or.inr (Or.inr (Or.inr (Or.inr (Or.inl h)))))) (fun h => (Or.inr (Or.inr (Or.inr (Or.inr (Or.inr h)))))))))))))))⟩))  h_q32) (fun q36 h_q36 => ?_)
    refine post_ite (fun c_2 => ?_) (fun c_2 => ?_)
    · exact (fr_MO_partLine_L137 (fun k j hk => hW k j (Or.elim hk (fun h => (Or.inr (Or.inl h))) (fun h => (Or.inr (Or.inr h)))))  _ _ _ _ _ _ _ h_q36)
    · exact post_some h_q36
  · exact post_some h
def W_MO_partLine : Nat → Int → Prop := fun k j => (k = 191 ∧ (j = 20 ∨ j = 21 ∨ j = 22 ∨ j = 23 ∨ j = 24 ∨ j = 25)) ∨ k = 193 ∨ k = 197
theorem fr_MO_partLine  {W : Nat → Int → Prop} {M0 : Mem} (hW : ∀ k j, (W_MO_partLine) k j → W k j)  {M : Mem} (h : Fr W M0 M) : Post (fun r => Fr W M0 r) (t_MO_partLine M) := by
  unfold t_MO_partLine
  refine post_ite (fun c_1 => ?_) (fun c_1 => ?_)
  · refine post_bindv (fun q3 => ?_)
    refine post_bindv (fun q6 => ?_)
    refine post_ite (fun c_2 => ?_) (fun c_2 => ?_)
    · refine post_let (fun q9 e_q9 => ?_)
      have h_q9 : Fr W M0 q9 := by rw [e_q9]; exact (fr_MO_wrong (fun k j hk => hW k j (Or.inl ⟨(hk).1, (Or.elim (hk).2 (fun h => (Or.inr (Or.inr (Or.inr (Or.inr (Or.inl h)))))) (fun h => (Or.inr (Or.inr (Or.inr (Or.inr (Or.inr h)))))))⟩))  h)
      exact (fr_MO_partLine_L42 (fun k j hk => hW k j (Or.elim hk (fun h => (Or.inl ⟨(h).1, (Or.elim (h).2 (fun h => (Or.inl h)) (fun h => (Or.elim h (fun h => (Or.inr (Or.inl h))) (fun h => (Or.elim h (fun h => (Or.inr (Or.inr (Or.inl h)))) (fun h => (Or.elim h (fun h => (Or.inr (Or.inr (Or.inr (Or.inl h))))) (fun h => (Or.elim h (fun h => (Or.inr (Or.inr (Or.inr (Or.inr (Or.inl h)))))) (fun h => (Or.inr (Or.inr (Or.inr (Or.inr (Or.inr h)))))))))))))))⟩)) (fun h => (Or.elim h (fun h => (Or.inr (Or.inl h))) (fun h => (Or.inr (Or.inr h)))))))  h_q9)
    · exact (fr_MO_partLine_L42 (fun k j hk => hW k j (Or.elim hk (fun h => (Or.inl ⟨(h).1, (Or.elim (h).2 (fun h => (Or.inl h)) (fun h => (Or.elim h (fun h => (Or.inr (Or.inl h))) (fun h => (Or.elim h (fun h => (Or.inr (Or.inr (Or.inl h)))) (fun h => (Or.elim h (fun h => (Or.inr (Or.inr (Or.inr (Or.inl h))))) (fun h => (Or.elim h (fun h => (Or.inr (Or.inr (Or.inr (Or.inr (Or.inl h)))))) (fun h => (Or.inr (Or.inr (Or.inr (Or.inr (Or.inr h)))))))))))))))⟩)) (fun h => (Or.elim h (fun h => (Or.inr (Or.inl h))) (fun h => (Or.inr (Or.inr h)))))))  h)
  · refine post_let (fun q11 e_q11 => ?_)
    have h_q11 : Fr W M0 q11 := by rw [e_q11]; exact (fr_MO_wrong (fun k j hk => hW k j (Or.inl ⟨(hk).1, (Or.elim (hk).2 (fun h => (Or.inr (Or.inr (Or.inr (Or.inr (Or.inl h)))))) (fun h => (Or.inr (Or.inr (Or.inr (Or.inr (Or.inr h)))))))⟩))  h)
    exact (fr_MO_partLine_L42 (fun k j hk => hW k j (Or.elim hk (fun h => (Or.inl ⟨(h).1, (Or.elim (h).2 (fun h => (Or.inl h)) (fun h => (Or.elim h (fun h => (Or.inr (Or.inl h))) (fun h => (Or.elim h (fun h => (Or.inr (Or.inr (Or.inl h)))) (fun h => (Or.elim h (fun h => (Or.inr (Or.inr (Or.inr (Or.inl h))))) (fun h => (Or.elim h (fun h => (Or.inr (Or.inr (Or.inr (Or.inr (Or.inl h)))))) (fun h => (Or.inr (Or.inr (Or.inr (Or.inr (Or.inr h)))))))))))))))⟩)) (fun h => (Or.elim h (fun h => (Or.inr (Or.inl h))) (fun h => (Or.inr (Or.inr h)))))))  h_q11)
def W_MO_wallLine_L61 : Nat → Int → Prop := fun k j => (k = 191 ∧ (j = 20 ∨ j = 21 ∨ j = 22 ∨ j = 23)) ∨ k = 193 ∨ k = 198
theorem fr_MO_wallLine_L61 {v1_ : Int} {W : Nat → Int → Prop} {M0 : Mem} (hW : ∀ k j, (W_MO_wallLine_L61) k j → W k j)  {M : Mem} (h : Fr W M0 M) : Post (fun r => Fr W M0 r) (t_MO_wallLine_L61 M v1_) := by
  unfold t_MO_wallLine_L61
  refine post_ite (fun c_1 => ?_) (fun c_1 => ?_)
  · refine post_guard (fun c_2 => ?_)
    refine post_let (fun M21 e_M21 => ?_)
    have h_M21 : Fr W M0 M21 := by rw [e_M21]; exact Fr.setI h (hW _ _ (Or.inr (Or.inr rfl)))
    refine post_bindv (fun q22 => ?_)
    refine post_bind (Q := fun r => Fr W M0 r) (fr_MO_reads (fun k j hk => hW k j (Or.inr (Or.inl hk)))  h_M21) (fun q24 h_q24 => ?_)
    refine post_bind (Q := fun r => Fr W M0 r) (fr_MO_token (fun k j hk => hW k j (Or.inl ⟨(hk).1, (Or.elim (hk).2 (fun h => (Or.inl h)) (fun h => (Or.elim h (fun h => (Or.inr (Or.inl h))) (fun h => (Or.elim h (fun h => (Or.inr (Or.inr (Or.inl h)))) (fun h => (Or.inr (Or.inr (Or.inr h)))))))))⟩))  h_q24) (fun q26 h_q26 => ?_)
    exact post_some h_q26
  · exact post_some h
def W_MO_wallLine_L56 : Nat → Int → Prop := fun k j => (k = 191 ∧ (j = 20 ∨ j = 21 ∨ j = 22 ∨ j = 23 ∨ j = 24 ∨ j = 25)) ∨ k = 193 ∨ k = 198
theorem fr_MO_wallLine_L56 {v1_ : Int} {W : Nat → Int → Prop} {M0 : Mem} (hW : ∀ k j, (W_MO_wallLine_L56) k j → W k j)  {M : Mem} (h : Fr W M0 M) : Post (fun r => Fr W M0 r) (t_MO_wallLine_L56 M v1_) := by
  unfold t_MO_wallLine_L56
  refine post_let (fun q28 e_q28 => ?_)
  have h_q28 : Fr W M0 q28 := by rw [e_q28]; exact (fr_MO_wrong (fun k j hk => hW k j (Or.inl ⟨(hk).1, (Or.elim (hk).2 (fun h => (Or.inr (Or.inr (Or.inr (Or.inr (Or.inl h)))))) (fun h => (Or.inr (Or.inr (Or.inr (Or.inr (Or.inr h)))))))⟩))  h)
  exact (fr_MO_wallLine_L61 (fun k j hk => hW k j (Or.elim hk (fun h => (Or.inl ⟨(h).1, (Or.elim (h).2 (fun h => (Or.inl h)) (fun h => (Or.elim h (fun h => (Or.inr (Or.inl h))) (fun h => (Or.elim h (fun h => (Or.inr (Or.inr (Or.inl h)))) (fun h => (Or.inr (Or.inr (Or.inr (Or.inl h))))))))))⟩)) (fun h => (Or.elim h (fun h => (Or.inr (Or.inl h))) (fun h => (Or.inr (Or.inr h)))))))  h_q28)
def W_MO_wallLine_L29 : Nat → Int → Prop := fun k j => (k = 191 ∧ (j = 20 ∨ j = 21 ∨ j = 22 ∨ j = 23 ∨ j = 24 ∨ j = 25)) ∨ k = 193 ∨ k = 198
theorem fr_MO_wallLine_L29 {v1_ : Int} {W : Nat → Int → Prop} {M0 : Mem} (hW : ∀ k j, (W_MO_wallLine_L29) k j → W k j)  {M : Mem} (h : Fr W M0 M) : Post (fun r => Fr W M0 r) (t_MO_wallLine_L29 M v1_) := by
  unfold t_MO_wallLine_L29
  refine post_ite (fun c_1 => ?_) (fun c_1 => ?_)
  · refine post_guard (fun c_2 => ?_)
    refine post_ite (fun c_3 => ?_) (fun c_3 => ?_)
    · refine post_bindv (fun q15 => ?_)
      refine post_ite (fun c_4 => ?_) (fun c_4 => ?_)
      · exact (fr_MO_wallLine_L61 (fun k j hk => hW k j (Or.elim hk (fun h => (Or.inl ⟨(h).1, (Or.elim (h).2 (fun h => (Or.inl h)) (fun h => (Or.elim h (fun h => (Or.inr (Or.inl h))) (fun h => (Or.elim h (fun h => (Or.inr (Or.inr (Or.inl h)))) (fun h => (Or.inr (Or.inr (Or.inr (Or.inl h))))))))))⟩)) (fun h => (Or.elim h (fun h => (Or.inr (Or.inl h))) (fun h => (Or.inr (Or.inr h)))))))  h)
      · exact (fr_MO_wallLine_L56 (fun k j hk => hW k j (Or.elim hk (fun h => (Or.inl ⟨(h).1, (Or.elim (h).2 (fun h => (Or.inl h)) (fun h => (Or.elim h (fun h => (Or.inr (Or.inl h))) (fun h => (Or.elim h (fun h => (Or.inr (Or.inr (Or.inl h)))) (fun h => (Or.elim h (fun h => (Or.inr (Or.inr (Or.inr (Or.inl h))))) (fun h => (Or.elim h (fun h => (Or.inr (Or.inr (Or.inr (Or.inr (Or.inl h)))))) (fun h => (Or.inr (Or.inr (Or.inr (Or.inr (Or.inr h)))))))))))))))⟩)) (fun h => (Or.elim h (fun h => (Or.inr (Or.inl h))) (fun h => (Or.inr (Or.inr h)))))))  h)
    · exact (fr_MO_wallLine_L56 (fun k j hk => hW k j (Or.elim hk (fun h => (Or.inl ⟨(h).1, (Or.elim (h).2 (fun h => (Or.inl h)) (fun h => (Or.elim h (fun h => (Or.inr (Or.inl h))) (fun h => (Or.elim h (fun h => (Or.inr (Or.inr (Or.inl h)))) (fun h => (Or.elim h (fun h => (Or.inr (Or.inr (Or.inr (Or.inl h))))) (fun h => (Or.elim h (fun h => (Or.inr (Or.inr (Or.inr (Or.inr (Or.inl h)))))) (fun h => (Or.inr (Or.inr (Or.inr (Or.inr (Or.inr h)))))))))))))))⟩)) (fun h => (Or.elim h (fun h => (Or.inr (Or.inl h))) (fun h => (Or.inr (Or.inr h)))))))  h)
  · exact (fr_MO_wallLine_L61 (fun k j hk => hW k j (Or.elim hk (fun h => (Or.inl ⟨(h).1, (Or.elim (h).2 (fun h => (Or.inl h)) (fun h => (Or.elim h (fun h => (Or.inr (Or.inl h))) (fun h => (Or.elim h (fun h => (Or.inr (Or.inr (Or.inl h)))) (fun h => (Or.inr (Or.inr (Or.inr (Or.inl h))))))))))⟩)) (fun h => (Or.elim h (fun h => (Or.inr (Or.inl h))) (fun h => (Or.inr (Or.inr h)))))))  h)
def W_MO_wallLine : Nat → Int → Prop := fun k j => (k = 191 ∧ (j = 20 ∨ j = 21 ∨ j = 22 ∨ j = 23 ∨ j = 24 ∨ j = 25)) ∨ k = 193 ∨ k = 198
theorem fr_MO_wallLine  {W : Nat → Int → Prop} {M0 : Mem} (hW : ∀ k j, (W_MO_wallLine) k j → W k j)  {M : Mem} (h : Fr W M0 M) : Post (fun r => Fr W M0 r) (t_MO_wallLine M) := by
  unfold t_MO_wallLine
  refine post_bind (Q := fun r => Fr W M0 r.1) (fr_MO_cellAtHand (fun k j hk => hW k j (Or.inl ⟨(hk).1, (Or.elim (hk).2 (fun h => (Or.inl h)) (fun h => (Or.elim h (fun h => (Or.inr (Or.inl h))) (fun h => (Or.elim h (fun h => (Or.inr (Or.inr (Or.inl h)))) (fun h => (Or.elim h (fun h => (Or.inr (Or.inr (Or.inr (Or.inl h))))) (fun h => (Or.elim h (fun h => (Or.inr (Or.inr (Or.inr (Or.inr (Or.inl h)))))) (fun h => (Or.inr (Or.inr (Or.inr (Or.inr (Or.inr h)))))))))))))))⟩))  h) (fun q1 h_q1 => ?_)
  refine post_ite (fun c_1 => ?_) (fun c_1 => ?_)
  · refine post_guard (fun c_2 => ?_)
    refine post_ite (fun c_3 => ?_) (fun c_3 => ?_)
    · exact (fr_MO_wallLine_L29 (fun k j hk => hW k j (Or.elim hk (fun h => (Or.inl ⟨(h).1, (Or.elim (h).2 (fun h => (Or.inl h)) (fun h => (Or.elim h (fun h => (Or.inr (Or.inl h))) (fun h => (Or.elim h (fun h => (Or.inr (Or.inr (Or.inl h)))) (fun h => (Or.elim h (fun h => (Or.inr (Or.inr (Or.inr (Or.inl h))))) (fun h => (Or.elim h (fun h => (Or.inr (Or.inr (Or.inr (Or.inr (Or.inl h)))))) (fun h => (Or.inr (Or.inr (Or.inr (Or.inr (Or.inr h)))))))))))))))⟩)) (fun h => (Or.elim h (fun h => (Or.inr (Or.inl h))) (fun h => (Or.inr (Or.inr h)))))))  h_q1)
    · refine post_let (fun q8 e_q8 => ?_)
      have h_q8 : Fr W M0 q8 := by rw [e_q8]; exact (fr_MO_wrong (fun k j hk => hW k j (Or.inl ⟨(hk).1, (Or.elim (hk).2 (fun h => (Or.inr (Or.inr (Or.inr (Or.inr (Or.inl h)))))) (fun h => (Or.inr (Or.inr (Or.inr (Or.inr (Or.inr h)))))))⟩))  h_q1)
      exact (fr_MO_wallLine_L29 (fun k j hk => hW k j (Or.elim hk (fun h => (Or.inl ⟨(h).1, (Or.elim (h).2 (fun h => (Or.inl h)) (fun h => (Or.elim h (fun h => (Or.inr (Or.inl h))) (fun h => (Or.elim h (fun h => (Or.inr (Or.inr (Or.inl h)))) (fun h => (Or.elim h (fun h => (Or.inr (Or.inr (Or.inr (Or.inl h))))) (fun h => (Or.elim h (fun h => (Or.inr (Or.inr (Or.inr (Or.inr (Or.inl h)))))) (fun h => (Or.inr (Or.inr (Or.inr (Or.inr (Or.inr h)))))))))))))))⟩)) (fun h => (Or.elim h (fun h => (Or.inr (Or.inl h))) (fun h => (Or.inr (Or.inr h)))))))  h_q8)
  · exact (fr_MO_wallLine_L29 (fun k j hk => hW k j (Or.elim hk (fun h => (Or.inl ⟨(h).1, (Or.elim (h).2 (fun h => (Or.inl h)) (fun h => (Or.elim h (fun h => (Or.inr (Or.inl h))) (fun h => (Or.elim h (fun h => (Or.inr (Or.inr (Or.inl h)))) (fun h => (Or.elim h (fun h => (Or.inr (Or.inr (Or.inr (Or.inl h))))) (fun h => (Or.elim h (fun h => (Or.inr (Or.inr (Or.inr (Or.inr (Or.inl h)))))) (fun h => (Or.inr (Or.inr (Or.inr (Or.inr (Or.inr h)))))))))))))))⟩)) (fun h => (Or.elim h (fun h => (Or.inr (Or.inl h))) (fun h => (Or.inr (Or.inr h)))))))  h_q1)
def W_MO_stairLine_L53 : Nat → Int → Prop := fun k j => (k = 191 ∧ (j = 20 ∨ j = 21 ∨ j = 22 ∨ j = 23)) ∨ k = 193 ∨ k = 199
theorem fr_MO_stairLine_L53 {v1_ : Int} {W : Nat → Int → Prop} {M0 : Mem} (hW : ∀ k j, (W_MO_stairLine_L53) k j → W k j)  {M : Mem} (h : Fr W M0 M) : Post (fun r => Fr W M0 r) (t_MO_stairLine_L53 M v1_) := by
  unfold t_MO_stairLine_L53
  refine post_ite (fun c_1 => ?_) (fun c_1 => ?_)
  · refine post_guard (fun c_2 => ?_)
    refine post_let (fun M20 e_M20 => ?_)
    have h_M20 : Fr W M0 M20 := by rw [e_M20]; exact Fr.setI h (hW _ _ (Or.inr (Or.inr rfl)))
    refine post_bindv (fun q21 => ?_)
    refine post_bind (Q := fun r => Fr W M0 r) (fr_MO_reads (fun k j hk => hW k j (Or.inr (Or.inl hk)))  h_M20) (fun q23 h_q23 => ?_)
    refine post_bind (Q := fun r => Fr W M0 r) (fr_MO_token (fun k j hk => hW k j (Or.inl ⟨(hk).1, (Or.elim (hk).2 (fun h => (Or.inl h)) (fun h => (Or.elim h (fun h => (Or.inr (Or.inl h))) (fun h => (Or.elim h (fun h => (Or.inr (Or.inr (Or.inl h)))) (fun h => (Or.inr (Or.inr (Or.inr h)))))))))⟩))  h_q23) (fun q25 h_q25 => ?_)
    exact post_some h_q25
  · exact post_some h
def W_MO_stairLine_L29 : Nat → Int → Prop := fun k j => (k = 191 ∧ (j = 20 ∨ j = 21 ∨ j = 22 ∨ j = 23 ∨ j = 24 ∨ j = 25)) ∨ k = 193 ∨ k = 199
theorem fr_MO_stairLine_L29 {v1_ : Int} {W : Nat → Int → Prop} {M0 : Mem} (hW : ∀ k j, (W_MO_stairLine_L29) k j → W k j)  {M : Mem} (h : Fr W M0 M) : Post (fun r => Fr W M0 r) (t_MO_stairLine_L29 M v1_) := by
  unfold t_MO_stairLine_L29
  refine post_ite (fun c_1 => ?_) (fun c_1 => ?_)
  · refine post_guard (fun c_2 => ?_)
    refine post_ite (fun c_3 => ?_) (fun c_3 => ?_)
    · exact (fr_MO_stairLine_L53 (fun k j hk => hW k j (Or.elim hk (fun h => (Or.inl ⟨(h).1, (Or.elim (h).2 (fun h => (Or.inl h)) (fun h => (Or.elim h (fun h => (Or.inr (Or.inl h))) (fun h => (Or.elim h (fun h => (Or.inr (Or.inr (Or.inl h)))) (fun h => (Or.inr (Or.inr (Or.inr (Or.inl h))))))))))⟩)) (fun h => (Or.elim h (fun h => (Or.inr (Or.inl h))) (fun h => (Or.inr (Or.inr h)))))))  h)
    · refine post_let (fun q15 e_q15 => ?_)
      have h_q15 : Fr W M0 q15 := by rw [e_q15]; exact (fr_MO_wrong (fun k j hk => hW k j (Or.inl ⟨(hk).1, (Or.elim (hk).2 (fun h => (Or.inr (Or.inr (Or.inr (Or.inr (Or.inl h)))))) (fun h => (Or.inr (Or.inr (Or.inr (Or.inr (Or.inr h)))))))⟩))  h)
      exact (fr_MO_stairLine_L53 (fun k j hk => hW k j (Or.elim hk (fun h => (Or.inl ⟨(h).1, (Or.elim (h).2 (fun h => (Or.inl h)) (fun h => (Or.elim h (fun h => (Or.inr (Or.inl h))) (fun h => (Or.elim h (fun h => (Or.inr (Or.inr (Or.inl h)))) (fun h => (Or.inr (Or.inr (Or.inr (Or.inl h))))))))))⟩)) (fun h => (Or.elim h (fun h => (Or.inr (Or.inl h))) (fun h => (Or.inr (Or.inr h)))))))  h_q15)
  · exact (fr_MO_stairLine_L53 (fun k j hk => hW k j (Or.elim hk (fun h => (Or.inl ⟨(h).1, (Or.elim (h).2 (fun h => (Or.inl h)) (fun h => (Or.elim h (fun h => (Or.inr (Or.inl h))) (fun h => (Or.elim h (fun h => (Or.inr (Or.inr (Or.inl h)))) (fun h => (Or.inr (Or.inr (Or.inr (Or.inl h))))))))))⟩)) (fun h => (Or.elim h (fun h => (Or.inr (Or.inl h))) (fun h => (Or.inr (Or.inr h)))))))  h)
def W_MO_stairLine : Nat → Int → Prop := fun k j => (k = 191 ∧ (j = 20 ∨ j = 21 ∨ j = 22 ∨ j = 23 ∨ j = 24 ∨ j = 25)) ∨ k = 193 ∨ k = 199
theorem fr_MO_stairLine  {W : Nat → Int → Prop} {M0 : Mem} (hW : ∀ k j, (W_MO_stairLine) k j → W k j)  {M : Mem} (h : Fr W M0 M) : Post (fun r => Fr W M0 r) (t_MO_stairLine M) := by
  unfold t_MO_stairLine
  refine post_bind (Q := fun r => Fr W M0 r.1) (fr_MO_cellAtHand (fun k j hk => hW k j (Or.inl ⟨(hk).1, (Or.elim (hk).2 (fun h => (Or.inl h)) (fun h => (Or.elim h (fun h => (Or.inr (Or.inl h))) (fun h => (Or.elim h (fun h => (Or.inr (Or.inr (Or.inl h)))) (fun h => (Or.elim h (fun h => (Or.inr (Or.inr (Or.inr (Or.inl h))))) (fun h => (Or.elim h (fun h => (Or.inr (Or.inr (Or.inr (Or.inr (Or.inl h)))))) (fun h => (Or.inr (Or.inr (Or.inr (Or.inr (Or.inr h)))))))))))))))⟩))  h) (fun q1 h_q1 => ?_)
  refine post_ite (fun c_1 => ?_) (fun c_1 => ?_)
  · refine post_guard (fun c_2 => ?_)
    refine post_ite (fun c_3 => ?_) (fun c_3 => ?_)
    · exact (fr_MO_stairLine_L29 (fun k j hk => hW k j (Or.elim hk (fun h => (Or.inl ⟨(h).1, (Or.elim (h).2 (fun h => (Or.inl h)) (fun h => (Or.elim h (fun h => (Or.inr (Or.inl h))) (fun h => (Or.elim h (fun h => (Or.inr (Or.inr (Or.inl h)))) (fun h => (Or.elim h (fun h => (Or.inr (Or.inr (Or.inr (Or.inl h))))) (fun h => (Or.elim h (fun h => (Or.inr (Or.inr (Or.inr (Or.inr (Or.inl h)))))) (fun h => (Or.inr (Or.inr (Or.inr (Or.inr (Or.inr h)))))))))))))))⟩)) (fun h => (Or.elim h (fun h => (Or.inr (Or.inl h))) (fun h => (Or.inr (Or.inr h)))))))  h_q1)
    · refine post_let (fun q8 e_q8 => ?_)
      have h_q8 : Fr W M0 q8 := by rw [e_q8]; exact (fr_MO_wrong (fun k j hk => hW k j (Or.inl ⟨(hk).1, (Or.elim (hk).2 (fun h => (Or.inr (Or.inr (Or.inr (Or.inr (Or.inl h)))))) (fun h => (Or.inr (Or.inr (Or.inr (Or.inr (Or.inr h)))))))⟩))  h_q1)
      exact (fr_MO_stairLine_L29 (fun k j hk => hW k j (Or.elim hk (fun h => (Or.inl ⟨(h).1, (Or.elim (h).2 (fun h => (Or.inl h)) (fun h => (Or.elim h (fun h => (Or.inr (Or.inl h))) (fun h => (Or.elim h (fun h => (Or.inr (Or.inr (Or.inl h)))) (fun h => (Or.elim h (fun h => (Or.inr (Or.inr (Or.inr (Or.inl h))))) (fun h => (Or.elim h (fun h => (Or.inr (Or.inr (Or.inr (Or.inr (Or.inl h)))))) (fun h => (Or.inr (Or.inr (Or.inr (Or.inr (Or.inr h)))))))))))))))⟩)) (fun h => (Or.elim h (fun h => (Or.inr (Or.inl h))) (fun h => (Or.inr (Or.inr h)))))))  h_q8)
  · exact (fr_MO_stairLine_L29 (fun k j hk => hW k j (Or.elim hk (fun h => (Or.inl ⟨(h).1, (Or.elim (h).2 (fun h => (Or.inl h)) (fun h => (Or.elim h (fun h => (Or.inr (Or.inl h))) (fun h => (Or.elim h (fun h => (Or.inr (Or.inr (Or.inl h)))) (fun h => (Or.elim h (fun h => (Or.inr (Or.inr (Or.inr (Or.inl h))))) (fun h => (Or.elim h (fun h => (Or.inr (Or.inr (Or.inr (Or.inr (Or.inl h)))))) (fun h => (Or.inr (Or.inr (Or.inr (Or.inr (Or.inr h)))))))))))))))⟩)) (fun h => (Or.elim h (fun h => (Or.inr (Or.inl h))) (fun h => (Or.inr (Or.inr h)))))))  h_q1)
def W_MO_thingLine_L72 : Nat → Int → Prop := fun k j => (k = 191 ∧ (j = 20 ∨ j = 21 ∨ j = 22 ∨ j = 23)) ∨ k = 193 ∨ k = 202
theorem fr_MO_thingLine_L72 {x1 : Int} {v2_ : Int} {W : Nat → Int → Prop} {M0 : Mem} (hW : ∀ k j, (W_MO_thingLine_L72) k j → W k j)  {M : Mem} (h : Fr W M0 M) : Post (fun r => Fr W M0 r) (t_MO_thingLine_L72 x1 M v2_) := by
  unfold t_MO_thingLine_L72
  refine post_ite (fun c_1 => ?_) (fun c_1 => ?_)
  · refine post_guard (fun c_2 => ?_)
    refine post_let (fun M24 e_M24 => ?_)
    have h_M24 : Fr W M0 M24 := by rw [e_M24]; exact Fr.setI h (hW _ _ (Or.inr (Or.inr rfl)))
    refine post_bindv (fun q25 => ?_)
    refine post_bind (Q := fun r => Fr W M0 r) (fr_MO_reads (fun k j hk => hW k j (Or.inr (Or.inl hk)))  h_M24) (fun q27 h_q27 => ?_)
    refine post_bind (Q := fun r => Fr W M0 r) (fr_MO_token (fun k j hk => hW k j (Or.inl ⟨(hk).1, (Or.elim (hk).2 (fun h => (Or.inl h)) (fun h => (Or.elim h (fun h => (Or.inr (Or.inl h))) (fun h => (Or.elim h (fun h => (Or.inr (Or.inr (Or.inl h)))) (fun h => (Or.inr (Or.inr (Or.inr h)))))))))⟩))  h_q27) (fun q29 h_q29 => ?_)
    exact post_some h_q29
  · exact post_some h
def W_MO_thingLine_L67 : Nat → Int → Prop := fun k j => (k = 191 ∧ (j = 20 ∨ j = 21 ∨ j = 22 ∨ j = 23 ∨ j = 24 ∨ j = 25)) ∨ k = 193 ∨ k = 202
theorem fr_MO_thingLine_L67 {x1 : Int} {v2_ : Int} {W : Nat → Int → Prop} {M0 : Mem} (hW : ∀ k j, (W_MO_thingLine_L67) k j → W k j)  {M : Mem} (h : Fr W M0 M) : Post (fun r => Fr W M0 r) (t_MO_thingLine_L67 x1 M v2_) := by
  unfold t_MO_thingLine_L67
  refine post_let (fun q31 e_q31 => ?_)
  have h_q31 : Fr W M0 q31 := by rw [e_q31]; exact (fr_MO_wrong (fun k j hk => hW k j (Or.inl ⟨(hk).1, (Or.elim (hk).2 (fun h => (Or.inr (Or.inr (Or.inr (Or.inr (Or.inl h)))))) (fun h => (Or.inr (Or.inr (Or.inr (Or.inr (Or.inr h)))))))⟩))  h)
  exact (fr_MO_thingLine_L72 (fun k j hk => hW k j (Or.elim hk (fun h => (Or.inl ⟨(h).1, (Or.elim (h).2 (fun h => (Or.inl h)) (fun h => (Or.elim h (fun h => (Or.inr (Or.inl h))) (fun h => (Or.elim h (fun h => (Or.inr (Or.inr (Or.inl h)))) (fun h => (Or.inr (Or.inr (Or.inr (Or.inl h))))))))))⟩)) (fun h => (Or.elim h (fun h => (Or.inr (Or.inl h))) (fun h => (Or.inr (Or.inr h)))))))  h_q31)
def W_MO_thingLine : Nat → Int → Prop := fun k j => (k = 191 ∧ (j = 20 ∨ j = 21 ∨ j = 22 ∨ j = 23 ∨ j = 24 ∨ j = 25)) ∨ k = 193 ∨ k = 200 ∨ k = 201 ∨ k = 202
theorem fr_MO_thingLine {x1 : Int} {W : Nat → Int → Prop} {M0 : Mem} (hW : ∀ k j, (W_MO_thingLine) k j → W k j)  {M : Mem} (h : Fr W M0 M) : Post (fun r => Fr W M0 r) (t_MO_thingLine M x1) := by
  unfold t_MO_thingLine
  refine post_bindv (fun q1 => ?_)
  refine post_bind (Q := fun r => Fr W M0 r.1) (fr_MO_fresh (fun k j hk => hW k j (Or.inl ⟨(hk).1, (Or.elim (hk).2 (fun h => (Or.inl h)) (fun h => (Or.elim h (fun h => (Or.inr (Or.inl h))) (fun h => (Or.elim h (fun h => (Or.inr (Or.inr (Or.inl h)))) (fun h => (Or.elim h (fun h => (Or.inr (Or.inr (Or.inr (Or.inl h))))) (fun h => (Or.elim h (fun h => (Or.inr (Or.inr (Or.inr (Or.inr (Or.inl h)))))) (fun h => (Or.inr (Or.inr (Or.inr (Or.inr (Or.inr h)))))))))))))))⟩))  h) (fun q3 h_q3 => ?_)
  refine post_guard (fun c_1 => ?_)
  refine post_let (fun M6 e_M6 => ?_)
  have h_M6 : Fr W M0 M6 := by rw [e_M6]; exact Fr.setI h_q3 (hW _ _ (Or.inr (Or.inr (Or.inl rfl))))
  refine post_bind (Q := fun r => Fr W M0 r.1) (fr_MO_numeral (fun k j hk => hW k j (Or.inl ⟨(hk).1, (Or.elim (hk).2 (fun h => (Or.inl h)) (fun h => (Or.elim h (fun h => (Or.inr (Or.inl h))) (fun h => (Or.elim h (fun h => (Or.inr (Or.inr (Or.inl h)))) (fun h => (Or.elim h (fun h => (Or.inr (Or.inr (Or.inr (Or.inl h))))) (fun h => (Or.elim h (fun h => (Or.inr (Or.inr (Or.inr (Or.inr (Or.inl h)))))) (fun h => (Or.inr (Or.inr (Or.inr (Or.inr (Or.inr h)))))))))))))))⟩))  h_M6) (fun q7 h_q7 => ?_)
  refine post_guard (fun c_2 => ?_)
  refine post_let (fun M10 e_M10 => ?_)
  have h_M10 : Fr W M0 M10 := by rw [e_M10]; exact Fr.setI h_q7 (hW _ _ (Or.inr (Or.inr (Or.inr (Or.inl rfl)))))
  refine post_bind (Q := fun r => Fr W M0 r.1) (fr_MO_cellAtHand (fun k j hk => hW k j (Or.inl ⟨(hk).1, (Or.elim (hk).2 (fun h => (Or.inl h)) (fun h => (Or.elim h (fun h => (Or.inr (Or.inl h))) (fun h => (Or.elim h (fun h => (Or.inr (Or.inr (Or.inl h)))) (fun h => (Or.elim h (fun h => (Or.inr (Or.inr (Or.inr (Or.inl h))))) (fun h => (Or.elim h (fun h => (Or.inr (Or.inr (Or.inr (Or.inr (Or.inl h)))))) (fun h => (Or.inr (Or.inr (Or.inr (Or.inr (Or.inr h)))))))))))))))⟩))  h_M10) (fun q11 h_q11 => ?_)
  refine post_ite (fun c_3 => ?_) (fun c_3 => ?_)
  · refine post_guard (fun c_4 => ?_)
    refine post_ite (fun c_5 => ?_) (fun c_5 => ?_)
    · refine post_bindv (fun q18 => ?_)
      refine post_ite (fun c_6 => ?_) (fun c_6 => ?_)
      · exact (fr_MO_thingLine_L72 (fun k j hk => hW k j (Or.elim hk (fun h => (Or.inl ⟨(h).1, (Or.elim (h).2 (fun h => (Or.inl h)) (fun h => (Or.elim h (fun h => (Or.inr (Or.inl h))) (fun h => (Or.elim h (fun h => (Or.inr (Or.inr (Or.inl h)))) (fun h => (Or.inr (Or.inr (Or.inr (Or.inl h))))))))))⟩)) (fun h => (Or.elim h (fun h => (Or.inr (Or.inl h))) (fun h => (Or.inr (Or.inr (Or.inr (Or.inr h)))))))))  h_q11)
      · exact (fr_MO_thingLine_L67 (fun k j hk => hW k j (Or.elim hk (fun h => (Or.inl ⟨(h).1, (Or.elim (h).2 (fun h => (Or.inl h)) (fun h => (Or.elim h (fun h => (Or.inr (Or.inl h))) (fun h => (Or.elim h (fun h => (Or.inr (Or.inr (Or.inl h)))) (fun h => (Or.elim h (fun h => (Or.inr (Or.inr (Or.inr (Or.inl h))))) (fun h => (Or.elim h (fun h => (Or.inr (Or.inr (Or.inr (Or.inr (Or.inl h)))))) (fun h => (Or.inr (Or.inr (Or.inr (Or.inr (Or.inr h)))))))))))))))⟩)) (fun h => (Or.elim h (fun h => (Or.inr (Or.inl h))) (fun h => (Or.inr (Or.inr (Or.inr (Or.inr h)))))))))  h_q11)
    · exact (fr_MO_thingLine_L67 (fun k j hk => hW k j (Or.elim hk (fun h => (Or.inl ⟨(h).1, (Or.elim (h).2 (fun h => (Or.inl h)) (fun h => (Or.elim h (fun h => (Or.inr (Or.inl h))) (fun h => (Or.elim h (fun h => (Or.inr (Or.inr (Or.inl h)))) (fun h => (Or.elim h (fun h => (Or.inr (Or.inr (Or.inr (Or.inl h))))) (fun h => (Or.elim h (fun h => (Or.inr (Or.inr (Or.inr (Or.inr (Or.inl h)))))) (fun h => (Or.inr (Or.inr (Or.inr (Or.inr (Or.inr h)))))))))))))))⟩)) (fun h => (Or.elim h (fun h => (Or.inr (Or.inl h))) (fun h => (Or.inr (Or.inr (Or.inr (Or.inr h)))))))))  h_q11)
  · exact (fr_MO_thingLine_L72 (fun k j hk => hW k j (Or.elim hk (fun h => (Or.inl ⟨(h).1, (Or.elim (h).2 (fun h => (Or.inl h)) (fun h => (Or.elim h (fun h => (Or.inr (Or.inl h))) (fun h => (Or.elim h (fun h => (Or.inr (Or.inr (Or.inl h)))) (fun h => (Or.inr (Or.inr (Or.inr (Or.inl h))))))))))⟩)) (fun h => (Or.elim h (fun h => (Or.inr (Or.inl h))) (fun h => (Or.inr (Or.inr (Or.inr (Or.inr h)))))))))  h_q11)
def W_MO_knot : Nat → Int → Prop := fun k j => (k = 191 ∧ (j = 24 ∨ j = 25 ∨ j = 29))
theorem fr_MO_knot  {W : Nat → Int → Prop} {M0 : Mem} (hW : ∀ k j, (W_MO_knot) k j → W k j)  {M : Mem} (h : Fr W M0 M) : Fr W M0 (t_MO_knot M) := by
  show Pl (fun r => Fr W M0 r) (t_MO_knot M)
  unfold t_MO_knot
  refine pl_ite (fun c_1 => ?_) (fun c_1 => ?_)
  · refine pl_ite (fun c_2 => ?_) (fun c_2 => ?_)
    · refine pl_let (fun q7 e_q7 => ?_)
      have h_q7 : Fr W M0 q7 := by rw [e_q7]; exact (fr_MO_wrong (fun k j hk => hW k j ⟨(hk).1, (Or.elim (hk).2 (fun h => (Or.inl h)) (fun h => (Or.inr (Or.inl h))))⟩)  h)
      exact h_q7
    · refine pl_let (fun M6 e_M6 => ?_)
      have h_M6 : Fr W M0 M6 := by rw [e_M6]; exact Fr.setI h (hW _ _ ⟨rfl, (Or.inr (Or.inr rfl))⟩)
      exact h_M6
  · exact h
def W_MO_puts : Nat → Int → Prop := fun k j => k = 193 ∨ k = 205 ∨ k = 206
theorem fr_MO_puts {x1 : Int} {x2 : Int} {W : Nat → Int → Prop} {M0 : Mem} (hW : ∀ k j, (W_MO_puts) k j → W k j)  {M : Mem} (h : Fr W M0 M) : Post (fun r => Fr W M0 r) (t_MO_puts M x1 x2) := by
  unfold t_MO_puts
  refine post_ite (fun c_1 => ?_) (fun c_1 => ?_)
  · refine post_bindv (fun q3 => ?_)
    refine post_guard (fun c_2 => ?_)
    refine post_let (fun M6 e_M6 => ?_)
    have h_M6 : Fr W M0 M6 := by rw [e_M6]; exact Fr.setI h (hW _ _ (Or.inr (Or.inl rfl)))
    refine post_bindv (fun q7 => ?_)
    refine post_guard (fun c_3 => ?_)
    refine post_let (fun M10 e_M10 => ?_)
    have h_M10 : Fr W M0 M10 := by rw [e_M10]; exact Fr.setI h_M6 (hW _ _ (Or.inr (Or.inr rfl)))
    refine post_bindv (fun q11 => ?_)
    refine post_bind (Q := fun r => Fr W M0 r) (fr_MO_reads (fun k j hk => hW k j (Or.inl hk))  h_M10) (fun q13 h_q13 => ?_)
    exact post_some h_q13
  · exact post_some h
def W_MO_primary_L78 : Nat → Int → Prop := fun k j => (k = 191 ∧ (j = 20 ∨ j = 21 ∨ j = 22 ∨ j = 23 ∨ j = 28))
theorem fr_MO_primary_L78 {rc : Nat → Mem → Option Mem} {W : Nat → Int → Prop} {M0 : Mem} (hW : ∀ k j, (W_MO_primary_L78) k j → W k j) (hrc : ∀ (i_ : Nat) (M_ : Mem), Fr W M0 M_ → Post (fun r => Fr W M0 r) (rc i_ M_)) {M : Mem} (h : Fr W M0 M) : Post (fun r => Fr W M0 r) (t_MO_primary_L78 rc M) := by
  unfold t_MO_primary_L78
  refine post_ite (fun c_1 => ?_) (fun c_1 => ?_)
  · refine post_let (fun M43 e_M43 => ?_)
    have h_M43 : Fr W M0 M43 := by rw [e_M43]; exact Fr.setI h (hW _ _ ⟨rfl, (Or.inr (Or.inr (Or.inr (Or.inr rfl))))⟩)
    refine post_bind (Q := fun r => Fr W M0 r) (fr_MO_token (fun k j hk => hW k j ⟨(hk).1, (Or.elim (hk).2 (fun h => (Or.inl h)) (fun h => (Or.elim h (fun h => (Or.inr (Or.inl h))) (fun h => (Or.elim h (fun h => (Or.inr (Or.inr (Or.inl h)))) (fun h => (Or.inr (Or.inr (Or.inr (Or.inl h))))))))))⟩)  h_M43) (fun q44 h_q44 => ?_)
    exact post_some h_q44
  · exact post_some h
def W_MO_primary_L31 : Nat → Int → Prop := fun k j => (k = 191 ∧ (j = 20 ∨ j = 21 ∨ j = 22 ∨ j = 23 ∨ j = 24 ∨ j = 25 ∨ j = 28 ∨ j = 29)) ∨ k = 193 ∨ k = 205 ∨ k = 206
theorem fr_MO_primary_L31 {rc : Nat → Mem → Option Mem} {W : Nat → Int → Prop} {M0 : Mem} (hW : ∀ k j, (W_MO_primary_L31) k j → W k j) (hrc : ∀ (i_ : Nat) (M_ : Mem), Fr W M0 M_ → Post (fun r => Fr W M0 r) (rc i_ M_)) {M : Mem} (h : Fr W M0 M) : Post (fun r => Fr W M0 r) (t_MO_primary_L31 rc M) := by
  unfold t_MO_primary_L31
  refine post_ite (fun c_1 => ?_) (fun c_1 => ?_)
  · refine post_let (fun M20 e_M20 => ?_)
    have h_M20 : Fr W M0 M20 := by rw [e_M20]; exact Fr.setI h (hW _ _ (Or.inl ⟨rfl, (Or.inr (Or.inr (Or.inr (Or.inr (Or.inr (Or.inr (Or.inl rfl)))))))⟩))
    refine post_bind (Q := fun r => Fr W M0 r) (fr_MO_token (fun k j hk => hW k j (Or.inl ⟨(hk).1, (Or.elim (hk).2 (fun h => (Or.inl h)) (fun h => (Or.elim h (fun h => (Or.inr (Or.inl h))) (fun h => (Or.elim h (fun h => (Or.inr (Or.inr (Or.inl h)))) (fun h => (Or.inr (Or.inr (Or.inr (Or.inl h))))))))))⟩))  h_M20) (fun q21 h_q21 => ?_)
    refine post_bind (Q := fun r => Fr W M0 r) (hrc _ _ h_q21) (fun q23 h_q23 => ?_)
    refine post_ite (fun c_2 => ?_) (fun c_2 => ?_)
    · refine post_let (fun q27 _ => ?_)
      refine post_ite (fun c_3 => ?_) (fun c_3 => ?_)
      · refine post_let (fun q30 e_q30 => ?_)
        have h_q30 : Fr W M0 q30 := by rw [e_q30]; exact (fr_MO_wrong (fun k j hk => hW k j (Or.inl ⟨(hk).1, (Or.elim (hk).2 (fun h => (Or.inr (Or.inr (Or.inr (Or.inr (Or.inl h)))))) (fun h => (Or.inr (Or.inr (Or.inr (Or.inr (Or.inr (Or.inl h))))))))⟩))  h_q23)
        exact (fr_MO_primary_L78 (fun k j hk => hW k j (Or.inl ⟨(hk).1, (Or.elim (hk).2 (fun h => (Or.inl h)) (fun h => (Or.elim h (fun h => (Or.inr (Or.inl h))) (fun h => (Or.elim h (fun h => (Or.inr (Or.inr (Or.inl h)))) (fun h => (Or.elim h (fun h => (Or.inr (Or.inr (Or.inr (Or.inl h))))) (fun h => (Or.inr (Or.inr (Or.inr (Or.inr (Or.inr (Or.inr (Or.inl h)))))))))))))))⟩)) hrc h_q30)
      · exact (fr_MO_primary_L78 (fun k j hk => hW k j (Or.inl ⟨(hk).1, (Or.elim (hk).2 (fun h => (Or.inl h)) (fun h => (Or.elim h (fun h => (Or.inr (Or.inl h))) (fun h => (Or.elim h (fun h => (Or.inr (Or.inr (Or.inl h)))) (fun h => (Or.elim h (fun h => (Or.inr (Or.inr (Or.inr (Or.inl h))))) (fun h => (Or.inr (Or.inr (Or.inr (Or.inr (Or.inr (Or.inr (Or.inl h)))))))))))))))⟩)) hrc h_q23)
    · exact (fr_MO_primary_L78 (fun k j hk => hW k j (Or.inl ⟨(hk).1, (Or.elim (hk).2 (fun h => (Or.inl h)) (fun h => (Or.elim h (fun h => (Or.inr (Or.inl h))) (fun h => (Or.elim h (fun h => (Or.inr (Or.inr (Or.inl h)))) (fun h => (Or.elim h (fun h => (Or.inr (Or.inr (Or.inr (Or.inl h))))) (fun h => (Or.inr (Or.inr (Or.inr (Or.inr (Or.inr (Or.inr (Or.inl h)))))))))))))))⟩)) hrc h_q23)
  · exact post_some h
def W_MO_primary_L194 : Nat → Int → Prop := fun k j => (k = 191 ∧ (j = 20 ∨ j = 21 ∨ j = 22 ∨ j = 23)) ∨ k = 193 ∨ k = 205 ∨ k = 206
theorem fr_MO_primary_L194 {rc : Nat → Mem → Option Mem} {v2_ : Int} {v3_ : Int} {W : Nat → Int → Prop} {M0 : Mem} (hW : ∀ k j, (W_MO_primary_L194) k j → W k j) (hrc : ∀ (i_ : Nat) (M_ : Mem), Fr W M0 M_ → Post (fun r => Fr W M0 r) (rc i_ M_)) {M : Mem} (h : Fr W M0 M) : Post (fun r => Fr W M0 r) (t_MO_primary_L194 rc M v2_ v3_) := by
  unfold t_MO_primary_L194
  refine post_bind (Q := fun r => Fr W M0 r) (fr_MO_puts (fun k j hk => hW k j (Or.elim hk (fun h => (Or.inr (Or.inl h))) (fun h => (Or.elim h (fun h => (Or.inr (Or.inr (Or.inl h)))) (fun h => (Or.inr (Or.inr (Or.inr h))))))))  h) (fun q51 h_q51 => ?_)
  refine post_bind (Q := fun r => Fr W M0 r) (fr_MO_goOn (fun k j hk => hW k j (Or.inl ⟨(hk).1, (Or.elim (hk).2 (fun h => (Or.inl h)) (fun h => (Or.elim h (fun h => (Or.inr (Or.inl h))) (fun h => (Or.elim h (fun h => (Or.inr (Or.inr (Or.inl h)))) (fun h => (Or.inr (Or.inr (Or.inr h)))))))))⟩))  h_q51) (fun q53 h_q53 => ?_)
  exact post_some h_q53
def W_MO_primary_L176 : Nat → Int → Prop := fun k j => (k = 191 ∧ (j = 20 ∨ j = 21 ∨ j = 22 ∨ j = 23)) ∨ k = 193 ∨ k = 205 ∨ k = 206
theorem fr_MO_primary_L176 {rc : Nat → Mem → Option Mem} {v1_ : Int} {v3_ : Int} {W : Nat → Int → Prop} {M0 : Mem} (hW : ∀ k j, (W_MO_primary_L176) k j → W k j) (hrc : ∀ (i_ : Nat) (M_ : Mem), Fr W M0 M_ → Post (fun r => Fr W M0 r) (rc i_ M_)) {M : Mem} (h : Fr W M0 M) : Post (fun r => Fr W M0 r) (t_MO_primary_L176 rc M v1_ v3_) := by
  unfold t_MO_primary_L176
  refine post_ite (fun c_1 => ?_) (fun c_1 => ?_)
  · exact (fr_MO_primary_L194 (fun k j hk => hW k j (Or.elim hk (fun h => (Or.inl ⟨(h).1, (Or.elim (h).2 (fun h => (Or.inl h)) (fun h => (Or.elim h (fun h => (Or.inr (Or.inl h))) (fun h => (Or.elim h (fun h => (Or.inr (Or.inr (Or.inl h)))) (fun h => (Or.inr (Or.inr (Or.inr h)))))))))⟩)) (fun h => (Or.elim h (fun h => (Or.inr (Or.inl h))) (fun h => (Or.elim h (fun h => (Or.inr (Or.inr (Or.inl h)))) (fun h => (Or.inr (Or.inr (Or.inr h)))))))))) hrc h)
  · exact (fr_MO_primary_L194 (fun k j hk => hW k j (Or.elim hk (fun h => (Or.inl ⟨(h).1, (Or.elim (h).2 (fun h => (Or.inl h)) (fun h => (Or.elim h (fun h => (Or.inr (Or.inl h))) (fun h => (Or.elim h (fun h => (Or.inr (Or.inr (Or.inl h)))) (fun h => (Or.inr (Or.inr (Or.inr h)))))))))⟩)) (fun h => (Or.elim h (fun h => (Or.inr (Or.inl h))) (fun h => (Or.elim h (fun h => (Or.inr (Or.inr (Or.inl h)))) (fun h => (Or.inr (Or.inr (Or.inr h)))))))))) hrc h)
def W_MO_primary_L162 : Nat → Int → Prop := fun k j => (k = 191 ∧ (j = 20 ∨ j = 21 ∨ j = 22 ∨ j = 23 ∨ j = 24 ∨ j = 25 ∨ j = 29)) ∨ k = 193 ∨ k = 205 ∨ k = 206
theorem fr_MO_primary_L162 {rc : Nat → Mem → Option Mem} {v1_ : Int} {W : Nat → Int → Prop} {M0 : Mem} (hW : ∀ k j, (W_MO_primary_L162) k j → W k j) (hrc : ∀ (i_ : Nat) (M_ : Mem), Fr W M0 M_ → Post (fun r => Fr W M0 r) (rc i_ M_)) {M : Mem} (h : Fr W M0 M) : Post (fun r => Fr W M0 r) (t_MO_primary_L162 rc M v1_) := by
  unfold t_MO_primary_L162
  refine post_let (fun q37 e_q37 => ?_)
  have h_q37 : Fr W M0 q37 := by rw [e_q37]; exact (fr_MO_knot (fun k j hk => hW k j (Or.inl ⟨(hk).1, (Or.elim (hk).2 (fun h => (Or.inr (Or.inr (Or.inr (Or.inr (Or.inl h)))))) (fun h => (Or.elim h (fun h => (Or.inr (Or.inr (Or.inr (Or.inr (Or.inr (Or.inl h))))))) (fun h => (Or.inr (Or.inr (Or.inr (Or.inr (Or.inr (Or.inr h))))))))))⟩))  h)
  refine post_ite (fun c_1 => ?_) (fun c_1 => ?_)
  · exact (fr_MO_primary_L176 (fun k j hk => hW k j (Or.elim hk (fun h => (Or.inl ⟨(h).1, (Or.elim (h).2 (fun h => (Or.inl h)) (fun h => (Or.elim h (fun h => (Or.inr (Or.inl h))) (fun h => (Or.elim h (fun h => (Or.inr (Or.inr (Or.inl h)))) (fun h => (Or.inr (Or.inr (Or.inr (Or.inl h))))))))))⟩)) (fun h => (Or.elim h (fun h => (Or.inr (Or.inl h))) (fun h => (Or.elim h (fun h => (Or.inr (Or.inr (Or.inl h)))) (fun h => (Or.inr (Or.inr (Or.inr h)))))))))) hrc h_q37)
  · exact (fr_MO_primary_L176 (fun k j hk => hW k j (Or.elim hk (fun h => (Or.inl ⟨(h).1, (Or.elim (h).2 (fun h => (Or.inl h)) (fun h => (Or.elim h (fun h => (Or.inr (Or.inl h))) (fun h => (Or.elim h (fun h => (Or.inr (Or.inr (Or.inl h)))) (fun h => (Or.inr (Or.inr (Or.inr (Or.inl h))))))))))⟩)) (fun h => (Or.elim h (fun h => (Or.inr (Or.inl h))) (fun h => (Or.elim h (fun h => (Or.inr (Or.inr (Or.inl h)))) (fun h => (Or.inr (Or.inr (Or.inr h)))))))))) hrc h_q37)
def W_MO_primary_L157 : Nat → Int → Prop := fun k j => (k = 191 ∧ (j = 20 ∨ j = 21 ∨ j = 22 ∨ j = 23 ∨ j = 24 ∨ j = 25 ∨ j = 29)) ∨ k = 193 ∨ k = 205 ∨ k = 206
theorem fr_MO_primary_L157 {rc : Nat → Mem → Option Mem} {v1_ : Int} {W : Nat → Int → Prop} {M0 : Mem} (hW : ∀ k j, (W_MO_primary_L157) k j → W k j) (hrc : ∀ (i_ : Nat) (M_ : Mem), Fr W M0 M_ → Post (fun r => Fr W M0 r) (rc i_ M_)) {M : Mem} (h : Fr W M0 M) : Post (fun r => Fr W M0 r) (t_MO_primary_L157 rc M v1_) := by
  unfold t_MO_primary_L157
  refine post_let (fun q46 e_q46 => ?_)
  have h_q46 : Fr W M0 q46 := by rw [e_q46]; exact (fr_MO_wrong (fun k j hk => hW k j (Or.inl ⟨(hk).1, (Or.elim (hk).2 (fun h => (Or.inr (Or.inr (Or.inr (Or.inr (Or.inl h)))))) (fun h => (Or.inr (Or.inr (Or.inr (Or.inr (Or.inr (Or.inl h))))))))⟩))  h)
  exact (fr_MO_primary_L162 (fun k j hk => hW k j (Or.elim hk (fun h => (Or.inl ⟨(h).1, (Or.elim (h).2 (fun h => (Or.inl h)) (fun h => (Or.elim h (fun h => (Or.inr (Or.inl h))) (fun h => (Or.elim h (fun h => (Or.inr (Or.inr (Or.inl h)))) (fun h => (Or.elim h (fun h => (Or.inr (Or.inr (Or.inr (Or.inl h))))) (fun h => (Or.elim h (fun h => (Or.inr (Or.inr (Or.inr (Or.inr (Or.inl h)))))) (fun h => (Or.elim h (fun h => (Or.inr (Or.inr (Or.inr (Or.inr (Or.inr (Or.inl h))))))) (fun h => (Or.inr (Or.inr (Or.inr (Or.inr (Or.inr (Or.inr h))))))))))))))))))⟩)) (fun h => (Or.elim h (fun h => (Or.inr (Or.inl h))) (fun h => (Or.elim h (fun h => (Or.inr (Or.inr (Or.inl h)))) (fun h => (Or.inr (Or.inr (Or.inr h)))))))))) hrc h_q46)
def W_MO_primary_L137 : Nat → Int → Prop := fun k j => (k = 191 ∧ (j = 20 ∨ j = 21 ∨ j = 22 ∨ j = 23 ∨ j = 24 ∨ j = 25 ∨ j = 29)) ∨ k = 193 ∨ k = 205 ∨ k = 206
theorem fr_MO_primary_L137 {rc : Nat → Mem → Option Mem} {v1_ : Int} {W : Nat → Int → Prop} {M0 : Mem} (hW : ∀ k j, (W_MO_primary_L137) k j → W k j) (hrc : ∀ (i_ : Nat) (M_ : Mem), Fr W M0 M_ → Post (fun r => Fr W M0 r) (rc i_ M_)) {M : Mem} (h : Fr W M0 M) : Post (fun r => Fr W M0 r) (t_MO_primary_L137 rc M v1_) := by
  unfold t_MO_primary_L137
  refine post_ite (fun c_1 => ?_) (fun c_1 => ?_)
  · refine post_ite (fun c_2 => ?_) (fun c_2 => ?_)
    · refine post_ite (fun c_3 => ?_) (fun c_3 => ?_)
      · exact (fr_MO_primary_L162 (fun k j hk => hW k j (Or.elim hk (fun h => (Or.inl ⟨(h).1, (Or.elim (h).2 (fun h => (Or.inl h)) (fun h => (Or.elim h (fun h => (Or.inr (Or.inl h))) (fun h => (Or.elim h (fun h => (Or.inr (Or.inr (Or.inl h)))) (fun h => (Or.elim h (fun h => (Or.inr (Or.inr (Or.inr (Or.inl h))))) (fun h => (Or.elim h (fun h => (Or.inr (Or.inr (Or.inr (Or.inr (Or.inl h)))))) (fun h => (Or.elim h (fun h => (Or.inr (Or.inr (Or.inr (Or.inr (Or.inr (Or.inl h))))))) (fun h => (Or.inr (Or.inr (Or.inr (Or.inr (Or.inr (Or.inr h))))))))))))))))))⟩)) (fun h => (Or.elim h (fun h => (Or.inr (Or.inl h))) (fun h => (Or.elim h (fun h => (Or.inr (Or.inr (Or.inl h)))) (fun h => (Or.inr (Or.inr (Or.inr h)))))))))) hrc h)
      · exact (fr_MO_primary_L157 (fun k j hk => hW k j (Or.elim hk (fun h => (Or.inl ⟨(h).1, (Or.elim (h).2 (fun h => (Or.inl h)) (fun h => (Or.elim h (fun h => (Or.inr (Or.inl h))) (fun h => (Or.elim h (fun h => (Or.inr (Or.inr (Or.inl h)))) (fun h => (Or.elim h (fun h => (Or.inr (Or.inr (Or.inr (Or.inl h))))) (fun h => (Or.elim h (fun h => (Or.inr (Or.inr (Or.inr (Or.inr (Or.inl h)))))) (fun h => (Or.elim h (fun h => (Or.inr (Or.inr (Or.inr (Or.inr (Or.inr (Or.inl h))))))) (fun h => (Or.inr (Or.inr (Or.inr (Or.inr (Or.inr (Or.inr h))))))))))))))))))⟩)) (fun h => (Or.elim h (fun h => (Or.inr (Or.inl h))) (fun h => (Or.elim h (fun h => (Or.inr (Or.inr (Or.inl h)))) (fun h => (Or.inr (Or.inr (Or.inr h)))))))))) hrc h)
    · exact (fr_MO_primary_L157 (fun k j hk => hW k j (Or.elim hk (fun h => (Or.inl ⟨(h).1, (Or.elim (h).2 (fun h => (Or.inl h)) (fun h => (Or.elim h (fun h => (Or.inr (Or.inl h))) (fun h => (Or.elim h (fun h => (Or.inr (Or.inr (Or.inl h)))) (fun h => (Or.elim h (fun h => (Or.inr (Or.inr (Or.inr (Or.inl h))))) (fun h => (Or.elim h (fun h => (Or.inr (Or.inr (Or.inr (Or.inr (Or.inl h)))))) (fun h => (Or.elim h (fun h => (Or.inr (Or.inr (Or.inr (Or.inr (Or.inr (Or.inl h))))))) (fun h => (Or.inr (Or.inr (Or.inr (Or.inr (Or.inr (Or.inr h))))))))))))))))))⟩)) (fun h => (Or.elim h (fun h => (Or.inr (Or.inl h))) (fun h => (Or.elim h (fun h => (Or.inr (Or.inr (Or.inl h)))) (fun h => (Or.inr (Or.inr (Or.inr h)))))))))) hrc h)
  · exact (fr_MO_primary_L162 (fun k j hk => hW k j (Or.elim hk (fun h => (Or.inl ⟨(h).1, (Or.elim (h).2 (fun h => (Or.inl h)) (fun h => (Or.elim h (fun h => (Or.inr (Or.inl h))) (fun h => (Or.elim h (fun h => (Or.inr (Or.inr (Or.inl h)))) (fun h => (Or.elim h (fun h => (Or.inr (Or.inr (Or.inr (Or.inl h))))) (fun h => (Or.elim h (fun h => (Or.inr (Or.inr (Or.inr (Or.inr (Or.inl h)))))) (fun h => (Or.elim h (fun h => (Or.inr (Or.inr (Or.inr (Or.inr (Or.inr (Or.inl h))))))) (fun h => (Or.inr (Or.inr (Or.inr (Or.inr (Or.inr (Or.inr h))))))))))))))))))⟩)) (fun h => (Or.elim h (fun h => (Or.inr (Or.inl h))) (fun h => (Or.elim h (fun h => (Or.inr (Or.inr (Or.inl h)))) (fun h => (Or.inr (Or.inr (Or.inr h)))))))))) hrc h)
def W_MO_primary_L114 : Nat → Int → Prop := fun k j => (k = 191 ∧ (j = 20 ∨ j = 21 ∨ j = 22 ∨ j = 23 ∨ j = 24 ∨ j = 25 ∨ j = 29)) ∨ k = 193 ∨ k = 205 ∨ k = 206
theorem fr_MO_primary_L114 {rc : Nat → Mem → Option Mem} {v1_ : Int} {W : Nat → Int → Prop} {M0 : Mem} (hW : ∀ k j, (W_MO_primary_L114) k j → W k j) (hrc : ∀ (i_ : Nat) (M_ : Mem), Fr W M0 M_ → Post (fun r => Fr W M0 r) (rc i_ M_)) {M : Mem} (h : Fr W M0 M) : Post (fun r => Fr W M0 r) (t_MO_primary_L114 rc M v1_) := by
  unfold t_MO_primary_L114
  refine post_ite (fun c_1 => ?_) (fun c_1 => ?_)
  · exact (fr_MO_primary_L137 (fun k j hk => hW k j (Or.elim hk (fun h => (Or.inl ⟨(h).1, (Or.elim (h).2 (fun h => (Or.inl h)) (fun h => (Or.elim h (fun h => (Or.inr (Or.inl h))) (fun h => (Or.elim h (fun h => (Or.inr (Or.inr (Or.inl h)))) (fun h => (Or.elim h (fun h => (Or.inr (Or.inr (Or.inr (Or.inl h))))) (fun h => (Or.elim h (fun h => (Or.inr (Or.inr (Or.inr (Or.inr (Or.inl h)))))) (fun h => (Or.elim h (fun h => (Or.inr (Or.inr (Or.inr (Or.inr (Or.inr (Or.inl h))))))) (fun h => (Or.inr (Or.inr (Or.inr (Or.inr (Or.inr (Or.inr h))))))))))))))))))⟩)) (fun h => (Or.elim h (fun h => (Or.inr (Or.inl h))) (fun h => (Or.elim h (fun h => (Or.inr (Or.inr (Or.inl h)))) (fun h => (Or.inr (Or.inr (Or.inr h)))))))))) hrc h)
  · refine post_ite (fun c_2 => ?_) (fun c_2 => ?_)
    · exact (fr_MO_primary_L137 (fun k j hk => hW k j (Or.elim hk (fun h => (Or.inl ⟨(h).1, (Or.elim (h).2 (fun h => (Or.inl h)) (fun h => (Or.elim h (fun h => (Or.inr (Or.inl h))) (fun h => (Or.elim h (fun h => (Or.inr (Or.inr (Or.inl h)))) (fun h => (Or.elim h (fun h => (Or.inr (Or.inr (Or.inr (Or.inl h))))) (fun h => (Or.elim h (fun h => (Or.inr (Or.inr (Or.inr (Or.inr (Or.inl h)))))) (fun h => (Or.elim h (fun h => (Or.inr (Or.inr (Or.inr (Or.inr (Or.inr (Or.inl h))))))) (fun h => (Or.inr (Or.inr (Or.inr (Or.inr (Or.inr (Or.inr h))))))))))))))))))⟩)) (fun h => (Or.elim h (fun h => (Or.inr (Or.inl h))) (fun h => (Or.elim h (fun h => (Or.inr (Or.inr (Or.inl h)))) (fun h => (Or.inr (Or.inr (Or.inr h)))))))))) hrc h)
    · refine post_let (fun q15 e_q15 => ?_)
      have h_q15 : Fr W M0 q15 := by rw [e_q15]; exact (fr_MO_wrong (fun k j hk => hW k j (Or.inl ⟨(hk).1, (Or.elim (hk).2 (fun h => (Or.inr (Or.inr (Or.inr (Or.inr (Or.inl h)))))) (fun h => (Or.inr (Or.inr (Or.inr (Or.inr (Or.inr (Or.inl h))))))))⟩))  h)
      exact (fr_MO_primary_L162 (fun k j hk => hW k j (Or.elim hk (fun h => (Or.inl ⟨(h).1, (Or.elim (h).2 (fun h => (Or.inl h)) (fun h => (Or.elim h (fun h => (Or.inr (Or.inl h))) (fun h => (Or.elim h (fun h => (Or.inr (Or.inr (Or.inl h)))) (fun h => (Or.elim h (fun h => (Or.inr (Or.inr (Or.inr (Or.inl h))))) (fun h => (Or.elim h (fun h => (Or.inr (Or.inr (Or.inr (Or.inr (Or.inl h)))))) (fun h => (Or.elim h (fun h => (Or.inr (Or.inr (Or.inr (Or.inr (Or.inr (Or.inl h))))))) (fun h => (Or.inr (Or.inr (Or.inr (Or.inr (Or.inr (Or.inr h))))))))))))))))))⟩)) (fun h => (Or.elim h (fun h => (Or.inr (Or.inl h))) (fun h => (Or.elim h (fun h => (Or.inr (Or.inr (Or.inl h)))) (fun h => (Or.inr (Or.inr (Or.inr h)))))))))) hrc h_q15)
def W_MO_primary_B : Nat → Int → Prop := fun k j => (k = 191 ∧ (j = 20 ∨ j = 21 ∨ j = 22 ∨ j = 23 ∨ j = 24 ∨ j = 25 ∨ j = 28 ∨ j = 29)) ∨ k = 193 ∨ k = 205 ∨ k = 206
theorem fr_MO_primary_B {rc : Nat → Mem → Option Mem} {W : Nat → Int → Prop} {M0 : Mem} (hW : ∀ k j, (W_MO_primary_B) k j → W k j) (hrc : ∀ (i_ : Nat) (M_ : Mem), Fr W M0 M_ → Post (fun r => Fr W M0 r) (rc i_ M_)) {M : Mem} (h : Fr W M0 M) : Post (fun r => Fr W M0 r) (t_MO_primary_B M rc) := by
  unfold t_MO_primary_B
  refine post_ite (fun c_1 => ?_) (fun c_1 => ?_)
  · refine post_let (fun q3 _ => ?_)
    refine post_ite (fun c_2 => ?_) (fun c_2 => ?_)
    · refine post_ite (fun c_3 => ?_) (fun c_3 => ?_)
      · exact (fr_MO_primary_L114 (fun k j hk => hW k j (Or.elim hk (fun h => (Or.inl ⟨(h).1, (Or.elim (h).2 (fun h => (Or.inl h)) (fun h => (Or.elim h (fun h => (Or.inr (Or.inl h))) (fun h => (Or.elim h (fun h => (Or.inr (Or.inr (Or.inl h)))) (fun h => (Or.elim h (fun h => (Or.inr (Or.inr (Or.inr (Or.inl h))))) (fun h => (Or.elim h (fun h => (Or.inr (Or.inr (Or.inr (Or.inr (Or.inl h)))))) (fun h => (Or.elim h (fun h => (Or.inr (Or.inr (Or.inr (Or.inr (Or.inr (Or.inl h))))))) (fun h => (Or.inr (Or.inr (Or.inr (Or.inr (Or.inr (Or.inr (Or.inr h)))))))))))))))))))⟩)) (fun h => (Or.elim h (fun h => (Or.inr (Or.inl h))) (fun h => (Or.elim h (fun h => (Or.inr (Or.inr (Or.inl h)))) (fun h => (Or.inr (Or.inr (Or.inr h)))))))))) hrc h)
      · exact (fr_MO_primary_L114 (fun k j hk => hW k j (Or.elim hk (fun h => (Or.inl ⟨(h).1, (Or.elim (h).2 (fun h => (Or.inl h)) (fun h => (Or.elim h (fun h => (Or.inr (Or.inl h))) (fun h => (Or.elim h (fun h => (Or.inr (Or.inr (Or.inl h)))) (fun h => (Or.elim h (fun h => (Or.inr (Or.inr (Or.inr (Or.inl h))))) (fun h => (Or.elim h (fun h => (Or.inr (Or.inr (Or.inr (Or.inr (Or.inl h)))))) (fun h => (Or.elim h (fun h => (Or.inr (Or.inr (Or.inr (Or.inr (Or.inr (Or.inl h))))))) (fun h => (Or.inr (Or.inr (Or.inr (Or.inr (Or.inr (Or.inr (Or.inr h)))))))))))))))))))⟩)) (fun h => (Or.elim h (fun h => (Or.inr (Or.inl h))) (fun h => (Or.elim h (fun h => (Or.inr (Or.inr (Or.inl h)))) (fun h => (Or.inr (Or.inr (Or.inr h)))))))))) hrc h)
    · refine post_ite (fun c_4 => ?_) (fun c_4 => ?_)
      · refine post_let (fun q10 e_q10 => ?_)
        have h_q10 : Fr W M0 q10 := by rw [e_q10]; exact (fr_MO_wrong (fun k j hk => hW k j (Or.inl ⟨(hk).1, (Or.elim (hk).2 (fun h => (Or.inr (Or.inr (Or.inr (Or.inr (Or.inl h)))))) (fun h => (Or.inr (Or.inr (Or.inr (Or.inr (Or.inr (Or.inl h))))))))⟩))  h)
        exact (fr_MO_primary_L31 (fun k j hk => hW k j (Or.elim hk (fun h => (Or.inl ⟨(h).1, (Or.elim (h).2 (fun h => (Or.inl h)) (fun h => (Or.elim h (fun h => (Or.inr (Or.inl h))) (fun h => (Or.elim h (fun h => (Or.inr (Or.inr (Or.inl h)))) (fun h => (Or.elim h (fun h => (Or.inr (Or.inr (Or.inr (Or.inl h))))) (fun h => (Or.elim h (fun h => (Or.inr (Or.inr (Or.inr (Or.inr (Or.inl h)))))) (fun h => (Or.elim h (fun h => (Or.inr (Or.inr (Or.inr (Or.inr (Or.inr (Or.inl h))))))) (fun h => (Or.elim h (fun h => (Or.inr (Or.inr (Or.inr (Or.inr (Or.inr (Or.inr (Or.inl h)))))))) (fun h => (Or.inr (Or.inr (Or.inr (Or.inr (Or.inr (Or.inr (Or.inr h)))))))))))))))))))))⟩)) (fun h => (Or.elim h (fun h => (Or.inr (Or.inl h))) (fun h => (Or.elim h (fun h => (Or.inr (Or.inr (Or.inl h)))) (fun h => (Or.inr (Or.inr (Or.inr h)))))))))) hrc h_q10)
      · exact (fr_MO_primary_L31 (fun k j hk => hW k j (Or.elim hk (fun h => (Or.inl ⟨(h).1, (Or.elim (h).2 (fun h => (Or.inl h)) (fun h => (Or.elim h (fun h => (Or.inr (Or.inl h))) (fun h => (Or.elim h (fun h => (Or.inr (Or.inr (Or.inl h)))) (fun h => (Or.elim h (fun h => (Or.inr (Or.inr (Or.inr (Or.inl h))))) (fun h => (Or.elim h (fun h => (Or.inr (Or.inr (Or.inr (Or.inr (Or.inl h)))))) (fun h => (Or.elim h (fun h => (Or.inr (Or.inr (Or.inr (Or.inr (Or.inr (Or.inl h))))))) (fun h => (Or.elim h (fun h => (Or.inr (Or.inr (Or.inr (Or.inr (Or.inr (Or.inr (Or.inl h)))))))) (fun h => (Or.inr (Or.inr (Or.inr (Or.inr (Or.inr (Or.inr (Or.inr h)))))))))))))))))))))⟩)) (fun h => (Or.elim h (fun h => (Or.inr (Or.inl h))) (fun h => (Or.elim h (fun h => (Or.inr (Or.inr (Or.inl h)))) (fun h => (Or.inr (Or.inr (Or.inr h)))))))))) hrc h)
  · exact post_some h
def W_MO_product_L22 : Nat → Int → Prop := fun k j => (k = 191 ∧ (j = 20 ∨ j = 21 ∨ j = 22 ∨ j = 23 ∨ j = 24 ∨ j = 25 ∨ j = 28 ∨ j = 29)) ∨ k = 193 ∨ k = 205 ∨ k = 206
theorem fr_MO_product_L22 {rc : Nat → Mem → Option Mem} {bk4 : Mem → Option (Mem)} {W : Nat → Int → Prop} {M0 : Mem} (hW : ∀ k j, (W_MO_product_L22) k j → W k j) (hrc : ∀ (i_ : Nat) (M_ : Mem), Fr W M0 M_ → Post (fun r => Fr W M0 r) (rc i_ M_)) (hbk4 : ∀ (a0_ : Mem), Fr W M0 a0_ → Post (fun r => Fr W M0 r) (bk4 a0_)) {M : Mem} (h : Fr W M0 M) : Post (fun r => Fr W M0 r) (t_MO_product_L22 rc bk4 M) := by
  unfold t_MO_product_L22
  refine post_let (fun q10 e_q10 => ?_)
  have h_q10 : Fr W M0 q10 := by rw [e_q10]; exact (fr_MO_knot (fun k j hk => hW k j (Or.inl ⟨(hk).1, (Or.elim (hk).2 (fun h => (Or.inr (Or.inr (Or.inr (Or.inr (Or.inl h)))))) (fun h => (Or.elim h (fun h => (Or.inr (Or.inr (Or.inr (Or.inr (Or.inr (Or.inl h))))))) (fun h => (Or.inr (Or.inr (Or.inr (Or.inr (Or.inr (Or.inr (Or.inr h)))))))))))⟩))  h)
  refine post_bind (Q := fun r => Fr W M0 r) (fr_MO_goOn (fun k j hk => hW k j (Or.inl ⟨(hk).1, (Or.elim (hk).2 (fun h => (Or.inl h)) (fun h => (Or.elim h (fun h => (Or.inr (Or.inl h))) (fun h => (Or.elim h (fun h => (Or.inr (Or.inr (Or.inl h)))) (fun h => (Or.inr (Or.inr (Or.inr (Or.inl h))))))))))⟩))  h_q10) (fun q12 h_q12 => ?_)
  refine post_bind (Q := fun r => Fr W M0 r) (hrc _ _ h_q12) (fun q14 h_q14 => ?_)
  refine post_bind (Q := fun r => Fr W M0 r) (fr_MO_puts (fun k j hk => hW k j (Or.elim hk (fun h => (Or.inr (Or.inl h))) (fun h => (Or.elim h (fun h => (Or.inr (Or.inr (Or.inl h)))) (fun h => (Or.inr (Or.inr (Or.inr h))))))))  h_q14) (fun q16 h_q16 => ?_)
  exact hbk4 _ h_q16
def W_MO_product_L4 : Nat → Int → Prop := fun k j => (k = 191 ∧ (j = 20 ∨ j = 21 ∨ j = 22 ∨ j = 23 ∨ j = 24 ∨ j = 25 ∨ j = 28 ∨ j = 29)) ∨ k = 193 ∨ k = 205 ∨ k = 206
theorem fr_MO_product_L4 {rc : Nat → Mem → Option Mem} {W : Nat → Int → Prop} {M0 : Mem} (hW : ∀ k j, (W_MO_product_L4) k j → W k j) (hrc : ∀ (i_ : Nat) (M_ : Mem), Fr W M0 M_ → Post (fun r => Fr W M0 r) (rc i_ M_)) : ∀ (fu : Nat) (M : Mem) , Fr W M0 M → Post (fun r => Fr W M0 r) (t_MO_product_L4 rc fu M ) := by
  intro fu
  induction fu with
  | zero => intro M  h; exact post_none
  | succ fu ih =>
    intro M  h
    rw [t_MO_product_L4]
    refine post_let (fun q3 _ => ?_)
    refine post_ite (fun c_1 => ?_) (fun c_1 => ?_)
    · refine post_let (fun q6 _ => ?_)
      refine post_ite (fun c_2 => ?_) (fun c_2 => ?_)
      · exact post_some h
      · exact (fr_MO_product_L22 (fun k j hk => hW k j (Or.elim hk (fun h => (Or.inl ⟨(h).1, (Or.elim (h).2 (fun h => (Or.inl h)) (fun h => (Or.elim h (fun h => (Or.inr (Or.inl h))) (fun h => (Or.elim h (fun h => (Or.inr (Or.inr (Or.inl h)))) (fun h => (Or.elim h (fun h => (Or.inr (Or.inr (Or.inr (Or.inl h))))) (fun h => (Or.elim h (fun h => (Or.inr (Or.inr (Or.inr (Or.inr (Or.inl h)))))) (fun h => (Or.elim h (fun h => (Or.inr (Or.inr (Or.inr (Or.inr (Or.inr (Or.inl h))))))) (fun h => (Or.elim h (fun h => (Or.inr (Or.inr (Or.inr (Or.inr (Or.inr (Or.inr (Or.inl h)))))))) (fun h => (Or.inr (Or.inr (Or.inr (Or.inr (Or.inr (Or.inr (Or.inr h)))))))))))))))))))))⟩)) (fun h => (Or.elim h (fun h => (Or.inr (Or.inl h))) (fun h => (Or.elim h (fun h => (Or.inr (Or.inr (Or.inl h)))) (fun h => (Or.inr (Or.inr (Or.inr h)))))))))) hrc (fun a0_ h9 => ih a0_ h9) h)
    · exact (fr_MO_product_L22 (fun k j hk => hW k j (Or.elim hk (fun h => (Or.inl ⟨(h).1, (Or.elim (h).2 (fun h => (Or.inl h)) (fun h => (Or.elim h (fun h => (Or.inr (Or.inl h))) (fun h => (Or.elim h (fun h => (Or.inr (Or.inr (Or.inl h)))) (fun h => (Or.elim h (fun h => (Or.inr (Or.inr (Or.inr (Or.inl h))))) (fun h => (Or.elim h (fun h => (Or.inr (Or.inr (Or.inr (Or.inr (Or.inl h)))))) (fun h => (Or.elim h (fun h => (Or.inr (Or.inr (Or.inr (Or.inr (Or.inr (Or.inl h))))))) (fun h => (Or.elim h (fun h => (Or.inr (Or.inr (Or.inr (Or.inr (Or.inr (Or.inr (Or.inl h)))))))) (fun h => (Or.inr (Or.inr (Or.inr (Or.inr (Or.inr (Or.inr (Or.inr h)))))))))))))))))))))⟩)) (fun h => (Or.elim h (fun h => (Or.inr (Or.inl h))) (fun h => (Or.elim h (fun h => (Or.inr (Or.inr (Or.inl h)))) (fun h => (Or.inr (Or.inr (Or.inr h)))))))))) hrc (fun a0_ h9 => ih a0_ h9) h)
def W_MO_product_B : Nat → Int → Prop := fun k j => (k = 191 ∧ (j = 20 ∨ j = 21 ∨ j = 22 ∨ j = 23 ∨ j = 24 ∨ j = 25 ∨ j = 28 ∨ j = 29)) ∨ k = 193 ∨ k = 205 ∨ k = 206
theorem fr_MO_product_B {rc : Nat → Mem → Option Mem} {W : Nat → Int → Prop} {M0 : Mem} (hW : ∀ k j, (W_MO_product_B) k j → W k j) (hrc : ∀ (i_ : Nat) (M_ : Mem), Fr W M0 M_ → Post (fun r => Fr W M0 r) (rc i_ M_)) {M : Mem} (h : Fr W M0 M) : Post (fun r => Fr W M0 r) (t_MO_product_B M rc) := by
  unfold t_MO_product_B
  refine post_bind (Q := fun r => Fr W M0 r) (hrc _ _ h) (fun q1 h_q1 => ?_)
  exact (fr_MO_product_L4 (fun k j hk => hW k j (Or.elim hk (fun h => (Or.inl ⟨(h).1, (Or.elim (h).2 (fun h => (Or.inl h)) (fun h => (Or.elim h (fun h => (Or.inr (Or.inl h))) (fun h => (Or.elim h (fun h => (Or.inr (Or.inr (Or.inl h)))) (fun h => (Or.elim h (fun h => (Or.inr (Or.inr (Or.inr (Or.inl h))))) (fun h => (Or.elim h (fun h => (Or.inr (Or.inr (Or.inr (Or.inr (Or.inl h)))))) (fun h => (Or.elim h (fun h => (Or.inr (Or.inr (Or.inr (Or.inr (Or.inr (Or.inl h))))))) (fun h => (Or.elim h (fun h => (Or.inr (Or.inr (Or.inr (Or.inr (Or.inr (Or.inr (Or.inl h)))))))) (fun h => (Or.inr (Or.inr (Or.inr (Or.inr (Or.inr (Or.inr (Or.inr h)))))))))))))))))))))⟩)) (fun h => (Or.elim h (fun h => (Or.inr (Or.inl h))) (fun h => (Or.elim h (fun h => (Or.inr (Or.inr (Or.inl h)))) (fun h => (Or.inr (Or.inr (Or.inr h)))))))))) hrc _ _ h_q1)
def W_MO_sum_L22 : Nat → Int → Prop := fun k j => (k = 191 ∧ (j = 20 ∨ j = 21 ∨ j = 22 ∨ j = 23 ∨ j = 24 ∨ j = 25 ∨ j = 28 ∨ j = 29)) ∨ k = 193 ∨ k = 205 ∨ k = 206
theorem fr_MO_sum_L22 {rc : Nat → Mem → Option Mem} {bk4 : Mem → Option (Mem)} {W : Nat → Int → Prop} {M0 : Mem} (hW : ∀ k j, (W_MO_sum_L22) k j → W k j) (hrc : ∀ (i_ : Nat) (M_ : Mem), Fr W M0 M_ → Post (fun r => Fr W M0 r) (rc i_ M_)) (hbk4 : ∀ (a0_ : Mem), Fr W M0 a0_ → Post (fun r => Fr W M0 r) (bk4 a0_)) {M : Mem} (h : Fr W M0 M) : Post (fun r => Fr W M0 r) (t_MO_sum_L22 rc bk4 M) := by
  unfold t_MO_sum_L22
  refine post_let (fun q10 e_q10 => ?_)
  have h_q10 : Fr W M0 q10 := by rw [e_q10]; exact (fr_MO_knot (fun k j hk => hW k j (Or.inl ⟨(hk).1, (Or.elim (hk).2 (fun h => (Or.inr (Or.inr (Or.inr (Or.inr (Or.inl h)))))) (fun h => (Or.elim h (fun h => (Or.inr (Or.inr (Or.inr (Or.inr (Or.inr (Or.inl h))))))) (fun h => (Or.inr (Or.inr (Or.inr (Or.inr (Or.inr (Or.inr (Or.inr h)))))))))))⟩))  h)
  refine post_bind (Q := fun r => Fr W M0 r) (fr_MO_goOn (fun k j hk => hW k j (Or.inl ⟨(hk).1, (Or.elim (hk).2 (fun h => (Or.inl h)) (fun h => (Or.elim h (fun h => (Or.inr (Or.inl h))) (fun h => (Or.elim h (fun h => (Or.inr (Or.inr (Or.inl h)))) (fun h => (Or.inr (Or.inr (Or.inr (Or.inl h))))))))))⟩))  h_q10) (fun q12 h_q12 => ?_)
  refine post_bind (Q := fun r => Fr W M0 r) (hrc _ _ h_q12) (fun q14 h_q14 => ?_)
  refine post_bind (Q := fun r => Fr W M0 r) (fr_MO_puts (fun k j hk => hW k j (Or.elim hk (fun h => (Or.inr (Or.inl h))) (fun h => (Or.elim h (fun h => (Or.inr (Or.inr (Or.inl h)))) (fun h => (Or.inr (Or.inr (Or.inr h))))))))  h_q14) (fun q16 h_q16 => ?_)
  exact hbk4 _ h_q16
def W_MO_sum_L4 : Nat → Int → Prop := fun k j => (k = 191 ∧ (j = 20 ∨ j = 21 ∨ j = 22 ∨ j = 23 ∨ j = 24 ∨ j = 25 ∨ j = 28 ∨ j = 29)) ∨ k = 193 ∨ k = 205 ∨ k = 206
theorem fr_MO_sum_L4 {rc : Nat → Mem → Option Mem} {W : Nat → Int → Prop} {M0 : Mem} (hW : ∀ k j, (W_MO_sum_L4) k j → W k j) (hrc : ∀ (i_ : Nat) (M_ : Mem), Fr W M0 M_ → Post (fun r => Fr W M0 r) (rc i_ M_)) : ∀ (fu : Nat) (M : Mem) , Fr W M0 M → Post (fun r => Fr W M0 r) (t_MO_sum_L4 rc fu M ) := by
  intro fu
  induction fu with
  | zero => intro M  h; exact post_none
  | succ fu ih =>
    intro M  h
    rw [t_MO_sum_L4]
    refine post_let (fun q3 _ => ?_)
    refine post_ite (fun c_1 => ?_) (fun c_1 => ?_)
    · refine post_let (fun q6 _ => ?_)
      refine post_ite (fun c_2 => ?_) (fun c_2 => ?_)
      · exact post_some h
      · exact (fr_MO_sum_L22 (fun k j hk => hW k j (Or.elim hk (fun h => (Or.inl ⟨(h).1, (Or.elim (h).2 (fun h => (Or.inl h)) (fun h => (Or.elim h (fun h => (Or.inr (Or.inl h))) (fun h => (Or.elim h (fun h => (Or.inr (Or.inr (Or.inl h)))) (fun h => (Or.elim h (fun h => (Or.inr (Or.inr (Or.inr (Or.inl h))))) (fun h => (Or.elim h (fun h => (Or.inr (Or.inr (Or.inr (Or.inr (Or.inl h)))))) (fun h => (Or.elim h (fun h => (Or.inr (Or.inr (Or.inr (Or.inr (Or.inr (Or.inl h))))))) (fun h => (Or.elim h (fun h => (Or.inr (Or.inr (Or.inr (Or.inr (Or.inr (Or.inr (Or.inl h)))))))) (fun h => (Or.inr (Or.inr (Or.inr (Or.inr (Or.inr (Or.inr (Or.inr h)))))))))))))))))))))⟩)) (fun h => (Or.elim h (fun h => (Or.inr (Or.inl h))) (fun h => (Or.elim h (fun h => (Or.inr (Or.inr (Or.inl h)))) (fun h => (Or.inr (Or.inr (Or.inr h)))))))))) hrc (fun a0_ h9 => ih a0_ h9) h)
    · exact (fr_MO_sum_L22 (fun k j hk => hW k j (Or.elim hk (fun h => (Or.inl ⟨(h).1, (Or.elim (h).2 (fun h => (Or.inl h)) (fun h => (Or.elim h (fun h => (Or.inr (Or.inl h))) (fun h => (Or.elim h (fun h => (Or.inr (Or.inr (Or.inl h)))) (fun h => (Or.elim h (fun h => (Or.inr (Or.inr (Or.inr (Or.inl h))))) (fun h => (Or.elim h (fun h => (Or.inr (Or.inr (Or.inr (Or.inr (Or.inl h)))))) (fun h => (Or.elim h (fun h => (Or.inr (Or.inr (Or.inr (Or.inr (Or.inr (Or.inl h))))))) (fun h => (Or.elim h (fun h => (Or.inr (Or.inr (Or.inr (Or.inr (Or.inr (Or.inr (Or.inl h)))))))) (fun h => (Or.inr (Or.inr (Or.inr (Or.inr (Or.inr (Or.inr (Or.inr h)))))))))))))))))))))⟩)) (fun h => (Or.elim h (fun h => (Or.inr (Or.inl h))) (fun h => (Or.elim h (fun h => (Or.inr (Or.inr (Or.inl h)))) (fun h => (Or.inr (Or.inr (Or.inr h)))))))))) hrc (fun a0_ h9 => ih a0_ h9) h)
def W_MO_sum_B : Nat → Int → Prop := fun k j => (k = 191 ∧ (j = 20 ∨ j = 21 ∨ j = 22 ∨ j = 23 ∨ j = 24 ∨ j = 25 ∨ j = 28 ∨ j = 29)) ∨ k = 193 ∨ k = 205 ∨ k = 206
theorem fr_MO_sum_B {rc : Nat → Mem → Option Mem} {W : Nat → Int → Prop} {M0 : Mem} (hW : ∀ k j, (W_MO_sum_B) k j → W k j) (hrc : ∀ (i_ : Nat) (M_ : Mem), Fr W M0 M_ → Post (fun r => Fr W M0 r) (rc i_ M_)) {M : Mem} (h : Fr W M0 M) : Post (fun r => Fr W M0 r) (t_MO_sum_B M rc) := by
  unfold t_MO_sum_B
  refine post_bind (Q := fun r => Fr W M0 r) (hrc _ _ h) (fun q1 h_q1 => ?_)
  exact (fr_MO_sum_L4 (fun k j hk => hW k j (Or.elim hk (fun h => (Or.inl ⟨(h).1, (Or.elim (h).2 (fun h => (Or.inl h)) (fun h => (Or.elim h (fun h => (Or.inr (Or.inl h))) (fun h => (Or.elim h (fun h => (Or.inr (Or.inr (Or.inl h)))) (fun h => (Or.elim h (fun h => (Or.inr (Or.inr (Or.inr (Or.inl h))))) (fun h => (Or.elim h (fun h => (Or.inr (Or.inr (Or.inr (Or.inr (Or.inl h)))))) (fun h => (Or.elim h (fun h => (Or.inr (Or.inr (Or.inr (Or.inr (Or.inr (Or.inl h))))))) (fun h => (Or.elim h (fun h => (Or.inr (Or.inr (Or.inr (Or.inr (Or.inr (Or.inr (Or.inl h)))))))) (fun h => (Or.inr (Or.inr (Or.inr (Or.inr (Or.inr (Or.inr (Or.inr h)))))))))))))))))))))⟩)) (fun h => (Or.elim h (fun h => (Or.inr (Or.inl h))) (fun h => (Or.elim h (fun h => (Or.inr (Or.inr (Or.inl h)))) (fun h => (Or.inr (Or.inr (Or.inr h)))))))))) hrc _ _ h_q1)
def W_MO_negation_L87 : Nat → Int → Prop := fun k j => (k = 191 ∧ (j = 20 ∨ j = 21 ∨ j = 22 ∨ j = 23 ∨ j = 24 ∨ j = 25 ∨ j = 28 ∨ j = 29)) ∨ k = 193 ∨ k = 205 ∨ k = 206
theorem fr_MO_negation_L87 {rc : Nat → Mem → Option Mem} {W : Nat → Int → Prop} {M0 : Mem} (hW : ∀ k j, (W_MO_negation_L87) k j → W k j) (hrc : ∀ (i_ : Nat) (M_ : Mem), Fr W M0 M_ → Post (fun r => Fr W M0 r) (rc i_ M_)) {M : Mem} (h : Fr W M0 M) : Post (fun r => Fr W M0 r) (t_MO_negation_L87 rc M) := by
  unfold t_MO_negation_L87
  refine post_let (fun q27 e_q27 => ?_)
  have h_q27 : Fr W M0 q27 := by rw [e_q27]; exact (fr_MO_knot (fun k j hk => hW k j (Or.inl ⟨(hk).1, (Or.elim (hk).2 (fun h => (Or.inr (Or.inr (Or.inr (Or.inr (Or.inl h)))))) (fun h => (Or.elim h (fun h => (Or.inr (Or.inr (Or.inr (Or.inr (Or.inr (Or.inl h))))))) (fun h => (Or.inr (Or.inr (Or.inr (Or.inr (Or.inr (Or.inr (Or.inr h)))))))))))⟩))  h)
  refine post_bind (Q := fun r => Fr W M0 r) (fr_MO_goOn (fun k j hk => hW k j (Or.inl ⟨(hk).1, (Or.elim (hk).2 (fun h => (Or.inl h)) (fun h => (Or.elim h (fun h => (Or.inr (Or.inl h))) (fun h => (Or.elim h (fun h => (Or.inr (Or.inr (Or.inl h)))) (fun h => (Or.inr (Or.inr (Or.inr (Or.inl h))))))))))⟩))  h_q27) (fun q29 h_q29 => ?_)
  refine post_bind (Q := fun r => Fr W M0 r) (hrc _ _ h_q29) (fun q31 h_q31 => ?_)
  refine post_bind (Q := fun r => Fr W M0 r) (fr_MO_puts (fun k j hk => hW k j (Or.elim hk (fun h => (Or.inr (Or.inl h))) (fun h => (Or.elim h (fun h => (Or.inr (Or.inr (Or.inl h)))) (fun h => (Or.inr (Or.inr (Or.inr h))))))))  h_q31) (fun q33 h_q33 => ?_)
  exact post_some h_q33
def W_MO_negation_B : Nat → Int → Prop := fun k j => (k = 191 ∧ (j = 20 ∨ j = 21 ∨ j = 22 ∨ j = 23 ∨ j = 24 ∨ j = 25 ∨ j = 28 ∨ j = 29)) ∨ k = 193 ∨ k = 205 ∨ k = 206
theorem fr_MO_negation_B {rc : Nat → Mem → Option Mem} {W : Nat → Int → Prop} {M0 : Mem} (hW : ∀ k j, (W_MO_negation_B) k j → W k j) (hrc : ∀ (i_ : Nat) (M_ : Mem), Fr W M0 M_ → Post (fun r => Fr W M0 r) (rc i_ M_)) {M : Mem} (h : Fr W M0 M) : Post (fun r => Fr W M0 r) (t_MO_negation_B M rc) := by
  unfold t_MO_negation_B
  refine post_let (fun q1 _ => ?_)
  refine post_ite (fun c_1 => ?_) (fun c_1 => ?_)
  · refine post_bind (Q := fun r => Fr W M0 r) (hrc _ _ h) (fun q4 h_q4 => ?_)
    refine post_ite (fun c_2 => ?_) (fun c_2 => ?_)
    · refine post_ite (fun c_3 => ?_) (fun c_3 => ?_)
      · refine post_ite (fun c_4 => ?_) (fun c_4 => ?_)
        · exact (fr_MO_negation_L87 (fun k j hk => hW k j (Or.elim hk (fun h => (Or.inl ⟨(h).1, (Or.elim (h).2 (fun h => (Or.inl h)) (fun h => (Or.elim h (fun h => (Or.inr (Or.inl h))) (fun h => (Or.elim h (fun h => (Or.inr (Or.inr (Or.inl h)))) (fun h => (Or.elim h (fun h => (Or.inr (Or.inr (Or.inr (Or.inl h))))) (fun h => (Or.elim h (fun h => (Or.inr (Or.inr (Or.inr (Or.inr (Or.inl h)))))) (fun h => (Or.elim h (fun h => (Or.inr (Or.inr (Or.inr (Or.inr (Or.inr (Or.inl h))))))) (fun h => (Or.elim h (fun h => (Or.inr (Or.inr (Or.inr (Or.inr (Or.inr (Or.inr (Or.inl h)))))))) (fun h => (Or.inr (Or.inr (Or.inr (Or.inr (Or.inr (Or.inr (Or.inr h)))))))))))))))))))))⟩)) (fun h => (Or.elim h (fun h => (Or.inr (Or.inl h))) (fun h => (Or.elim h (fun h => (Or.inr (Or.inr (Or.inl h)))) (fun h => (Or.inr (Or.inr (Or.inr h)))))))))) hrc h_q4)
        · refine post_ite (fun c_5 => ?_) (fun c_5 => ?_)
          · exact (fr_MO_negation_L87 (fun k j hk => hW k j (Or.elim hk (fun h => (Or.inl ⟨(h).1, (Or.elim (h).2 (fun h => (Or.inl h)) (fun h => (Or.elim h (fun h => (Or.inr (Or.inl h))) (fun h => (Or.elim h (fun h => (Or.inr (Or.inr (Or.inl h)))) (fun h => (Or.elim h (fun h => (Or.inr (Or.inr (Or.inr (Or.inl h))))) (fun h => (Or.elim h (fun h => (Or.inr (Or.inr (Or.inr (Or.inr (Or.inl h)))))) (fun h => (Or.elim h (fun h => (Or.inr (Or.inr (Or.inr (Or.inr (Or.inr (Or.inl h))))))) (fun h => (Or.elim h (fun h => (Or.inr (Or.inr (Or.inr (Or.inr (Or.inr (Or.inr (Or.inl h)))))))) (fun h => (Or.inr (Or.inr (Or.inr (Or.inr (Or.inr (Or.inr (Or.inr h)))))))))))))))))))))⟩)) (fun h => (Or.elim h (fun h => (Or.inr (Or.inl h))) (fun h => (Or.elim h (fun h => (Or.inr (Or.inr (Or.inl h)))) (fun h => (Or.inr (Or.inr (Or.inr h)))))))))) hrc h_q4)
          · refine post_ite (fun c_6 => ?_) (fun c_6 => ?_)
            · exact (fr_MO_negation_L87 (fun k j hk => hW k j (Or.elim hk (fun h => (Or.inl ⟨(h).1, (Or.elim (h).2 (fun h => (Or.inl h)) (fun h => (Or.elim h (fun h => (Or.inr (Or.inl h))) (fun h => (Or.elim h (fun h => (Or.inr (Or.inr (Or.inl h)))) (fun h => (Or.elim h (fun h => (Or.inr (Or.inr (Or.inr (Or.inl h))))) (fun h => (Or.elim h (fun h => (Or.inr (Or.inr (Or.inr (Or.inr (Or.inl h)))))) (fun h => (Or.elim h (fun h => (Or.inr (Or.inr (Or.inr (Or.inr (Or.inr (Or.inl h))))))) (fun h => (Or.elim h (fun h => (Or.inr (Or.inr (Or.inr (Or.inr (Or.inr (Or.inr (Or.inl h)))))))) (fun h => (Or.inr (Or.inr (Or.inr (Or.inr (Or.inr (Or.inr (Or.inr h)))))))))))))))))))))⟩)) (fun h => (Or.elim h (fun h => (Or.inr (Or.inl h))) (fun h => (Or.elim h (fun h => (Or.inr (Or.inr (Or.inl h)))) (fun h => (Or.inr (Or.inr (Or.inr h)))))))))) hrc h_q4)
            · refine post_ite (fun c_7 => ?_) (fun c_7 => ?_)
              · exact (fr_MO_negation_L87 (fun k j hk => hW k j (Or.elim hk (fun h => (Or.inl ⟨(h).1, (Or.elim (h).2 (fun h => (Or.inl h)) (fun h => (Or.elim h (fun h => (Or.inr (Or.inl h))) (fun h => (Or.elim h (fun h => (Or.inr (Or.inr (Or.inl h)))) (fun h => (Or.elim h (fun h => (Or.inr (Or.inr (Or.inr (Or.inl h))))) (fun h => (Or.elim h (fun h => (Or.inr (Or.inr (Or.inr (Or.inr (Or.inl h)))))) (fun h => (Or.elim h (fun h => (Or.inr (Or.inr (Or.inr (Or.inr (Or.inr (Or.inl h))))))) (fun h => (Or.elim h (fun h => (Or.inr (Or.inr (Or.inr (Or.inr (Or.inr (Or.inr (Or.inl h)))))))) (fun h => (Or.inr (Or.inr (Or.inr (Or.inr (Or.inr (Or.inr (Or.inr h)))))))))))))))))))))⟩)) (fun h => (Or.elim h (fun h => (Or.inr (Or.inl h))) (fun h => (Or.elim h (fun h => (Or.inr (Or.inr (Or.inl h)))) (fun h => (Or.inr (Or.inr (Or.inr h)))))))))) hrc h_q4)
              · exact post_some h_q4
      · exact post_some h_q4
    · exact post_some h_q4
  · refine post_let (fun q18 e_q18 => ?_)
    have h_q18 : Fr W M0 q18 := by rw [e_q18]; exact (fr_MO_knot (fun k j hk => hW k j (Or.inl ⟨(hk).1, (Or.elim (hk).2 (fun h => (Or.inr (Or.inr (Or.inr (Or.inr (Or.inl h)))))) (fun h => (Or.elim h (fun h => (Or.inr (Or.inr (Or.inr (Or.inr (Or.inr (Or.inl h))))))) (fun h => (Or.inr (Or.inr (Or.inr (Or.inr (Or.inr (Or.inr (Or.inr h)))))))))))⟩))  h)
    refine post_bind (Q := fun r => Fr W M0 r) (fr_MO_goOn (fun k j hk => hW k j (Or.inl ⟨(hk).1, (Or.elim (hk).2 (fun h => (Or.inl h)) (fun h => (Or.elim h (fun h => (Or.inr (Or.inl h))) (fun h => (Or.elim h (fun h => (Or.inr (Or.inr (Or.inl h)))) (fun h => (Or.inr (Or.inr (Or.inr (Or.inl h))))))))))⟩))  h_q18) (fun q20 h_q20 => ?_)
    refine post_bind (Q := fun r => Fr W M0 r) (hrc _ _ h_q20) (fun q22 h_q22 => ?_)
    refine post_bind (Q := fun r => Fr W M0 r) (fr_MO_puts (fun k j hk => hW k j (Or.elim hk (fun h => (Or.inr (Or.inl h))) (fun h => (Or.elim h (fun h => (Or.inr (Or.inr (Or.inl h)))) (fun h => (Or.inr (Or.inr (Or.inr h))))))))  h_q22) (fun q24 h_q24 => ?_)
    exact post_some h_q24
def W_MO_conjunction_L4 : Nat → Int → Prop := fun k j => (k = 191 ∧ (j = 20 ∨ j = 21 ∨ j = 22 ∨ j = 23 ∨ j = 24 ∨ j = 25 ∨ j = 28 ∨ j = 29)) ∨ k = 193 ∨ k = 205 ∨ k = 206
theorem fr_MO_conjunction_L4 {rc : Nat → Mem → Option Mem} {W : Nat → Int → Prop} {M0 : Mem} (hW : ∀ k j, (W_MO_conjunction_L4) k j → W k j) (hrc : ∀ (i_ : Nat) (M_ : Mem), Fr W M0 M_ → Post (fun r => Fr W M0 r) (rc i_ M_)) : ∀ (fu : Nat) (M : Mem) , Fr W M0 M → Post (fun r => Fr W M0 r) (t_MO_conjunction_L4 rc fu M ) := by
  intro fu
  induction fu with
  | zero => intro M  h; exact post_none
  | succ fu ih =>
    intro M  h
    rw [t_MO_conjunction_L4]
    refine post_let (fun q3 _ => ?_)
    refine post_ite (fun c_1 => ?_) (fun c_1 => ?_)
    · exact post_some h
    · refine post_let (fun q6 e_q6 => ?_)
      have h_q6 : Fr W M0 q6 := by rw [e_q6]; exact (fr_MO_knot (fun k j hk => hW k j (Or.inl ⟨(hk).1, (Or.elim (hk).2 (fun h => (Or.inr (Or.inr (Or.inr (Or.inr (Or.inl h)))))) (fun h => (Or.elim h (fun h => (Or.inr (Or.inr (Or.inr (Or.inr (Or.inr (Or.inl h))))))) (fun h => (Or.inr (Or.inr (Or.inr (Or.inr (Or.inr (Or.inr (Or.inr h)))))))))))⟩))  h)
      refine post_bind (Q := fun r => Fr W M0 r) (fr_MO_goOn (fun k j hk => hW k j (Or.inl ⟨(hk).1, (Or.elim (hk).2 (fun h => (Or.inl h)) (fun h => (Or.elim h (fun h => (Or.inr (Or.inl h))) (fun h => (Or.elim h (fun h => (Or.inr (Or.inr (Or.inl h)))) (fun h => (Or.inr (Or.inr (Or.inr (Or.inl h))))))))))⟩))  h_q6) (fun q8 h_q8 => ?_)
      refine post_bind (Q := fun r => Fr W M0 r) (hrc _ _ h_q8) (fun q10 h_q10 => ?_)
      refine post_bind (Q := fun r => Fr W M0 r) (fr_MO_puts (fun k j hk => hW k j (Or.elim hk (fun h => (Or.inr (Or.inl h))) (fun h => (Or.elim h (fun h => (Or.inr (Or.inr (Or.inl h)))) (fun h => (Or.inr (Or.inr (Or.inr h))))))))  h_q10) (fun q12 h_q12 => ?_)
      exact (ih _ h_q12)
def W_MO_conjunction_B : Nat → Int → Prop := fun k j => (k = 191 ∧ (j = 20 ∨ j = 21 ∨ j = 22 ∨ j = 23 ∨ j = 24 ∨ j = 25 ∨ j = 28 ∨ j = 29)) ∨ k = 193 ∨ k = 205 ∨ k = 206
theorem fr_MO_conjunction_B {rc : Nat → Mem → Option Mem} {W : Nat → Int → Prop} {M0 : Mem} (hW : ∀ k j, (W_MO_conjunction_B) k j → W k j) (hrc : ∀ (i_ : Nat) (M_ : Mem), Fr W M0 M_ → Post (fun r => Fr W M0 r) (rc i_ M_)) {M : Mem} (h : Fr W M0 M) : Post (fun r => Fr W M0 r) (t_MO_conjunction_B M rc) := by
  unfold t_MO_conjunction_B
  refine post_bind (Q := fun r => Fr W M0 r) (hrc _ _ h) (fun q1 h_q1 => ?_)
  exact (fr_MO_conjunction_L4 (fun k j hk => hW k j (Or.elim hk (fun h => (Or.inl ⟨(h).1, (Or.elim (h).2 (fun h => (Or.inl h)) (fun h => (Or.elim h (fun h => (Or.inr (Or.inl h))) (fun h => (Or.elim h (fun h => (Or.inr (Or.inr (Or.inl h)))) (fun h => (Or.elim h (fun h => (Or.inr (Or.inr (Or.inr (Or.inl h))))) (fun h => (Or.elim h (fun h => (Or.inr (Or.inr (Or.inr (Or.inr (Or.inl h)))))) (fun h => (Or.elim h (fun h => (Or.inr (Or.inr (Or.inr (Or.inr (Or.inr (Or.inl h))))))) (fun h => (Or.elim h (fun h => (Or.inr (Or.inr (Or.inr (Or.inr (Or.inr (Or.inr (Or.inl h)))))))) (fun h => (Or.inr (Or.inr (Or.inr (Or.inr (Or.inr (Or.inr (Or.inr h)))))))))))))))))))))⟩)) (fun h => (Or.elim h (fun h => (Or.inr (Or.inl h))) (fun h => (Or.elim h (fun h => (Or.inr (Or.inr (Or.inl h)))) (fun h => (Or.inr (Or.inr (Or.inr h)))))))))) hrc _ _ h_q1)
end
