section
def W_Formula_clear (k0 : Nat) : Nat → Int → Prop := fun k j => (k = k0 ∧ (j = 3 ∨ j = 4))
theorem fr_Formula_clear {k0 : Nat} {W : Nat → Int → Prop} {M0 : Mem} (hW : ∀ k j, (W_Formula_clear k0) k j → W k j)  {M : Mem} (h : Fr W M0 M) : Fr W M0 (t_Formula_clear M k0) := by
  show Pl (fun r => Fr W M0 r) (t_Formula_clear M k0)
  unfold t_Formula_clear
  refine pl_let (fun M1 e_M1 => ?_)
  have h_M1 : Fr W M0 M1 := by rw [e_M1]; exact Fr.setI h (hW _ _ ⟨rfl, (Or.inl rfl)⟩)
  refine pl_let (fun M2 e_M2 => ?_)
  have h_M2 : Fr W M0 M2 := by rw [e_M2]; exact Fr.setI h_M1 (hW _ _ ⟨rfl, (Or.inr rfl)⟩)
  exact h_M2
def W_Arrays_fill_L5 (r1 : Nat) : Nat → Int → Prop := fun k j => k = r1
theorem fr_Arrays_fill_L5 {r1 : Nat} {N1 : Nat} {x2 : Int} {W : Nat → Int → Prop} {M0 : Mem} (hW : ∀ k j, (W_Arrays_fill_L5 r1) k j → W k j)  : ∀ (fu : Nat) (M : Mem) (v2_ : Int) (v3_ : Int), Fr W M0 M → Post (fun r => Fr W M0 r) (t_Arrays_fill_L5 r1 N1 x2 fu M v2_ v3_) := by
  intro fu
  induction fu with
  | zero => intro M v2_ v3_ h; exact post_none
  | succ fu ih =>
    intro M v2_ v3_ h
    rw [t_Arrays_fill_L5]
    refine post_ite (fun c_1 => ?_) (fun c_1 => ?_)
    · exact post_some h
    · refine post_guard (fun c_2 => ?_)
      refine post_let (fun M3 e_M3 => ?_)
      have h_M3 : Fr W M0 M3 := by rw [e_M3]; exact Fr.setI h (hW _ _ rfl)
      exact (ih _ _ _ h_M3)
def W_Arrays_fill (r1 : Nat) : Nat → Int → Prop := fun k j => k = r1
theorem fr_Arrays_fill {r1 : Nat} {N1 : Nat} {x2 : Int} {W : Nat → Int → Prop} {M0 : Mem} (hW : ∀ k j, (W_Arrays_fill r1) k j → W k j)  {M : Mem} (h : Fr W M0 M) : Post (fun r => Fr W M0 r) (t_Arrays_fill M r1 N1 x2) := by
  unfold t_Arrays_fill
  exact (fr_Arrays_fill_L5 (fun k j hk => hW k j hk)  _ _ _ _ h)
def W_Town_clear (k0 : Nat) : Nat → Int → Prop := fun k j => (k = k0 ∧ (j = 11 ∨ j = 12 ∨ j = 14 ∨ j = 15 ∨ j = 16 ∨ j = 17 ∨ j = 18 ∨ j = 19)) ∨ (k = k0 + 10 ∧ (j = 3 ∨ j = 4)) ∨ (k = k0 + 15 ∧ (j = 3 ∨ j = 4)) ∨ k = k0 + 8
theorem fr_Town_clear {k0 : Nat} {W : Nat → Int → Prop} {M0 : Mem} (hW : ∀ k j, (W_Town_clear k0) k j → W k j)  {M : Mem} (h : Fr W M0 M) : Post (fun r => Fr W M0 r) (t_Town_clear M k0) := by
  unfold t_Town_clear
  refine post_let (fun M1 e_M1 => ?_)
  have h_M1 : Fr W M0 M1 := by rw [e_M1]; exact Fr.setI h (hW _ _ (Or.inl ⟨rfl, (Or.inl rfl)⟩))
  refine post_let (fun M2 e_M2 => ?_)
  have h_M2 : Fr W M0 M2 := by rw [e_M2]; exact Fr.setI h_M1 (hW _ _ (Or.inl ⟨rfl, (Or.inr (Or.inl rfl))⟩))
  refine post_let (fun M3 e_M3 => ?_)
  have h_M3 : Fr W M0 M3 := by rw [e_M3]; exact Fr.setI h_M2 (hW _ _ (Or.inl ⟨rfl, (Or.inr (Or.inr (Or.inl rfl)))⟩))
  refine post_let (fun M4 e_M4 => ?_)
  have h_M4 : Fr W M0 M4 := by rw [e_M4]; exact Fr.setI h_M3 (hW _ _ (Or.inl ⟨rfl, (Or.inr (Or.inr (Or.inr (Or.inl rfl))))⟩))
  refine post_let (fun M5 e_M5 => ?_)
  have h_M5 : Fr W M0 M5 := by rw [e_M5]; exact Fr.setI h_M4 (hW _ _ (Or.inl ⟨rfl, (Or.inr (Or.inr (Or.inr (Or.inr (Or.inl rfl)))))⟩))
  refine post_let (fun M6 e_M6 => ?_)
  have h_M6 : Fr W M0 M6 := by rw [e_M6]; exact Fr.setI h_M5 (hW _ _ (Or.inl ⟨rfl, (Or.inr (Or.inr (Or.inr (Or.inr (Or.inr (Or.inl rfl))))))⟩))
  refine post_let (fun M7 e_M7 => ?_)
  have h_M7 : Fr W M0 M7 := by rw [e_M7]; exact Fr.setL h_M6 (hW _ _ (Or.inl ⟨rfl, (Or.inr (Or.inr (Or.inr (Or.inr (Or.inr (Or.inr (Or.inl rfl)))))))⟩))
  refine post_let (fun M8 e_M8 => ?_)
  have h_M8 : Fr W M0 M8 := by rw [e_M8]; exact Fr.setL h_M7 (hW _ _ (Or.inl ⟨rfl, (Or.inr (Or.inr (Or.inr (Or.inr (Or.inr (Or.inr (Or.inr rfl)))))))⟩))
  refine post_let (fun q9 e_q9 => ?_)
  have h_q9 : Fr W M0 q9 := by rw [e_q9]; exact (fr_Formula_clear (fun k j hk => hW k j (Or.inr (Or.inl ⟨(hk).1, (Or.elim (hk).2 (fun h => (Or.inl h)) (fun h => (Or.inr h)))⟩)))  h_M8)
  refine post_let (fun q11 e_q11 => ?_)
  have h_q11 : Fr W M0 q11 := by rw [e_q11]; exact (fr_Formula_clear (fun k j hk => hW k j (Or.inr (Or.inr (Or.inl ⟨(hk).1, (Or.elim (hk).2 (fun h => (Or.inl h)) (fun h => (Or.inr h)))⟩))))  h_q9)
  refine post_bind (Q := fun r => Fr W M0 r) (fr_Arrays_fill (fun k j hk => hW k j (Or.inr (Or.inr (Or.inr hk))))  h_q11) (fun q13 h_q13 => ?_)
  exact post_some h_q13
def W_WF_put (r1 : Nat) : Nat → Int → Prop := fun k j => k = r1
theorem fr_WF_put {r1 : Nat} {N1 : Nat} {x2 : Int} {x3 : Int} {W : Nat → Int → Prop} {M0 : Mem} (hW : ∀ k j, (W_WF_put r1) k j → W k j)  {M : Mem} (h : Fr W M0 M) : Fr W M0 (t_WF_put M r1 N1 x2 x3) := by
  show Pl (fun r => Fr W M0 r) (t_WF_put M r1 N1 x2 x3)
  unfold t_WF_put
  refine pl_ite (fun c_1 => ?_) (fun c_1 => ?_)
  · exact h
  · refine pl_ite (fun c_2 => ?_) (fun c_2 => ?_)
    · exact h
    · refine pl_let (fun M3 e_M3 => ?_)
      have h_M3 : Fr W M0 M3 := by rw [e_M3]; exact Fr.setI h (hW _ _ rfl)
      exact h_M3
def W_Town_settle_L155 (k0 : Nat) : Nat → Int → Prop := fun k j => k = k0 + 4 ∨ k = k0 + 9
theorem fr_Town_settle_L155 {k0 : Nat} {bk23 : Mem → Int → Option (Mem)} {bk33 : Mem → Int → Int → Option (Mem)} {v1_ : Int} {v2_ : Int} {v3_ : Int} {v5_ : Int} {v6_ : Int} {W : Nat → Int → Prop} {M0 : Mem} (hW : ∀ k j, (W_Town_settle_L155 k0) k j → W k j) (hbk23 : ∀ (a0_ : Mem) (a1_ : Int), Fr W M0 a0_ → Post (fun r => Fr W M0 r) (bk23 a0_ a1_)) (hbk33 : ∀ (a0_ : Mem) (a1_ : Int) (a2_ : Int), Fr W M0 a0_ → Post (fun r => Fr W M0 r) (bk33 a0_ a1_ a2_)) {M : Mem} (h : Fr W M0 M) : Post (fun r => Fr W M0 r) (t_Town_settle_L155 k0 bk23 bk33 M v1_ v2_ v3_ v5_ v6_) := by
  unfold t_Town_settle_L155
  refine post_let (fun q25 e_q25 => ?_)
  have h_q25 : Fr W M0 q25 := by rw [e_q25]; exact (fr_WF_put (fun k j hk => hW k j (Or.inr hk))  h)
  refine post_let (fun q27 _ => ?_)
  refine post_let (fun q29 _ => ?_)
  refine post_let (fun q31 e_q31 => ?_)
  have h_q31 : Fr W M0 q31 := by rw [e_q31]; exact (fr_WF_put (fun k j hk => hW k j (Or.inl hk))  h_q25)
  exact hbk33 _ _ _ h_q31
def W_Town_settle_L132 (k0 : Nat) : Nat → Int → Prop := fun k j => k = k0 + 4 ∨ k = k0 + 9
theorem fr_Town_settle_L132 {k0 : Nat} {bk23 : Mem → Int → Option (Mem)} {bk33 : Mem → Int → Int → Option (Mem)} {v1_ : Int} {v2_ : Int} {v3_ : Int} {v5_ : Int} {v6_ : Int} {W : Nat → Int → Prop} {M0 : Mem} (hW : ∀ k j, (W_Town_settle_L132 k0) k j → W k j) (hbk23 : ∀ (a0_ : Mem) (a1_ : Int), Fr W M0 a0_ → Post (fun r => Fr W M0 r) (bk23 a0_ a1_)) (hbk33 : ∀ (a0_ : Mem) (a1_ : Int) (a2_ : Int), Fr W M0 a0_ → Post (fun r => Fr W M0 r) (bk33 a0_ a1_ a2_)) {M : Mem} (h : Fr W M0 M) : Post (fun r => Fr W M0 r) (t_Town_settle_L132 k0 bk23 bk33 M v1_ v2_ v3_ v5_ v6_) := by
  unfold t_Town_settle_L132
  refine post_let (fun q22 e_q22 => ?_)
  have h_q22 : Fr W M0 q22 := by rw [e_q22]; exact (fr_WF_put (fun k j hk => hW k j (Or.inr hk))  h)
  refine post_ite (fun c_1 => ?_) (fun c_1 => ?_)
  · exact (fr_Town_settle_L155 (fun k j hk => hW k j (Or.elim hk (fun h => (Or.inl h)) (fun h => (Or.inr h)))) hbk23 hbk33 h_q22)
  · exact (fr_Town_settle_L155 (fun k j hk => hW k j (Or.elim hk (fun h => (Or.inl h)) (fun h => (Or.inr h)))) hbk23 hbk33 h_q22)
def W_Town_settle_L100 (k0 : Nat) : Nat → Int → Prop := fun k j => k = k0 + 4 ∨ k = k0 + 9
theorem fr_Town_settle_L100 {k0 : Nat} {bk23 : Mem → Int → Option (Mem)} {bk33 : Mem → Int → Int → Option (Mem)} {v1_ : Int} {v2_ : Int} {v3_ : Int} {v5_ : Int} {v6_ : Int} {W : Nat → Int → Prop} {M0 : Mem} (hW : ∀ k j, (W_Town_settle_L100 k0) k j → W k j) (hbk23 : ∀ (a0_ : Mem) (a1_ : Int), Fr W M0 a0_ → Post (fun r => Fr W M0 r) (bk23 a0_ a1_)) (hbk33 : ∀ (a0_ : Mem) (a1_ : Int) (a2_ : Int), Fr W M0 a0_ → Post (fun r => Fr W M0 r) (bk33 a0_ a1_ a2_)) {M : Mem} (h : Fr W M0 M) : Post (fun r => Fr W M0 r) (t_Town_settle_L100 k0 bk23 bk33 M v1_ v2_ v3_ v5_ v6_) := by
  unfold t_Town_settle_L100
  refine post_let (fun q17 e_q17 => ?_)
  have h_q17 : Fr W M0 q17 := by rw [e_q17]; exact (fr_WF_put (fun k j hk => hW k j (Or.inr hk))  h)
  refine post_ite (fun c_1 => ?_) (fun c_1 => ?_)
  · exact (fr_Town_settle_L132 (fun k j hk => hW k j (Or.elim hk (fun h => (Or.inl h)) (fun h => (Or.inr h)))) hbk23 hbk33 h_q17)
  · exact (fr_Town_settle_L132 (fun k j hk => hW k j (Or.elim hk (fun h => (Or.inl h)) (fun h => (Or.inr h)))) hbk23 hbk33 h_q17)
def W_Town_settle_L71 (k0 : Nat) : Nat → Int → Prop := fun k j => k = k0 + 4 ∨ k = k0 + 9
theorem fr_Town_settle_L71 {k0 : Nat} {bk23 : Mem → Int → Option (Mem)} {bk33 : Mem → Int → Int → Option (Mem)} {v1_ : Int} {v2_ : Int} {v3_ : Int} {v5_ : Int} {v6_ : Int} {W : Nat → Int → Prop} {M0 : Mem} (hW : ∀ k j, (W_Town_settle_L71 k0) k j → W k j) (hbk23 : ∀ (a0_ : Mem) (a1_ : Int), Fr W M0 a0_ → Post (fun r => Fr W M0 r) (bk23 a0_ a1_)) (hbk33 : ∀ (a0_ : Mem) (a1_ : Int) (a2_ : Int), Fr W M0 a0_ → Post (fun r => Fr W M0 r) (bk33 a0_ a1_ a2_)) {M : Mem} (h : Fr W M0 M) : Post (fun r => Fr W M0 r) (t_Town_settle_L71 k0 bk23 bk33 M v1_ v2_ v3_ v5_ v6_) := by
  unfold t_Town_settle_L71
  refine post_let (fun q13 e_q13 => ?_)
  have h_q13 : Fr W M0 q13 := by rw [e_q13]; exact (fr_WF_put (fun k j hk => hW k j (Or.inr hk))  h)
  refine post_ite (fun c_1 => ?_) (fun c_1 => ?_)
  · exact (fr_Town_settle_L100 (fun k j hk => hW k j (Or.elim hk (fun h => (Or.inl h)) (fun h => (Or.inr h)))) hbk23 hbk33 h_q13)
  · exact (fr_Town_settle_L100 (fun k j hk => hW k j (Or.elim hk (fun h => (Or.inl h)) (fun h => (Or.inr h)))) hbk23 hbk33 h_q13)
def W_Town_settle_L33 (k0 : Nat) : Nat → Int → Prop := fun k j => k = k0 + 4 ∨ k = k0 + 9
theorem fr_Town_settle_L33 {k0 : Nat} {bk23 : Mem → Int → Option (Mem)} {W : Nat → Int → Prop} {M0 : Mem} (hW : ∀ k j, (W_Town_settle_L33 k0) k j → W k j) (hbk23 : ∀ (a0_ : Mem) (a1_ : Int), Fr W M0 a0_ → Post (fun r => Fr W M0 r) (bk23 a0_ a1_)) : ∀ (fu : Nat) (M : Mem) (v1_ : Int) (v2_ : Int), Fr W M0 M → Post (fun r => Fr W M0 r) (t_Town_settle_L33 k0 bk23 fu M v1_ v2_) := by
  intro fu
  induction fu with
  | zero => intro M v1_ v2_ h; exact post_none
  | succ fu ih =>
    intro M v1_ v2_ h
    rw [t_Town_settle_L33]
    refine post_ite (fun c_1 => ?_) (fun c_1 => ?_)
    · exact hbk23 _ _ h
    · refine post_ite (fun c_2 => ?_) (fun c_2 => ?_)
      · exact (fr_Town_settle_L71 (fun k j hk => hW k j (Or.elim hk (fun h => (Or.inl h)) (fun h => (Or.inr h)))) hbk23 (fun a0_ a1_ a2_ h9 => ih a0_ a1_ a2_ h9) h)
      · exact (fr_Town_settle_L71 (fun k j hk => hW k j (Or.elim hk (fun h => (Or.inl h)) (fun h => (Or.inr h)))) hbk23 (fun a0_ a1_ a2_ h9 => ih a0_ a1_ a2_ h9) h)
def W_Town_settle_L23 (k0 : Nat) : Nat → Int → Prop := fun k j => k = k0 + 4 ∨ k = k0 + 9
theorem fr_Town_settle_L23 {k0 : Nat} {W : Nat → Int → Prop} {M0 : Mem} (hW : ∀ k j, (W_Town_settle_L23 k0) k j → W k j)  : ∀ (fu : Nat) (M : Mem) (v1_ : Int), Fr W M0 M → Post (fun r => Fr W M0 r) (t_Town_settle_L23 k0 fu M v1_) := by
  intro fu
  induction fu with
  | zero => intro M v1_ h; exact post_none
  | succ fu ih =>
    intro M v1_ h
    rw [t_Town_settle_L23]
    refine post_ite (fun c_1 => ?_) (fun c_1 => ?_)
    · exact post_some h
    · exact (fr_Town_settle_L33 (fun k j hk => hW k j (Or.elim hk (fun h => (Or.inl h)) (fun h => (Or.inr h)))) (fun a0_ a1_ h9 => ih a0_ a1_ h9) _ _ _ _ h)
def W_Town_settle (k0 : Nat) : Nat → Int → Prop := fun k j => (k = k0 ∧ (j = 13)) ∨ k = k0 + 4 ∨ k = k0 + 9
theorem fr_Town_settle {k0 : Nat} {W : Nat → Int → Prop} {M0 : Mem} (hW : ∀ k j, (W_Town_settle k0) k j → W k j)  {M : Mem} (h : Fr W M0 M) : Post (fun r => Fr W M0 r) (t_Town_settle M k0) := by
  unfold t_Town_settle
  refine post_let (fun M3 e_M3 => ?_)
  have h_M3 : Fr W M0 M3 := by rw [e_M3]; exact Fr.setI h (hW _ _ (Or.inl ⟨rfl, rfl⟩))
  refine post_bind (Q := fun r => Fr W M0 r) (fr_Arrays_fill (fun k j hk => hW k j (Or.inr (Or.inl hk)))  h_M3) (fun q4 h_q4 => ?_)
  exact (fr_Town_settle_L23 (fun k j hk => hW k j (Or.elim hk (fun h => (Or.inr (Or.inl h))) (fun h => (Or.inr (Or.inr h)))))  _ _ _ h_q4)
def W_WF_copyRow (r2 : Nat) : Nat → Int → Prop := fun k j => k = r2
theorem fr_WF_copyRow {r1 : Nat} {N1 : Nat} {r2 : Nat} {N2 : Nat} {W : Nat → Int → Prop} {M0 : Mem} (hW : ∀ k j, (W_WF_copyRow r2) k j → W k j)  {M : Mem} (h : Fr W M0 M) : Fr W M0 (t_WF_copyRow M r1 N1 r2 N2) := by
  show Pl (fun r => Fr W M0 r) (t_WF_copyRow M r1 N1 r2 N2)
  unfold t_WF_copyRow
  exact Fr.cpy h (fun j => hW _ _ (by unfold W_WF_copyRow; omega))
def W_Scene_begin (k0 : Nat) : Nat → Int → Prop := fun k j => (k = k0 ∧ (j = 4 ∨ j = 5 ∨ j = 6)) ∨ k = k0 + 1 ∨ k = k0 + 2 ∨ k = k0 + 3 ∨ k = k0 + 4
theorem fr_Scene_begin {k0 : Nat} {k1 : Nat} {W : Nat → Int → Prop} {M0 : Mem} (hW : ∀ k j, (W_Scene_begin k0) k j → W k j)  {M : Mem} (h : Fr W M0 M) : Post (fun r => Fr W M0 r) (t_Scene_begin M k0 k1) := by
  unfold t_Scene_begin
  refine post_let (fun q1 e_q1 => ?_)
  have h_q1 : Fr W M0 q1 := by rw [e_q1]; exact (fr_WF_copyRow (fun k j hk => hW k j (Or.inr (Or.inl hk)))  h)
  refine post_let (fun q3 e_q3 => ?_)
  have h_q3 : Fr W M0 q3 := by rw [e_q3]; exact (fr_WF_copyRow (fun k j hk => hW k j (Or.inr (Or.inr (Or.inl hk))))  h_q1)
  refine post_bind (Q := fun r => Fr W M0 r) (fr_Arrays_fill (fun k j hk => hW k j (Or.inr (Or.inr (Or.inr (Or.inl hk)))))  h_q3) (fun q5 h_q5 => ?_)
  refine post_bind (Q := fun r => Fr W M0 r) (fr_Arrays_fill (fun k j hk => hW k j (Or.inr (Or.inr (Or.inr (Or.inr hk)))))  h_q5) (fun q7 h_q7 => ?_)
  refine post_let (fun M9 e_M9 => ?_)
  have h_M9 : Fr W M0 M9 := by rw [e_M9]; exact Fr.setL h_q7 (hW _ _ (Or.inl ⟨rfl, (Or.inl rfl)⟩))
  refine post_let (fun M10 e_M10 => ?_)
  have h_M10 : Fr W M0 M10 := by rw [e_M10]; exact Fr.setL h_M9 (hW _ _ (Or.inl ⟨rfl, (Or.inr (Or.inl rfl))⟩))
  refine post_let (fun M11 e_M11 => ?_)
  have h_M11 : Fr W M0 M11 := by rw [e_M11]; exact Fr.setL h_M10 (hW _ _ (Or.inl ⟨rfl, (Or.inr (Or.inr rfl))⟩))
  exact post_some h_M11
def W_Chronicle_begin (k0 : Nat) : Nat → Int → Prop := fun k j => (k = k0 ∧ (j = 3 ∨ j = 4 ∨ j = 5))
theorem fr_Chronicle_begin {k0 : Nat} {k1 : Nat} {W : Nat → Int → Prop} {M0 : Mem} (hW : ∀ k j, (W_Chronicle_begin k0) k j → W k j)  {M : Mem} (h : Fr W M0 M) : Fr W M0 (t_Chronicle_begin M k0 k1) := by
  show Pl (fun r => Fr W M0 r) (t_Chronicle_begin M k0 k1)
  unfold t_Chronicle_begin
  refine pl_let (fun M1 e_M1 => ?_)
  have h_M1 : Fr W M0 M1 := by rw [e_M1]; exact Fr.setI h (hW _ _ ⟨rfl, (Or.inl rfl)⟩)
  refine pl_let (fun M2 e_M2 => ?_)
  have h_M2 : Fr W M0 M2 := by rw [e_M2]; exact Fr.setI h_M1 (hW _ _ ⟨rfl, (Or.inr (Or.inl rfl))⟩)
  refine pl_let (fun M4 e_M4 => ?_)
  have h_M4 : Fr W M0 M4 := by rw [e_M4]; exact Fr.setL h_M2 (hW _ _ ⟨rfl, (Or.inr (Or.inr rfl))⟩)
  exact h_M4
def W_Past_clear : Nat → Int → Prop := fun k j => (k = 70 ∧ (j = 2))
theorem fr_Past_clear  {W : Nat → Int → Prop} {M0 : Mem} (hW : ∀ k j, (W_Past_clear) k j → W k j)  {M : Mem} (h : Fr W M0 M) : Fr W M0 (t_Past_clear M) := by
  show Pl (fun r => Fr W M0 r) (t_Past_clear M)
  unfold t_Past_clear
  refine pl_let (fun M1 e_M1 => ?_)
  have h_M1 : Fr W M0 M1 := by rw [e_M1]; exact Fr.setI h (hW _ _ ⟨rfl, rfl⟩)
  exact h_M1
def W_Notes_clear : Nat → Int → Prop := fun k j => (k = 172 ∧ (j = 5 ∨ j = 6))
theorem fr_Notes_clear  {W : Nat → Int → Prop} {M0 : Mem} (hW : ∀ k j, (W_Notes_clear) k j → W k j)  {M : Mem} (h : Fr W M0 M) : Fr W M0 (t_Notes_clear M) := by
  show Pl (fun r => Fr W M0 r) (t_Notes_clear M)
  unfold t_Notes_clear
  refine pl_let (fun M1 e_M1 => ?_)
  have h_M1 : Fr W M0 M1 := by rw [e_M1]; exact Fr.setI h (hW _ _ ⟨rfl, (Or.inl rfl)⟩)
  refine pl_let (fun M2 e_M2 => ?_)
  have h_M2 : Fr W M0 M2 := by rw [e_M2]; exact Fr.setI h_M1 (hW _ _ ⟨rfl, (Or.inr rfl)⟩)
  exact h_M2
def W_WF_startAnew : Nat → Int → Prop := fun k j => (k = 0 ∧ (j = 13)) ∨ (k = 172 ∧ (j = 5 ∨ j = 6)) ∨ (k = 177 ∧ (j = 8)) ∨ (k = 47 ∧ (j = 4 ∨ j = 5 ∨ j = 6)) ∨ k = 48 ∨ k = 49 ∨ k = 50 ∨ k = 51 ∨ (k = 62 ∧ (j = 3 ∨ j = 4 ∨ j = 5)) ∨ (k = 70 ∧ (j = 2))
theorem fr_WF_startAnew  {W : Nat → Int → Prop} {M0 : Mem} (hW : ∀ k j, (W_WF_startAnew) k j → W k j)  {M : Mem} (h : Fr W M0 M) : Post (fun r => Fr W M0 r) (t_WF_startAnew M) := by
  unfold t_WF_startAnew
  refine post_bind (Q := fun r => Fr W M0 r) (fr_Scene_begin (fun k j hk => hW k j (Or.elim hk (fun h => (Or.inr (Or.inr (Or.inr (Or.inl ⟨(h).1, (Or.elim (h).2 (fun h => (Or.inl h)) (fun h => (Or.elim h (fun h => (Or.inr (Or.inl h))) (fun h => (Or.inr (Or.inr h))))))⟩))))) (fun h => (Or.elim h (fun h => (Or.inr (Or.inr (Or.inr (Or.inr (Or.inl h)))))) (fun h => (Or.elim h (fun h => (Or.inr (Or.inr (Or.inr (Or.inr (Or.inr (Or.inl h))))))) (fun h => (Or.elim h (fun h => (Or.inr (Or.inr (Or.inr (Or.inr (Or.inr (Or.inr (Or.inl h)))))))) (fun h => (Or.inr (Or.inr (Or.inr (Or.inr (Or.inr (Or.inr (Or.inr (Or.inl h)))))))))))))))))  h) (fun q2 h_q2 => ?_)
  refine post_let (fun q5 e_q5 => ?_)
  have h_q5 : Fr W M0 q5 := by rw [e_q5]; exact (fr_Chronicle_begin (fun k j hk => hW k j (Or.inr (Or.inr (Or.inr (Or.inr (Or.inr (Or.inr (Or.inr (Or.inr (Or.inl ⟨(hk).1, (Or.elim (hk).2 (fun h => (Or.inl h)) (fun h => (Or.elim h (fun h => (Or.inr (Or.inl h))) (fun h => (Or.inr (Or.inr h))))))⟩))))))))))  h_q2)
  refine post_let (fun M7 e_M7 => ?_)
  have h_M7 : Fr W M0 M7 := by rw [e_M7]; exact Fr.setI h_q5 (hW _ _ (Or.inl ⟨rfl, rfl⟩))
  refine post_let (fun q8 e_q8 => ?_)
  have h_q8 : Fr W M0 q8 := by rw [e_q8]; exact (fr_Past_clear (fun k j hk => hW k j (Or.inr (Or.inr (Or.inr (Or.inr (Or.inr (Or.inr (Or.inr (Or.inr (Or.inr ⟨(hk).1, (hk).2⟩))))))))))  h_M7)
  refine post_let (fun q10 e_q10 => ?_)
  have h_q10 : Fr W M0 q10 := by rw [e_q10]; exact (fr_Notes_clear (fun k j hk => hW k j (Or.inr (Or.inl ⟨(hk).1, (Or.elim (hk).2 (fun h => (Or.inl h)) (fun h => (Or.inr h)))⟩)))  h_q8)
  refine post_let (fun M12 e_M12 => ?_)
  have h_M12 : Fr W M0 M12 := by rw [e_M12]; exact Fr.setI h_q10 (hW _ _ (Or.inr (Or.inr (Or.inl ⟨rfl, rfl⟩))))
  exact post_some h_M12
def W_WF_feedFour_L3 : Nat → Int → Prop := fun k j => (k = 0 ∧ (j = 1)) ∨ k = 1
theorem fr_WF_feedFour_L3 {x1 : Int} {W : Nat → Int → Prop} {M0 : Mem} (hW : ∀ k j, (W_WF_feedFour_L3) k j → W k j)  : ∀ (fu : Nat) (M : Mem) (v2_ : Int), Fr W M0 M → Post (fun r => Fr W M0 r) (t_WF_feedFour_L3 x1 fu M v2_) := by
  intro fu
  induction fu with
  | zero => intro M v2_ h; exact post_none
  | succ fu ih =>
    intro M v2_ h
    rw [t_WF_feedFour_L3]
    refine post_ite (fun c_1 => ?_) (fun c_1 => ?_)
    · exact post_some h
    · refine post_let (fun q3 e_q3 => ?_)
      have h_q3 : Fr W M0 q3 := by rw [e_q3]; exact (fr_WF_put (fun k j hk => hW k j (Or.inr hk))  h)
      refine post_let (fun M6 e_M6 => ?_)
      have h_M6 : Fr W M0 M6 := by rw [e_M6]; exact Fr.setI h_q3 (hW _ _ (Or.inl ⟨rfl, rfl⟩))
      exact (ih _ _ h_M6)
def W_WF_feedFour : Nat → Int → Prop := fun k j => (k = 0 ∧ (j = 1)) ∨ k = 1
theorem fr_WF_feedFour {x1 : Int} {W : Nat → Int → Prop} {M0 : Mem} (hW : ∀ k j, (W_WF_feedFour) k j → W k j)  {M : Mem} (h : Fr W M0 M) : Post (fun r => Fr W M0 r) (t_WF_feedFour M x1) := by
  unfold t_WF_feedFour
  exact (fr_WF_feedFour_L3 (fun k j hk => hW k j (Or.elim hk (fun h => (Or.inl ⟨(h).1, (h).2⟩)) (fun h => (Or.inr h))))  _ _ _ h)
def W_WF_feed : Nat → Int → Prop := fun k j => (k = 0 ∧ (j = 1)) ∨ k = 1
theorem fr_WF_feed {x1 : Int} {x2 : Int} {x3 : Int} {x4 : Int} {x5 : Int} {W : Nat → Int → Prop} {M0 : Mem} (hW : ∀ k j, (W_WF_feed) k j → W k j)  {M : Mem} (h : Fr W M0 M) : Post (fun r => Fr W M0 r.1) (t_WF_feed M x1 x2 x3 x4 x5) := by
  unfold t_WF_feed
  refine post_ite (fun c_1 => ?_) (fun c_1 => ?_)
  · refine post_bind (Q := fun r => Fr W M0 r) (fr_WF_feedFour (fun k j hk => hW k j (Or.elim hk (fun h => (Or.inl ⟨(h).1, (h).2⟩)) (fun h => (Or.inr h))))  h) (fun q3 h_q3 => ?_)
    refine post_bind (Q := fun r => Fr W M0 r) (fr_WF_feedFour (fun k j hk => hW k j (Or.elim hk (fun h => (Or.inl ⟨(h).1, (h).2⟩)) (fun h => (Or.inr h))))  h_q3) (fun q5 h_q5 => ?_)
    refine post_bind (Q := fun r => Fr W M0 r) (fr_WF_feedFour (fun k j hk => hW k j (Or.elim hk (fun h => (Or.inl ⟨(h).1, (h).2⟩)) (fun h => (Or.inr h))))  h_q5) (fun q7 h_q7 => ?_)
    refine post_bind (Q := fun r => Fr W M0 r) (fr_WF_feedFour (fun k j hk => hW k j (Or.elim hk (fun h => (Or.inl ⟨(h).1, (h).2⟩)) (fun h => (Or.inr h))))  h_q7) (fun q9 h_q9 => ?_)
    refine post_bind (Q := fun r => Fr W M0 r) (fr_WF_feedFour (fun k j hk => hW k j (Or.elim hk (fun h => (Or.inl ⟨(h).1, (h).2⟩)) (fun h => (Or.inr h))))  h_q9) (fun q11 h_q11 => ?_)
    exact post_some h_q11
  · exact post_some h
def W_Tokens_add : Nat → Int → Prop := fun k j => (k = 42 ∧ (j = 3)) ∨ k = 43 ∨ k = 44 ∨ k = 45
theorem fr_Tokens_add {x1 : Int} {x2 : Int} {x3 : Int} {W : Nat → Int → Prop} {M0 : Mem} (hW : ∀ k j, (W_Tokens_add) k j → W k j)  {M : Mem} (h : Fr W M0 M) : Fr W M0 (t_Tokens_add M x1 x2 x3) := by
  show Pl (fun r => Fr W M0 r) (t_Tokens_add M x1 x2 x3)
  unfold t_Tokens_add
  refine pl_let (fun q2 e_q2 => ?_)
  have h_q2 : Fr W M0 q2 := by rw [e_q2]; exact (fr_WF_put (fun k j hk => hW k j (Or.inr (Or.inl hk)))  h)
  refine pl_let (fun q5 e_q5 => ?_)
  have h_q5 : Fr W M0 q5 := by rw [e_q5]; exact (fr_WF_put (fun k j hk => hW k j (Or.inr (Or.inr (Or.inl hk))))  h_q2)
  refine pl_let (fun q8 e_q8 => ?_)
  have h_q8 : Fr W M0 q8 := by rw [e_q8]; exact (fr_WF_put (fun k j hk => hW k j (Or.inr (Or.inr (Or.inr hk))))  h_q5)
  refine pl_let (fun M11 e_M11 => ?_)
  have h_M11 : Fr W M0 M11 := by rw [e_M11]; exact Fr.setI h_q8 (hW _ _ (Or.inl ⟨rfl, rfl⟩))
  exact h_M11
def W_Tokens_scanWord_L58 : Nat → Int → Prop := fun k j => False
theorem fr_Tokens_scanWord_L58 {r1 : Nat} {N1 : Nat} {x2 : Int} {x3 : Int} {bk6 : Mem → Int → Int → Option (Mem × Int)} {v4_ : Int} {v5_ : Int} {W : Nat → Int → Prop} {M0 : Mem} (hW : ∀ k j, (W_Tokens_scanWord_L58) k j → W k j) (hbk6 : ∀ (a0_ : Mem) (a1_ : Int) (a2_ : Int), Fr W M0 a0_ → Post (fun r => Fr W M0 r.1) (bk6 a0_ a1_ a2_)) {M : Mem} (h : Fr W M0 M) : Post (fun r => Fr W M0 r.1) (t_Tokens_scanWord_L58 r1 N1 x2 x3 bk6 M v4_ v5_) := by
  unfold t_Tokens_scanWord_L58
  exact hbk6 _ _ _ h
def W_Tokens_scanWord_L108 : Nat → Int → Prop := fun k j => (k = 42 ∧ (j = 3)) ∨ k = 43 ∨ k = 44 ∨ k = 45
theorem fr_Tokens_scanWord_L108 {r1 : Nat} {N1 : Nat} {x2 : Int} {x3 : Int} {v1_ : Int} {v2_ : Int} {v4_ : Int} {W : Nat → Int → Prop} {M0 : Mem} (hW : ∀ k j, (W_Tokens_scanWord_L108) k j → W k j)  {M : Mem} (h : Fr W M0 M) : Post (fun r => Fr W M0 r.1) (t_Tokens_scanWord_L108 r1 N1 x2 x3 M v1_ v2_ v4_) := by
  unfold t_Tokens_scanWord_L108
  refine post_let (fun q16 e_q16 => ?_)
  have h_q16 : Fr W M0 q16 := by rw [e_q16]; exact (fr_Tokens_add (fun k j hk => hW k j (Or.elim hk (fun h => (Or.inl ⟨(h).1, (h).2⟩)) (fun h => (Or.elim h (fun h => (Or.inr (Or.inl h))) (fun h => (Or.elim h (fun h => (Or.inr (Or.inr (Or.inl h)))) (fun h => (Or.inr (Or.inr (Or.inr h))))))))))  h)
  exact post_some h_q16
def W_Tokens_scanWord_L64 : Nat → Int → Prop := fun k j => (k = 42 ∧ (j = 3)) ∨ k = 43 ∨ k = 44 ∨ k = 45
theorem fr_Tokens_scanWord_L64 {r1 : Nat} {N1 : Nat} {x2 : Int} {x3 : Int} {v3_ : Int} {v4_ : Int} {W : Nat → Int → Prop} {M0 : Mem} (hW : ∀ k j, (W_Tokens_scanWord_L64) k j → W k j)  {M : Mem} (h : Fr W M0 M) : Post (fun r => Fr W M0 r.1) (t_Tokens_scanWord_L64 r1 N1 x2 x3 M v3_ v4_) := by
  unfold t_Tokens_scanWord_L64
  refine post_bindv (fun q10 => ?_)
  refine post_ite (fun c_1 => ?_) (fun c_1 => ?_)
  · refine post_ite (fun c_2 => ?_) (fun c_2 => ?_)
    · exact (fr_Tokens_scanWord_L108 (fun k j hk => hW k j (Or.elim hk (fun h => (Or.inl ⟨(h).1, (h).2⟩)) (fun h => (Or.elim h (fun h => (Or.inr (Or.inl h))) (fun h => (Or.elim h (fun h => (Or.inr (Or.inr (Or.inl h)))) (fun h => (Or.inr (Or.inr (Or.inr h))))))))))  h)
    · exact (fr_Tokens_scanWord_L108 (fun k j hk => hW k j (Or.elim hk (fun h => (Or.inl ⟨(h).1, (h).2⟩)) (fun h => (Or.elim h (fun h => (Or.inr (Or.inl h))) (fun h => (Or.elim h (fun h => (Or.inr (Or.inr (Or.inl h)))) (fun h => (Or.inr (Or.inr (Or.inr h))))))))))  h)
  · refine post_let (fun q14 e_q14 => ?_)
    have h_q14 : Fr W M0 q14 := by rw [e_q14]; exact (fr_Tokens_add (fun k j hk => hW k j (Or.elim hk (fun h => (Or.inl ⟨(h).1, (h).2⟩)) (fun h => (Or.elim h (fun h => (Or.inr (Or.inl h))) (fun h => (Or.elim h (fun h => (Or.inr (Or.inr (Or.inl h)))) (fun h => (Or.inr (Or.inr (Or.inr h))))))))))  h)
    exact post_some h_q14
def W_Tokens_scanWord_L6 : Nat → Int → Prop := fun k j => (k = 42 ∧ (j = 3)) ∨ k = 43 ∨ k = 44 ∨ k = 45
theorem fr_Tokens_scanWord_L6 {r1 : Nat} {N1 : Nat} {x2 : Int} {x3 : Int} {W : Nat → Int → Prop} {M0 : Mem} (hW : ∀ k j, (W_Tokens_scanWord_L6) k j → W k j)  : ∀ (fu : Nat) (M : Mem) (v4_ : Int) (v5_ : Int), Fr W M0 M → Post (fun r => Fr W M0 r.1) (t_Tokens_scanWord_L6 r1 N1 x2 x3 fu M v4_ v5_) := by
  intro fu
  induction fu with
  | zero => intro M v4_ v5_ h; exact post_none
  | succ fu ih =>
    intro M v4_ v5_ h
    rw [t_Tokens_scanWord_L6]
    refine post_ite (fun c_1 => ?_) (fun c_1 => ?_)
    · exact (fr_Tokens_scanWord_L64 (fun k j hk => hW k j (Or.elim hk (fun h => (Or.inl ⟨(h).1, (h).2⟩)) (fun h => (Or.elim h (fun h => (Or.inr (Or.inl h))) (fun h => (Or.elim h (fun h => (Or.inr (Or.inr (Or.inl h)))) (fun h => (Or.inr (Or.inr (Or.inr h))))))))))  h)
    · refine post_let (fun q2 _ => ?_)
      refine post_let (fun q4 _ => ?_)
      refine post_ite (fun c_2 => ?_) (fun c_2 => ?_)
      · exact (fr_Tokens_scanWord_L64 (fun k j hk => hW k j (Or.elim hk (fun h => (Or.inl ⟨(h).1, (h).2⟩)) (fun h => (Or.elim h (fun h => (Or.inr (Or.inl h))) (fun h => (Or.elim h (fun h => (Or.inr (Or.inr (Or.inl h)))) (fun h => (Or.inr (Or.inr (Or.inr h))))))))))  h)
      · refine post_ite (fun c_3 => ?_) (fun c_3 => ?_)
        · exact (fr_Tokens_scanWord_L58 (fun k j hk => hk.elim) (fun a0_ a1_ a2_ h9 => ih a0_ a1_ a2_ h9) h)
        · refine post_let (fun q8 _ => ?_)
          exact (fr_Tokens_scanWord_L58 (fun k j hk => hk.elim) (fun a0_ a1_ a2_ h9 => ih a0_ a1_ a2_ h9) h)
def W_Tokens_scanWord : Nat → Int → Prop := fun k j => (k = 42 ∧ (j = 3)) ∨ k = 43 ∨ k = 44 ∨ k = 45
theorem fr_Tokens_scanWord {r1 : Nat} {N1 : Nat} {x2 : Int} {x3 : Int} {W : Nat → Int → Prop} {M0 : Mem} (hW : ∀ k j, (W_Tokens_scanWord) k j → W k j)  {M : Mem} (h : Fr W M0 M) : Post (fun r => Fr W M0 r.1) (t_Tokens_scanWord M r1 N1 x2 x3) := by
  unfold t_Tokens_scanWord
  exact (fr_Tokens_scanWord_L6 (fun k j hk => hW k j (Or.elim hk (fun h => (Or.inl ⟨(h).1, (h).2⟩)) (fun h => (Or.elim h (fun h => (Or.inr (Or.inl h))) (fun h => (Or.elim h (fun h => (Or.inr (Or.inr (Or.inl h)))) (fun h => (Or.inr (Or.inr (Or.inr h))))))))))  _ _ _ _ h)
def W_Tokens_scanNumber_L52 : Nat → Int → Prop := fun k j => (k = 42 ∧ (j = 3)) ∨ k = 43 ∨ k = 44 ∨ k = 45
theorem fr_Tokens_scanNumber_L52 {r1 : Nat} {N1 : Nat} {x2 : Int} {x3 : Int} {v2_ : Int} {v3_ : Int} {W : Nat → Int → Prop} {M0 : Mem} (hW : ∀ k j, (W_Tokens_scanNumber_L52) k j → W k j)  {M : Mem} (h : Fr W M0 M) : Post (fun r => Fr W M0 r.1) (t_Tokens_scanNumber_L52 r1 N1 x2 x3 M v2_ v3_) := by
  unfold t_Tokens_scanNumber_L52
  refine post_let (fun q9 e_q9 => ?_)
  have h_q9 : Fr W M0 q9 := by rw [e_q9]; exact (fr_Tokens_add (fun k j hk => hW k j (Or.elim hk (fun h => (Or.inl ⟨(h).1, (h).2⟩)) (fun h => (Or.elim h (fun h => (Or.inr (Or.inl h))) (fun h => (Or.elim h (fun h => (Or.inr (Or.inr (Or.inl h)))) (fun h => (Or.inr (Or.inr (Or.inr h))))))))))  h)
  exact post_some h_q9
def W_Tokens_scanNumber_L6 : Nat → Int → Prop := fun k j => (k = 42 ∧ (j = 3)) ∨ k = 43 ∨ k = 44 ∨ k = 45
theorem fr_Tokens_scanNumber_L6 {r1 : Nat} {N1 : Nat} {x2 : Int} {x3 : Int} {W : Nat → Int → Prop} {M0 : Mem} (hW : ∀ k j, (W_Tokens_scanNumber_L6) k j → W k j)  : ∀ (fu : Nat) (M : Mem) (v4_ : Int) (v5_ : Int), Fr W M0 M → Post (fun r => Fr W M0 r.1) (t_Tokens_scanNumber_L6 r1 N1 x2 x3 fu M v4_ v5_) := by
  intro fu
  induction fu with
  | zero => intro M v4_ v5_ h; exact post_none
  | succ fu ih =>
    intro M v4_ v5_ h
    rw [t_Tokens_scanNumber_L6]
    refine post_ite (fun c_1 => ?_) (fun c_1 => ?_)
    · exact (fr_Tokens_scanNumber_L52 (fun k j hk => hW k j (Or.elim hk (fun h => (Or.inl ⟨(h).1, (h).2⟩)) (fun h => (Or.elim h (fun h => (Or.inr (Or.inl h))) (fun h => (Or.elim h (fun h => (Or.inr (Or.inr (Or.inl h)))) (fun h => (Or.inr (Or.inr (Or.inr h))))))))))  h)
    · refine post_let (fun q2 _ => ?_)
      refine post_let (fun q4 _ => ?_)
      refine post_ite (fun c_2 => ?_) (fun c_2 => ?_)
      · exact (fr_Tokens_scanNumber_L52 (fun k j hk => hW k j (Or.elim hk (fun h => (Or.inl ⟨(h).1, (h).2⟩)) (fun h => (Or.elim h (fun h => (Or.inr (Or.inl h))) (fun h => (Or.elim h (fun h => (Or.inr (Or.inr (Or.inl h)))) (fun h => (Or.inr (Or.inr (Or.inr h))))))))))  h)
      · refine post_let (fun q7 _ => ?_)
        exact (ih _ _ _ h)
def W_Tokens_scanNumber : Nat → Int → Prop := fun k j => (k = 42 ∧ (j = 3)) ∨ k = 43 ∨ k = 44 ∨ k = 45
theorem fr_Tokens_scanNumber {r1 : Nat} {N1 : Nat} {x2 : Int} {x3 : Int} {W : Nat → Int → Prop} {M0 : Mem} (hW : ∀ k j, (W_Tokens_scanNumber) k j → W k j)  {M : Mem} (h : Fr W M0 M) : Post (fun r => Fr W M0 r.1) (t_Tokens_scanNumber M r1 N1 x2 x3) := by
  unfold t_Tokens_scanNumber
  exact (fr_Tokens_scanNumber_L6 (fun k j hk => hW k j (Or.elim hk (fun h => (Or.inl ⟨(h).1, (h).2⟩)) (fun h => (Or.elim h (fun h => (Or.inr (Or.inl h))) (fun h => (Or.elim h (fun h => (Or.inr (Or.inr (Or.inl h)))) (fun h => (Or.inr (Or.inr (Or.inr h))))))))))  _ _ _ _ h)
def W_Tokens_scanSign_L39 : Nat → Int → Prop := fun k j => (k = 42 ∧ (j = 3)) ∨ k = 43 ∨ k = 44 ∨ k = 45
theorem fr_Tokens_scanSign_L39 {x1 : Int} {x2 : Int} {x3 : Int} {v2_ : Int} {W : Nat → Int → Prop} {M0 : Mem} (hW : ∀ k j, (W_Tokens_scanSign_L39) k j → W k j)  {M : Mem} (h : Fr W M0 M) : Fr W M0 (t_Tokens_scanSign_L39 x1 x2 x3 M v2_).1 := by
  show Pl (fun r => Fr W M0 r.1) (t_Tokens_scanSign_L39 x1 x2 x3 M v2_)
  unfold t_Tokens_scanSign_L39
  refine pl_let (fun q13 e_q13 => ?_)
  have h_q13 : Fr W M0 q13 := by rw [e_q13]; exact (fr_Tokens_add (fun k j hk => hW k j (Or.elim hk (fun h => (Or.inl ⟨(h).1, (h).2⟩)) (fun h => (Or.elim h (fun h => (Or.inr (Or.inl h))) (fun h => (Or.elim h (fun h => (Or.inr (Or.inr (Or.inl h)))) (fun h => (Or.inr (Or.inr (Or.inr h))))))))))  h)
  exact h_q13
def W_Tokens_scanSign_L25 : Nat → Int → Prop := fun k j => (k = 42 ∧ (j = 3)) ∨ k = 43 ∨ k = 44 ∨ k = 45
theorem fr_Tokens_scanSign_L25 {x1 : Int} {x2 : Int} {x3 : Int} {W : Nat → Int → Prop} {M0 : Mem} (hW : ∀ k j, (W_Tokens_scanSign_L25) k j → W k j)  {M : Mem} (h : Fr W M0 M) : Fr W M0 (t_Tokens_scanSign_L25 x1 x2 x3 M).1 := by
  show Pl (fun r => Fr W M0 r.1) (t_Tokens_scanSign_L25 x1 x2 x3 M)
  unfold t_Tokens_scanSign_L25
  refine pl_ite (fun c_1 => ?_) (fun c_1 => ?_)
  · exact (fr_Tokens_scanSign_L39 (fun k j hk => hW k j (Or.elim hk (fun h => (Or.inl ⟨(h).1, (h).2⟩)) (fun h => (Or.elim h (fun h => (Or.inr (Or.inl h))) (fun h => (Or.elim h (fun h => (Or.inr (Or.inr (Or.inl h)))) (fun h => (Or.inr (Or.inr (Or.inr h))))))))))  h)
  · exact (fr_Tokens_scanSign_L39 (fun k j hk => hW k j (Or.elim hk (fun h => (Or.inl ⟨(h).1, (h).2⟩)) (fun h => (Or.elim h (fun h => (Or.inr (Or.inl h))) (fun h => (Or.elim h (fun h => (Or.inr (Or.inr (Or.inl h)))) (fun h => (Or.inr (Or.inr (Or.inr h))))))))))  h)
def W_Tokens_scanSign_L73 : Nat → Int → Prop := fun k j => (k = 42 ∧ (j = 3)) ∨ k = 43 ∨ k = 44 ∨ k = 45
theorem fr_Tokens_scanSign_L73 {x1 : Int} {x2 : Int} {x3 : Int} {v2_ : Int} {W : Nat → Int → Prop} {M0 : Mem} (hW : ∀ k j, (W_Tokens_scanSign_L73) k j → W k j)  {M : Mem} (h : Fr W M0 M) : Fr W M0 (t_Tokens_scanSign_L73 x1 x2 x3 M v2_).1 := by
  show Pl (fun r => Fr W M0 r.1) (t_Tokens_scanSign_L73 x1 x2 x3 M v2_)
  unfold t_Tokens_scanSign_L73
  refine pl_let (fun q11 e_q11 => ?_)
  have h_q11 : Fr W M0 q11 := by rw [e_q11]; exact (fr_Tokens_add (fun k j hk => hW k j (Or.elim hk (fun h => (Or.inl ⟨(h).1, (h).2⟩)) (fun h => (Or.elim h (fun h => (Or.inr (Or.inl h))) (fun h => (Or.elim h (fun h => (Or.inr (Or.inr (Or.inl h)))) (fun h => (Or.inr (Or.inr (Or.inr h))))))))))  h)
  exact h_q11
def W_Tokens_scanSign_L48 : Nat → Int → Prop := fun k j => (k = 42 ∧ (j = 3)) ∨ k = 43 ∨ k = 44 ∨ k = 45
theorem fr_Tokens_scanSign_L48 {x1 : Int} {x2 : Int} {x3 : Int} {v3_ : Int} {W : Nat → Int → Prop} {M0 : Mem} (hW : ∀ k j, (W_Tokens_scanSign_L48) k j → W k j)  {M : Mem} (h : Fr W M0 M) : Fr W M0 (t_Tokens_scanSign_L48 x1 x2 x3 M v3_).1 := by
  show Pl (fun r => Fr W M0 r.1) (t_Tokens_scanSign_L48 x1 x2 x3 M v3_)
  unfold t_Tokens_scanSign_L48
  refine pl_ite (fun c_1 => ?_) (fun c_1 => ?_)
  · refine pl_ite (fun c_2 => ?_) (fun c_2 => ?_)
    · refine pl_let (fun q8 e_q8 => ?_)
      have h_q8 : Fr W M0 q8 := by rw [e_q8]; exact (fr_Tokens_add (fun k j hk => hW k j (Or.elim hk (fun h => (Or.inl ⟨(h).1, (h).2⟩)) (fun h => (Or.elim h (fun h => (Or.inr (Or.inl h))) (fun h => (Or.elim h (fun h => (Or.inr (Or.inr (Or.inl h)))) (fun h => (Or.inr (Or.inr (Or.inr h))))))))))  h)
      exact h_q8
    · exact (fr_Tokens_scanSign_L73 (fun k j hk => hW k j (Or.elim hk (fun h => (Or.inl ⟨(h).1, (h).2⟩)) (fun h => (Or.elim h (fun h => (Or.inr (Or.inl h))) (fun h => (Or.elim h (fun h => (Or.inr (Or.inr (Or.inl h)))) (fun h => (Or.inr (Or.inr (Or.inr h))))))))))  h)
  · exact (fr_Tokens_scanSign_L73 (fun k j hk => hW k j (Or.elim hk (fun h => (Or.inl ⟨(h).1, (h).2⟩)) (fun h => (Or.elim h (fun h => (Or.inr (Or.inl h))) (fun h => (Or.elim h (fun h => (Or.inr (Or.inr (Or.inl h)))) (fun h => (Or.inr (Or.inr (Or.inr h))))))))))  h)
def W_Tokens_scanSign : Nat → Int → Prop := fun k j => (k = 42 ∧ (j = 3)) ∨ k = 43 ∨ k = 44 ∨ k = 45
theorem fr_Tokens_scanSign {x1 : Int} {x2 : Int} {x3 : Int} {W : Nat → Int → Prop} {M0 : Mem} (hW : ∀ k j, (W_Tokens_scanSign) k j → W k j)  {M : Mem} (h : Fr W M0 M) : Fr W M0 (t_Tokens_scanSign M x1 x2 x3).1 := by
  show Pl (fun r => Fr W M0 r.1) (t_Tokens_scanSign M x1 x2 x3)
  unfold t_Tokens_scanSign
  refine pl_let (fun q1 _ => ?_)
  refine pl_ite (fun c_1 => ?_) (fun c_1 => ?_)
  · refine pl_ite (fun c_2 => ?_) (fun c_2 => ?_)
    · exact (fr_Tokens_scanSign_L25 (fun k j hk => hW k j (Or.elim hk (fun h => (Or.inl ⟨(h).1, (h).2⟩)) (fun h => (Or.elim h (fun h => (Or.inr (Or.inl h))) (fun h => (Or.elim h (fun h => (Or.inr (Or.inr (Or.inl h)))) (fun h => (Or.inr (Or.inr (Or.inr h))))))))))  h)
    · refine pl_ite (fun c_3 => ?_) (fun c_3 => ?_)
      · exact (fr_Tokens_scanSign_L25 (fun k j hk => hW k j (Or.elim hk (fun h => (Or.inl ⟨(h).1, (h).2⟩)) (fun h => (Or.elim h (fun h => (Or.inr (Or.inl h))) (fun h => (Or.elim h (fun h => (Or.inr (Or.inr (Or.inl h)))) (fun h => (Or.inr (Or.inr (Or.inr h))))))))))  h)
      · exact (fr_Tokens_scanSign_L48 (fun k j hk => hW k j (Or.elim hk (fun h => (Or.inl ⟨(h).1, (h).2⟩)) (fun h => (Or.elim h (fun h => (Or.inr (Or.inl h))) (fun h => (Or.elim h (fun h => (Or.inr (Or.inr (Or.inl h)))) (fun h => (Or.inr (Or.inr (Or.inr h))))))))))  h)
  · exact (fr_Tokens_scanSign_L48 (fun k j hk => hW k j (Or.elim hk (fun h => (Or.inl ⟨(h).1, (h).2⟩)) (fun h => (Or.elim h (fun h => (Or.inr (Or.inl h))) (fun h => (Or.elim h (fun h => (Or.inr (Or.inr (Or.inl h)))) (fun h => (Or.inr (Or.inr (Or.inr h))))))))))  h)
def W_Tokens_scan_L114 : Nat → Int → Prop := fun k j => False
theorem fr_Tokens_scan_L114 {r1 : Nat} {N1 : Nat} {x2 : Int} {bk10 : Mem → Int → Int → Option (Mem)} {v3_ : Int} {v4_ : Int} {W : Nat → Int → Prop} {M0 : Mem} (hW : ∀ k j, (W_Tokens_scan_L114) k j → W k j) (hbk10 : ∀ (a0_ : Mem) (a1_ : Int) (a2_ : Int), Fr W M0 a0_ → Post (fun r => Fr W M0 r) (bk10 a0_ a1_ a2_)) {M : Mem} (h : Fr W M0 M) : Post (fun r => Fr W M0 r) (t_Tokens_scan_L114 r1 N1 x2 bk10 M v3_ v4_) := by
  unfold t_Tokens_scan_L114
  exact hbk10 _ _ _ h
def W_Tokens_scan_L44 : Nat → Int → Prop := fun k j => False
theorem fr_Tokens_scan_L44 {r1 : Nat} {N1 : Nat} {x2 : Int} {bk10 : Mem → Int → Int → Option (Mem)} {v3_ : Int} {v4_ : Int} {W : Nat → Int → Prop} {M0 : Mem} (hW : ∀ k j, (W_Tokens_scan_L44) k j → W k j) (hbk10 : ∀ (a0_ : Mem) (a1_ : Int) (a2_ : Int), Fr W M0 a0_ → Post (fun r => Fr W M0 r) (bk10 a0_ a1_ a2_)) {M : Mem} (h : Fr W M0 M) : Post (fun r => Fr W M0 r) (t_Tokens_scan_L44 r1 N1 x2 bk10 M v3_ v4_) := by
  unfold t_Tokens_scan_L44
  exact (fr_Tokens_scan_L114 (fun k j hk => hk.elim) hbk10 h)
def W_Tokens_scan_L109 : Nat → Int → Prop := fun k j => (k = 42 ∧ (j = 3)) ∨ k = 43 ∨ k = 44 ∨ k = 45
theorem fr_Tokens_scan_L109 {r1 : Nat} {N1 : Nat} {x2 : Int} {bk10 : Mem → Int → Int → Option (Mem)} {v3_ : Int} {v4_ : Int} {v6_ : Int} {v7_ : Int} {W : Nat → Int → Prop} {M0 : Mem} (hW : ∀ k j, (W_Tokens_scan_L109) k j → W k j) (hbk10 : ∀ (a0_ : Mem) (a1_ : Int) (a2_ : Int), Fr W M0 a0_ → Post (fun r => Fr W M0 r) (bk10 a0_ a1_ a2_)) {M : Mem} (h : Fr W M0 M) : Post (fun r => Fr W M0 r) (t_Tokens_scan_L109 r1 N1 x2 bk10 M v3_ v4_ v6_ v7_) := by
  unfold t_Tokens_scan_L109
  refine post_let (fun q23 e_q23 => ?_)
  have h_q23 : Fr W M0 q23.1 := by rw [e_q23]; exact (fr_Tokens_scanSign (fun k j hk => hW k j (Or.elim hk (fun h => (Or.inl ⟨(h).1, (h).2⟩)) (fun h => (Or.elim h (fun h => (Or.inr (Or.inl h))) (fun h => (Or.elim h (fun h => (Or.inr (Or.inr (Or.inl h)))) (fun h => (Or.inr (Or.inr (Or.inr h))))))))))  h)
  exact (fr_Tokens_scan_L114 (fun k j hk => hk.elim) hbk10 h_q23)
def W_Tokens_scan_L120 : Nat → Int → Prop := fun k j => (k = 42 ∧ (j = 3)) ∨ k = 43 ∨ k = 44 ∨ k = 45
theorem fr_Tokens_scan_L120 {r1 : Nat} {N1 : Nat} {x2 : Int} {W : Nat → Int → Prop} {M0 : Mem} (hW : ∀ k j, (W_Tokens_scan_L120) k j → W k j)  {M : Mem} (h : Fr W M0 M) : Post (fun r => Fr W M0 r) (t_Tokens_scan_L120 r1 N1 x2 M) := by
  unfold t_Tokens_scan_L120
  refine post_let (fun q21 e_q21 => ?_)
  have h_q21 : Fr W M0 q21 := by rw [e_q21]; exact (fr_Tokens_add (fun k j hk => hW k j (Or.elim hk (fun h => (Or.inl ⟨(h).1, (h).2⟩)) (fun h => (Or.elim h (fun h => (Or.inr (Or.inl h))) (fun h => (Or.elim h (fun h => (Or.inr (Or.inr (Or.inl h)))) (fun h => (Or.inr (Or.inr (Or.inr h))))))))))  h)
  exact post_some h_q21
def W_Tokens_scan_L10 : Nat → Int → Prop := fun k j => (k = 42 ∧ (j = 3)) ∨ k = 43 ∨ k = 44 ∨ k = 45
theorem fr_Tokens_scan_L10 {r1 : Nat} {N1 : Nat} {x2 : Int} {W : Nat → Int → Prop} {M0 : Mem} (hW : ∀ k j, (W_Tokens_scan_L10) k j → W k j)  : ∀ (fu : Nat) (M : Mem) (v3_ : Int) (v4_ : Int), Fr W M0 M → Post (fun r => Fr W M0 r) (t_Tokens_scan_L10 r1 N1 x2 fu M v3_ v4_) := by
  intro fu
  induction fu with
  | zero => intro M v3_ v4_ h; exact post_none
  | succ fu ih =>
    intro M v3_ v4_ h
    rw [t_Tokens_scan_L10]
    refine post_ite (fun c_1 => ?_) (fun c_1 => ?_)
    · exact (fr_Tokens_scan_L120 (fun k j hk => hW k j (Or.elim hk (fun h => (Or.inl ⟨(h).1, (h).2⟩)) (fun h => (Or.elim h (fun h => (Or.inr (Or.inl h))) (fun h => (Or.elim h (fun h => (Or.inr (Or.inr (Or.inl h)))) (fun h => (Or.inr (Or.inr (Or.inr h))))))))))  h)
    · refine post_ite (fun c_2 => ?_) (fun c_2 => ?_)
      · exact (fr_Tokens_scan_L120 (fun k j hk => hW k j (Or.elim hk (fun h => (Or.inl ⟨(h).1, (h).2⟩)) (fun h => (Or.elim h (fun h => (Or.inr (Or.inl h))) (fun h => (Or.elim h (fun h => (Or.inr (Or.inr (Or.inl h)))) (fun h => (Or.inr (Or.inr (Or.inr h))))))))))  h)
      · refine post_let (fun q4 _ => ?_)
        refine post_ite (fun c_3 => ?_) (fun c_3 => ?_)
        · exact (fr_Tokens_scan_L44 (fun k j hk => hk.elim) (fun a0_ a1_ a2_ h9 => ih a0_ a1_ a2_ h9) h)
        · refine post_ite (fun c_4 => ?_) (fun c_4 => ?_)
          · exact (fr_Tokens_scan_L44 (fun k j hk => hk.elim) (fun a0_ a1_ a2_ h9 => ih a0_ a1_ a2_ h9) h)
          · refine post_let (fun q8 _ => ?_)
            refine post_ite (fun c_5 => ?_) (fun c_5 => ?_)
            · refine post_let (fun q11 _ => ?_)
              refine post_ite (fun c_6 => ?_) (fun c_6 => ?_)
              · refine post_ite (fun c_7 => ?_) (fun c_7 => ?_)
                · exact (fr_Tokens_scan_L109 (fun k j hk => hW k j (Or.elim hk (fun h => (Or.inl ⟨(h).1, (h).2⟩)) (fun h => (Or.elim h (fun h => (Or.inr (Or.inl h))) (fun h => (Or.elim h (fun h => (Or.inr (Or.inr (Or.inl h)))) (fun h => (Or.inr (Or.inr (Or.inr h)))))))))) (fun a0_ a1_ a2_ h9 => ih a0_ a1_ a2_ h9) h)
                · refine post_let (fun q15 _ => ?_)
                  exact (fr_Tokens_scan_L109 (fun k j hk => hW k j (Or.elim hk (fun h => (Or.inl ⟨(h).1, (h).2⟩)) (fun h => (Or.elim h (fun h => (Or.inr (Or.inl h))) (fun h => (Or.elim h (fun h => (Or.inr (Or.inr (Or.inl h)))) (fun h => (Or.inr (Or.inr (Or.inr h)))))))))) (fun a0_ a1_ a2_ h9 => ih a0_ a1_ a2_ h9) h)
              · refine post_bind (Q := fun r => Fr W M0 r.1) (fr_Tokens_scanNumber (fun k j hk => hW k j (Or.elim hk (fun h => (Or.inl ⟨(h).1, (h).2⟩)) (fun h => (Or.elim h (fun h => (Or.inr (Or.inl h))) (fun h => (Or.elim h (fun h => (Or.inr (Or.inr (Or.inl h)))) (fun h => (Or.inr (Or.inr (Or.inr h))))))))))  h) (fun q17 h_q17 => ?_)
                exact (fr_Tokens_scan_L114 (fun k j hk => hk.elim) (fun a0_ a1_ a2_ h9 => ih a0_ a1_ a2_ h9) h_q17)
            · refine post_bind (Q := fun r => Fr W M0 r.1) (fr_Tokens_scanWord (fun k j hk => hW k j (Or.elim hk (fun h => (Or.inl ⟨(h).1, (h).2⟩)) (fun h => (Or.elim h (fun h => (Or.inr (Or.inl h))) (fun h => (Or.elim h (fun h => (Or.inr (Or.inr (Or.inl h)))) (fun h => (Or.inr (Or.inr (Or.inr h))))))))))  h) (fun q19 h_q19 => ?_)
              exact (fr_Tokens_scan_L114 (fun k j hk => hk.elim) (fun a0_ a1_ a2_ h9 => ih a0_ a1_ a2_ h9) h_q19)
def W_Tokens_scan : Nat → Int → Prop := fun k j => (k = 42 ∧ (j = 3)) ∨ k = 43 ∨ k = 44 ∨ k = 45
theorem fr_Tokens_scan {r1 : Nat} {N1 : Nat} {x2 : Int} {W : Nat → Int → Prop} {M0 : Mem} (hW : ∀ k j, (W_Tokens_scan) k j → W k j)  {M : Mem} (h : Fr W M0 M) : Post (fun r => Fr W M0 r) (t_Tokens_scan M r1 N1 x2) := by
  unfold t_Tokens_scan
  refine post_let (fun M1 e_M1 => ?_)
  have h_M1 : Fr W M0 M1 := by rw [e_M1]; exact Fr.setI h (hW _ _ (Or.inl ⟨rfl, rfl⟩))
  exact (fr_Tokens_scan_L10 (fun k j hk => hW k j (Or.elim hk (fun h => (Or.inl ⟨(h).1, (h).2⟩)) (fun h => (Or.elim h (fun h => (Or.inr (Or.inl h))) (fun h => (Or.elim h (fun h => (Or.inr (Or.inr (Or.inl h)))) (fun h => (Or.inr (Or.inr (Or.inr h))))))))))  _ _ _ _ h_M1)
def W_Reader_goTo_L89 : Nat → Int → Prop := fun k j => (k = 46 ∧ (j = 4))
theorem fr_Reader_goTo_L89 {x1 : Int} {v1_ : Int} {W : Nat → Int → Prop} {M0 : Mem} (hW : ∀ k j, (W_Reader_goTo_L89) k j → W k j)  {M : Mem} (h : Fr W M0 M) : Post (fun r => Fr W M0 r) (t_Reader_goTo_L89 x1 M v1_) := by
  unfold t_Reader_goTo_L89
  refine post_let (fun M18 e_M18 => ?_)
  have h_M18 : Fr W M0 M18 := by rw [e_M18]; exact Fr.setI h (hW _ _ ⟨rfl, rfl⟩)
  exact post_some h_M18
def W_Reader_goTo_L63 : Nat → Int → Prop := fun k j => (k = 46 ∧ (j = 3 ∨ j = 4))
theorem fr_Reader_goTo_L63 {x1 : Int} {v3_ : Int} {W : Nat → Int → Prop} {M0 : Mem} (hW : ∀ k j, (W_Reader_goTo_L63) k j → W k j)  {M : Mem} (h : Fr W M0 M) : Post (fun r => Fr W M0 r) (t_Reader_goTo_L63 x1 M v3_) := by
  unfold t_Reader_goTo_L63
  refine post_let (fun M13 e_M13 => ?_)
  have h_M13 : Fr W M0 M13 := by rw [e_M13]; exact Fr.setI h (hW _ _ ⟨rfl, (Or.inl rfl)⟩)
  refine post_ite (fun c_1 => ?_) (fun c_1 => ?_)
  · exact (fr_Reader_goTo_L89 (fun k j hk => hW k j ⟨(hk).1, (Or.inr (hk).2)⟩)  h_M13)
  · refine post_ite (fun c_2 => ?_) (fun c_2 => ?_)
    · exact post_none
    · refine post_let (fun q16 _ => ?_)
      exact (fr_Reader_goTo_L89 (fun k j hk => hW k j ⟨(hk).1, (Or.inr (hk).2)⟩)  h_M13)
def W_Reader_goTo_L37 : Nat → Int → Prop := fun k j => (k = 46 ∧ (j = 2 ∨ j = 3 ∨ j = 4))
theorem fr_Reader_goTo_L37 {x1 : Int} {v3_ : Int} {W : Nat → Int → Prop} {M0 : Mem} (hW : ∀ k j, (W_Reader_goTo_L37) k j → W k j)  {M : Mem} (h : Fr W M0 M) : Post (fun r => Fr W M0 r) (t_Reader_goTo_L37 x1 M v3_) := by
  unfold t_Reader_goTo_L37
  refine post_let (fun M8 e_M8 => ?_)
  have h_M8 : Fr W M0 M8 := by rw [e_M8]; exact Fr.setI h (hW _ _ ⟨rfl, (Or.inl rfl)⟩)
  refine post_ite (fun c_1 => ?_) (fun c_1 => ?_)
  · exact (fr_Reader_goTo_L63 (fun k j hk => hW k j ⟨(hk).1, (Or.elim (hk).2 (fun h => (Or.inr (Or.inl h))) (fun h => (Or.inr (Or.inr h))))⟩)  h_M8)
  · refine post_ite (fun c_2 => ?_) (fun c_2 => ?_)
    · exact post_none
    · refine post_let (fun q11 _ => ?_)
      exact (fr_Reader_goTo_L63 (fun k j hk => hW k j ⟨(hk).1, (Or.elim (hk).2 (fun h => (Or.inr (Or.inl h))) (fun h => (Or.inr (Or.inr h))))⟩)  h_M8)
def W_Reader_goTo : Nat → Int → Prop := fun k j => (k = 46 ∧ (j = 1 ∨ j = 2 ∨ j = 3 ∨ j = 4 ∨ j = 5))
theorem fr_Reader_goTo {x1 : Int} {W : Nat → Int → Prop} {M0 : Mem} (hW : ∀ k j, (W_Reader_goTo) k j → W k j)  {M : Mem} (h : Fr W M0 M) : Post (fun r => Fr W M0 r) (t_Reader_goTo M x1) := by
  unfold t_Reader_goTo
  refine post_let (fun M2 e_M2 => ?_)
  have h_M2 : Fr W M0 M2 := by rw [e_M2]; exact Fr.setI h (hW _ _ ⟨rfl, (Or.inr (Or.inr (Or.inr (Or.inr rfl))))⟩)
  refine post_let (fun M3 e_M3 => ?_)
  have h_M3 : Fr W M0 M3 := by rw [e_M3]; exact Fr.setI h_M2 (hW _ _ ⟨rfl, (Or.inl rfl)⟩)
  refine post_ite (fun c_1 => ?_) (fun c_1 => ?_)
  · exact (fr_Reader_goTo_L37 (fun k j hk => hW k j ⟨(hk).1, (Or.elim (hk).2 (fun h => (Or.inr (Or.inl h))) (fun h => (Or.elim h (fun h => (Or.inr (Or.inr (Or.inl h)))) (fun h => (Or.inr (Or.inr (Or.inr (Or.inl h))))))))⟩)  h_M3)
  · refine post_ite (fun c_2 => ?_) (fun c_2 => ?_)
    · exact post_none
    · refine post_let (fun q6 _ => ?_)
      exact (fr_Reader_goTo_L37 (fun k j hk => hW k j ⟨(hk).1, (Or.elim (hk).2 (fun h => (Or.inr (Or.inl h))) (fun h => (Or.elim h (fun h => (Or.inr (Or.inr (Or.inl h)))) (fun h => (Or.inr (Or.inr (Or.inr (Or.inl h))))))))⟩)  h_M3)
def W_Reader_begin : Nat → Int → Prop := fun k j => (k = 46 ∧ (j = 0 ∨ j = 1 ∨ j = 2 ∨ j = 3 ∨ j = 4 ∨ j = 5 ∨ j = 6 ∨ j = 7 ∨ j = 8 ∨ j = 9 ∨ j = 10))
theorem fr_Reader_begin  {W : Nat → Int → Prop} {M0 : Mem} (hW : ∀ k j, (W_Reader_begin) k j → W k j)  {M : Mem} (h : Fr W M0 M) : Post (fun r => Fr W M0 r) (t_Reader_begin M) := by
  unfold t_Reader_begin
  refine post_let (fun M1 e_M1 => ?_)
  have h_M1 : Fr W M0 M1 := by rw [e_M1]; exact Fr.setI h (hW _ _ ⟨rfl, (Or.inl rfl)⟩)
  refine post_let (fun M2 e_M2 => ?_)
  have h_M2 : Fr W M0 M2 := by rw [e_M2]; exact Fr.setI h_M1 (hW _ _ ⟨rfl, (Or.inr (Or.inr (Or.inr (Or.inr (Or.inr (Or.inr (Or.inl rfl)))))))⟩)
  refine post_let (fun M3 e_M3 => ?_)
  have h_M3 : Fr W M0 M3 := by rw [e_M3]; exact Fr.setI h_M2 (hW _ _ ⟨rfl, (Or.inr (Or.inr (Or.inr (Or.inr (Or.inr (Or.inr (Or.inr (Or.inl rfl))))))))⟩)
  refine post_let (fun M4 e_M4 => ?_)
  have h_M4 : Fr W M0 M4 := by rw [e_M4]; exact Fr.setI h_M3 (hW _ _ ⟨rfl, (Or.inr (Or.inr (Or.inr (Or.inr (Or.inr (Or.inr (Or.inr (Or.inr (Or.inl rfl)))))))))⟩)
  refine post_let (fun M5 e_M5 => ?_)
  have h_M5 : Fr W M0 M5 := by rw [e_M5]; exact Fr.setI h_M4 (hW _ _ ⟨rfl, (Or.inr (Or.inr (Or.inr (Or.inr (Or.inr (Or.inr (Or.inr (Or.inr (Or.inr (Or.inl rfl))))))))))⟩)
  refine post_let (fun M6 e_M6 => ?_)
  have h_M6 : Fr W M0 M6 := by rw [e_M6]; exact Fr.setI h_M5 (hW _ _ ⟨rfl, (Or.inr (Or.inr (Or.inr (Or.inr (Or.inr (Or.inr (Or.inr (Or.inr (Or.inr (Or.inr rfl))))))))))⟩)
  refine post_let (fun M7 e_M7 => ?_)
  have h_M7 : Fr W M0 M7 := by rw [e_M7]; exact Fr.setI h_M6 (hW _ _ ⟨rfl, (Or.inr (Or.inr (Or.inr (Or.inr (Or.inl rfl)))))⟩)
  refine post_bind (Q := fun r => Fr W M0 r) (fr_Reader_goTo (fun k j hk => hW k j ⟨(hk).1, (Or.elim (hk).2 (fun h => (Or.inr (Or.inl h))) (fun h => (Or.elim h (fun h => (Or.inr (Or.inr (Or.inl h)))) (fun h => (Or.elim h (fun h => (Or.inr (Or.inr (Or.inr (Or.inl h))))) (fun h => (Or.elim h (fun h => (Or.inr (Or.inr (Or.inr (Or.inr (Or.inl h)))))) (fun h => (Or.inr (Or.inr (Or.inr (Or.inr (Or.inr (Or.inl h))))))))))))))⟩)  h_M7) (fun q8 h_q8 => ?_)
  exact post_some h_q8
def W_Reader_refuse : Nat → Int → Prop := fun k j => (k = 46 ∧ (j = 9 ∨ j = 10))
theorem fr_Reader_refuse {x1 : Int} {x2 : Int} {W : Nat → Int → Prop} {M0 : Mem} (hW : ∀ k j, (W_Reader_refuse) k j → W k j)  {M : Mem} (h : Fr W M0 M) : Fr W M0 (t_Reader_refuse M x1 x2).1 := by
  show Pl (fun r => Fr W M0 r.1) (t_Reader_refuse M x1 x2)
  unfold t_Reader_refuse
  refine pl_let (fun M1 e_M1 => ?_)
  have h_M1 : Fr W M0 M1 := by rw [e_M1]; exact Fr.setI h (hW _ _ ⟨rfl, (Or.inl rfl)⟩)
  refine pl_let (fun M2 e_M2 => ?_)
  have h_M2 : Fr W M0 M2 := by rw [e_M2]; exact Fr.setI h_M1 (hW _ _ ⟨rfl, (Or.inr rfl)⟩)
  exact h_M2
def W_Reader_take : Nat → Int → Prop := fun k j => (k = 46 ∧ (j = 1 ∨ j = 2 ∨ j = 3 ∨ j = 4 ∨ j = 5 ∨ j = 9 ∨ j = 10))
theorem fr_Reader_take {x1 : Int} {W : Nat → Int → Prop} {M0 : Mem} (hW : ∀ k j, (W_Reader_take) k j → W k j)  {M : Mem} (h : Fr W M0 M) : Post (fun r => Fr W M0 r.1) (t_Reader_take M x1) := by
  unfold t_Reader_take
  refine post_ite (fun c_1 => ?_) (fun c_1 => ?_)
  · refine post_bind (Q := fun r => Fr W M0 r) (fr_Reader_goTo (fun k j hk => hW k j ⟨(hk).1, (Or.elim (hk).2 (fun h => (Or.inl h)) (fun h => (Or.elim h (fun h => (Or.inr (Or.inl h))) (fun h => (Or.elim h (fun h => (Or.inr (Or.inr (Or.inl h)))) (fun h => (Or.elim h (fun h => (Or.inr (Or.inr (Or.inr (Or.inl h))))) (fun h => (Or.inr (Or.inr (Or.inr (Or.inr (Or.inl h)))))))))))))⟩)  h) (fun q4 h_q4 => ?_)
    exact post_some h_q4
  · refine post_let (fun q7 e_q7 => ?_)
    have h_q7 : Fr W M0 q7.1 := by rw [e_q7]; exact (fr_Reader_refuse (fun k j hk => hW k j ⟨(hk).1, (Or.elim (hk).2 (fun h => (Or.inr (Or.inr (Or.inr (Or.inr (Or.inr (Or.inl h))))))) (fun h => (Or.inr (Or.inr (Or.inr (Or.inr (Or.inr (Or.inr h))))))))⟩)  h)
    exact post_some h_q7
def W_Reader_takeNumber_L24 : Nat → Int → Prop := fun k j => (k = 46 ∧ (j = 9 ∨ j = 10))
theorem fr_Reader_takeNumber_L24 {x1 : Int} {x2 : Int} {W : Nat → Int → Prop} {M0 : Mem} (hW : ∀ k j, (W_Reader_takeNumber_L24) k j → W k j)  {M : Mem} (h : Fr W M0 M) : Post (fun r => Fr W M0 r.1) (t_Reader_takeNumber_L24 x1 x2 M) := by
  unfold t_Reader_takeNumber_L24
  refine post_let (fun q10 e_q10 => ?_)
  have h_q10 : Fr W M0 q10.1 := by rw [e_q10]; exact (fr_Reader_refuse (fun k j hk => hW k j ⟨(hk).1, (Or.elim (hk).2 (fun h => (Or.inl h)) (fun h => (Or.inr h)))⟩)  h)
  exact post_some h_q10
def W_Reader_takeNumber_L36 : Nat → Int → Prop := fun k j => (k = 46 ∧ (j = 1 ∨ j = 2 ∨ j = 3 ∨ j = 4 ∨ j = 5 ∨ j = 9 ∨ j = 10))
theorem fr_Reader_takeNumber_L36 {x1 : Int} {x2 : Int} {v1_ : Int} {W : Nat → Int → Prop} {M0 : Mem} (hW : ∀ k j, (W_Reader_takeNumber_L36) k j → W k j)  {M : Mem} (h : Fr W M0 M) : Post (fun r => Fr W M0 r.1) (t_Reader_takeNumber_L36 x1 x2 M v1_) := by
  unfold t_Reader_takeNumber_L36
  refine post_bind (Q := fun r => Fr W M0 r.1) (fr_Reader_take (fun k j hk => hW k j ⟨(hk).1, (Or.elim (hk).2 (fun h => (Or.inl h)) (fun h => (Or.elim h (fun h => (Or.inr (Or.inl h))) (fun h => (Or.elim h (fun h => (Or.inr (Or.inr (Or.inl h)))) (fun h => (Or.elim h (fun h => (Or.inr (Or.inr (Or.inr (Or.inl h))))) (fun h => (Or.elim h (fun h => (Or.inr (Or.inr (Or.inr (Or.inr (Or.inl h)))))) (fun h => (Or.elim h (fun h => (Or.inr (Or.inr (Or.inr (Or.inr (Or.inr (Or.inl h))))))) (fun h => (Or.inr (Or.inr (Or.inr (Or.inr (Or.inr (Or.inr h))))))))))))))))))⟩)  h) (fun q6 h_q6 => ?_)
  refine post_ite (fun c_1 => ?_) (fun c_1 => ?_)
  · exact post_some h_q6
  · exact post_some h_q6
def W_Reader_takeNumber : Nat → Int → Prop := fun k j => (k = 46 ∧ (j = 1 ∨ j = 2 ∨ j = 3 ∨ j = 4 ∨ j = 5 ∨ j = 9 ∨ j = 10))
theorem fr_Reader_takeNumber {x1 : Int} {x2 : Int} {W : Nat → Int → Prop} {M0 : Mem} (hW : ∀ k j, (W_Reader_takeNumber) k j → W k j)  {M : Mem} (h : Fr W M0 M) : Post (fun r => Fr W M0 r.1) (t_Reader_takeNumber M x1 x2) := by
  unfold t_Reader_takeNumber
  refine post_ite (fun c_1 => ?_) (fun c_1 => ?_)
  · refine post_ite (fun c_2 => ?_) (fun c_2 => ?_)
    · exact (fr_Reader_takeNumber_L24 (fun k j hk => hW k j ⟨(hk).1, (Or.elim (hk).2 (fun h => (Or.inr (Or.inr (Or.inr (Or.inr (Or.inr (Or.inl h))))))) (fun h => (Or.inr (Or.inr (Or.inr (Or.inr (Or.inr (Or.inr h))))))))⟩)  h)
    · refine post_ite (fun c_3 => ?_) (fun c_3 => ?_)
      · exact (fr_Reader_takeNumber_L36 (fun k j hk => hW k j ⟨(hk).1, (Or.elim (hk).2 (fun h => (Or.inl h)) (fun h => (Or.elim h (fun h => (Or.inr (Or.inl h))) (fun h => (Or.elim h (fun h => (Or.inr (Or.inr (Or.inl h)))) (fun h => (Or.elim h (fun h => (Or.inr (Or.inr (Or.inr (Or.inl h))))) (fun h => (Or.elim h (fun h => (Or.inr (Or.inr (Or.inr (Or.inr (Or.inl h)))))) (fun h => (Or.elim h (fun h => (Or.inr (Or.inr (Or.inr (Or.inr (Or.inr (Or.inl h))))))) (fun h => (Or.inr (Or.inr (Or.inr (Or.inr (Or.inr (Or.inr h))))))))))))))))))⟩)  h)
      · exact (fr_Reader_takeNumber_L24 (fun k j hk => hW k j ⟨(hk).1, (Or.elim (hk).2 (fun h => (Or.inr (Or.inr (Or.inr (Or.inr (Or.inr (Or.inl h))))))) (fun h => (Or.inr (Or.inr (Or.inr (Or.inr (Or.inr (Or.inr h))))))))⟩)  h)
  · exact (fr_Reader_takeNumber_L36 (fun k j hk => hW k j ⟨(hk).1, (Or.elim (hk).2 (fun h => (Or.inl h)) (fun h => (Or.elim h (fun h => (Or.inr (Or.inl h))) (fun h => (Or.elim h (fun h => (Or.inr (Or.inr (Or.inl h)))) (fun h => (Or.elim h (fun h => (Or.inr (Or.inr (Or.inr (Or.inl h))))) (fun h => (Or.elim h (fun h => (Or.inr (Or.inr (Or.inr (Or.inr (Or.inl h)))))) (fun h => (Or.elim h (fun h => (Or.inr (Or.inr (Or.inr (Or.inr (Or.inr (Or.inl h))))))) (fun h => (Or.inr (Or.inr (Or.inr (Or.inr (Or.inr (Or.inr h))))))))))))))))))⟩)  h)
def W_Reader_readTown_L49 : Nat → Int → Prop := fun k j => (k = 46 ∧ (j = 9 ∨ j = 10))
theorem fr_Reader_readTown_L49 {k1 : Nat} {W : Nat → Int → Prop} {M0 : Mem} (hW : ∀ k j, (W_Reader_readTown_L49) k j → W k j)  {M : Mem} (h : Fr W M0 M) : Post (fun r => Fr W M0 r.1) (t_Reader_readTown_L49 k1 M) := by
  unfold t_Reader_readTown_L49
  refine post_let (fun q22 e_q22 => ?_)
  have h_q22 : Fr W M0 q22.1 := by rw [e_q22]; exact (fr_Reader_refuse (fun k j hk => hW k j ⟨(hk).1, (Or.elim (hk).2 (fun h => (Or.inl h)) (fun h => (Or.inr h)))⟩)  h)
  exact post_some h_q22
def W_Reader_readTown_L97 (k1 : Nat) : Nat → Int → Prop := fun k j => (k = k1 ∧ (j = 11 ∨ j = 12))
theorem fr_Reader_readTown_L97 {k1 : Nat} {v1_ : Int} {v2_ : Int} {W : Nat → Int → Prop} {M0 : Mem} (hW : ∀ k j, (W_Reader_readTown_L97 k1) k j → W k j)  {M : Mem} (h : Fr W M0 M) : Post (fun r => Fr W M0 r.1) (t_Reader_readTown_L97 k1 M v1_ v2_) := by
  unfold t_Reader_readTown_L97
  refine post_ite (fun c_1 => ?_) (fun c_1 => ?_)
  · refine post_let (fun M25 e_M25 => ?_)
    have h_M25 : Fr W M0 M25 := by rw [e_M25]; exact Fr.setI h (hW _ _ ⟨rfl, (Or.inl rfl)⟩)
    refine post_let (fun M26 e_M26 => ?_)
    have h_M26 : Fr W M0 M26 := by rw [e_M26]; exact Fr.setI h_M25 (hW _ _ ⟨rfl, (Or.inr rfl)⟩)
    exact post_some h_M26
  · exact post_some h
def W_Reader_readTown (k1 : Nat) : Nat → Int → Prop := fun k j => (k = 46 ∧ (j = 1 ∨ j = 2 ∨ j = 3 ∨ j = 4 ∨ j = 5 ∨ j = 7 ∨ j = 9 ∨ j = 10)) ∨ (k = k1 ∧ (j = 11 ∨ j = 12))
theorem fr_Reader_readTown {k1 : Nat} {W : Nat → Int → Prop} {M0 : Mem} (hW : ∀ k j, (W_Reader_readTown k1) k j → W k j)  {M : Mem} (h : Fr W M0 M) : Post (fun r => Fr W M0 r.1) (t_Reader_readTown M k1) := by
  unfold t_Reader_readTown
  refine post_ite (fun c_1 => ?_) (fun c_1 => ?_)
  · refine post_ite (fun c_2 => ?_) (fun c_2 => ?_)
    · exact (fr_Reader_readTown_L49 (fun k j hk => hW k j (Or.inl ⟨(hk).1, (Or.elim (hk).2 (fun h => (Or.inr (Or.inr (Or.inr (Or.inr (Or.inr (Or.inr (Or.inl h)))))))) (fun h => (Or.inr (Or.inr (Or.inr (Or.inr (Or.inr (Or.inr (Or.inr h)))))))))⟩))  h)
    · refine post_ite (fun c_3 => ?_) (fun c_3 => ?_)
      · refine post_ite (fun c_4 => ?_) (fun c_4 => ?_)
        · refine post_ite (fun c_5 => ?_) (fun c_5 => ?_)
          · refine post_let (fun M9 e_M9 => ?_)
            have h_M9 : Fr W M0 M9 := by rw [e_M9]; exact Fr.setI h (hW _ _ (Or.inl ⟨rfl, (Or.inr (Or.inr (Or.inr (Or.inr (Or.inr (Or.inl rfl))))))⟩))
            refine post_bind (Q := fun r => Fr W M0 r) (fr_Reader_goTo (fun k j hk => hW k j (Or.inl ⟨(hk).1, (Or.elim (hk).2 (fun h => (Or.inl h)) (fun h => (Or.elim h (fun h => (Or.inr (Or.inl h))) (fun h => (Or.elim h (fun h => (Or.inr (Or.inr (Or.inl h)))) (fun h => (Or.elim h (fun h => (Or.inr (Or.inr (Or.inr (Or.inl h))))) (fun h => (Or.inr (Or.inr (Or.inr (Or.inr (Or.inl h)))))))))))))⟩))  h_M9) (fun q11 h_q11 => ?_)
            refine post_bind (Q := fun r => Fr W M0 r.1) (fr_Reader_takeNumber (fun k j hk => hW k j (Or.inl ⟨(hk).1, (Or.elim (hk).2 (fun h => (Or.inl h)) (fun h => (Or.elim h (fun h => (Or.inr (Or.inl h))) (fun h => (Or.elim h (fun h => (Or.inr (Or.inr (Or.inl h)))) (fun h => (Or.elim h (fun h => (Or.inr (Or.inr (Or.inr (Or.inl h))))) (fun h => (Or.elim h (fun h => (Or.inr (Or.inr (Or.inr (Or.inr (Or.inl h)))))) (fun h => (Or.elim h (fun h => (Or.inr (Or.inr (Or.inr (Or.inr (Or.inr (Or.inr (Or.inl h)))))))) (fun h => (Or.inr (Or.inr (Or.inr (Or.inr (Or.inr (Or.inr (Or.inr h)))))))))))))))))))⟩))  h_q11) (fun q13 h_q13 => ?_)
            refine post_ite (fun c_6 => ?_) (fun c_6 => ?_)
            · refine post_bind (Q := fun r => Fr W M0 r.1) (fr_Reader_takeNumber (fun k j hk => hW k j (Or.inl ⟨(hk).1, (Or.elim (hk).2 (fun h => (Or.inl h)) (fun h => (Or.elim h (fun h => (Or.inr (Or.inl h))) (fun h => (Or.elim h (fun h => (Or.inr (Or.inr (Or.inl h)))) (fun h => (Or.elim h (fun h => (Or.inr (Or.inr (Or.inr (Or.inl h))))) (fun h => (Or.elim h (fun h => (Or.inr (Or.inr (Or.inr (Or.inr (Or.inl h)))))) (fun h => (Or.elim h (fun h => (Or.inr (Or.inr (Or.inr (Or.inr (Or.inr (Or.inr (Or.inl h)))))))) (fun h => (Or.inr (Or.inr (Or.inr (Or.inr (Or.inr (Or.inr (Or.inr h)))))))))))))))))))⟩))  h_q13) (fun q16 h_q16 => ?_)
              exact (fr_Reader_readTown_L97 (fun k j hk => hW k j (Or.inr ⟨(hk).1, (Or.elim (hk).2 (fun h => (Or.inl h)) (fun h => (Or.inr h)))⟩))  h_q16)
            · exact (fr_Reader_readTown_L97 (fun k j hk => hW k j (Or.inr ⟨(hk).1, (Or.elim (hk).2 (fun h => (Or.inl h)) (fun h => (Or.inr h)))⟩))  h_q13)
          · exact (fr_Reader_readTown_L49 (fun k j hk => hW k j (Or.inl ⟨(hk).1, (Or.elim (hk).2 (fun h => (Or.inr (Or.inr (Or.inr (Or.inr (Or.inr (Or.inr (Or.inl h)))))))) (fun h => (Or.inr (Or.inr (Or.inr (Or.inr (Or.inr (Or.inr (Or.inr h)))))))))⟩))  h)
        · exact (fr_Reader_readTown_L49 (fun k j hk => hW k j (Or.inl ⟨(hk).1, (Or.elim (hk).2 (fun h => (Or.inr (Or.inr (Or.inr (Or.inr (Or.inr (Or.inr (Or.inl h)))))))) (fun h => (Or.inr (Or.inr (Or.inr (Or.inr (Or.inr (Or.inr (Or.inr h)))))))))⟩))  h)
      · exact (fr_Reader_readTown_L49 (fun k j hk => hW k j (Or.inl ⟨(hk).1, (Or.elim (hk).2 (fun h => (Or.inr (Or.inr (Or.inr (Or.inr (Or.inr (Or.inr (Or.inl h)))))))) (fun h => (Or.inr (Or.inr (Or.inr (Or.inr (Or.inr (Or.inr (Or.inr h)))))))))⟩))  h)
  · refine post_let (fun q19 e_q19 => ?_)
    have h_q19 : Fr W M0 q19.1 := by rw [e_q19]; exact (fr_Reader_refuse (fun k j hk => hW k j (Or.inl ⟨(hk).1, (Or.elim (hk).2 (fun h => (Or.inr (Or.inr (Or.inr (Or.inr (Or.inr (Or.inr (Or.inl h)))))))) (fun h => (Or.inr (Or.inr (Or.inr (Or.inr (Or.inr (Or.inr (Or.inr h)))))))))⟩))  h)
    exact post_some h_q19
def W_Reader_takeNewName : Nat → Int → Prop := fun k j => (k = 46 ∧ (j = 1 ∨ j = 2 ∨ j = 3 ∨ j = 4 ∨ j = 5 ∨ j = 9 ∨ j = 10))
theorem fr_Reader_takeNewName {r1 : Nat} {N1 : Nat} {x2 : Int} {W : Nat → Int → Prop} {M0 : Mem} (hW : ∀ k j, (W_Reader_takeNewName) k j → W k j)  {M : Mem} (h : Fr W M0 M) : Post (fun r => Fr W M0 r.1) (t_Reader_takeNewName M r1 N1 x2) := by
  unfold t_Reader_takeNewName
  refine post_bind (Q := fun r => Fr W M0 r.1) (fr_Reader_take (fun k j hk => hW k j ⟨(hk).1, (Or.elim (hk).2 (fun h => (Or.inl h)) (fun h => (Or.elim h (fun h => (Or.inr (Or.inl h))) (fun h => (Or.elim h (fun h => (Or.inr (Or.inr (Or.inl h)))) (fun h => (Or.elim h (fun h => (Or.inr (Or.inr (Or.inr (Or.inl h))))) (fun h => (Or.elim h (fun h => (Or.inr (Or.inr (Or.inr (Or.inr (Or.inl h)))))) (fun h => (Or.elim h (fun h => (Or.inr (Or.inr (Or.inr (Or.inr (Or.inr (Or.inl h))))))) (fun h => (Or.inr (Or.inr (Or.inr (Or.inr (Or.inr (Or.inr h))))))))))))))))))⟩)  h) (fun q2 h_q2 => ?_)
  refine post_ite (fun c_1 => ?_) (fun c_1 => ?_)
  · exact post_some h_q2
  · refine post_bindv (fun q5 => ?_)
    refine post_ite (fun c_2 => ?_) (fun c_2 => ?_)
    · exact post_some h_q2
    · refine post_let (fun q9 e_q9 => ?_)
      have h_q9 : Fr W M0 q9.1 := by rw [e_q9]; exact (fr_Reader_refuse (fun k j hk => hW k j ⟨(hk).1, (Or.elim (hk).2 (fun h => (Or.inr (Or.inr (Or.inr (Or.inr (Or.inr (Or.inl h))))))) (fun h => (Or.inr (Or.inr (Or.inr (Or.inr (Or.inr (Or.inr h))))))))⟩)  h_q2)
      exact post_some h_q9
def W_Reader_readWard (k1 : Nat) : Nat → Int → Prop := fun k j => (k = 46 ∧ (j = 1 ∨ j = 2 ∨ j = 3 ∨ j = 4 ∨ j = 5 ∨ j = 9 ∨ j = 10)) ∨ (k = k1 ∧ (j = 14)) ∨ k = k1 + 1 ∨ k = k1 + 2 ∨ k = k1 + 3
theorem fr_Reader_readWard {k1 : Nat} {W : Nat → Int → Prop} {M0 : Mem} (hW : ∀ k j, (W_Reader_readWard k1) k j → W k j)  {M : Mem} (h : Fr W M0 M) : Post (fun r => Fr W M0 r.1) (t_Reader_readWard M k1) := by
  unfold t_Reader_readWard
  refine post_ite (fun c_1 => ?_) (fun c_1 => ?_)
  · refine post_bind (Q := fun r => Fr W M0 r) (fr_Reader_goTo (fun k j hk => hW k j (Or.inl ⟨(hk).1, (Or.elim (hk).2 (fun h => (Or.inl h)) (fun h => (Or.elim h (fun h => (Or.inr (Or.inl h))) (fun h => (Or.elim h (fun h => (Or.inr (Or.inr (Or.inl h)))) (fun h => (Or.elim h (fun h => (Or.inr (Or.inr (Or.inr (Or.inl h))))) (fun h => (Or.inr (Or.inr (Or.inr (Or.inr (Or.inl h)))))))))))))⟩))  h) (fun q4 h_q4 => ?_)
    refine post_bind (Q := fun r => Fr W M0 r.1) (fr_Reader_takeNewName (fun k j hk => hW k j (Or.inl ⟨(hk).1, (Or.elim (hk).2 (fun h => (Or.inl h)) (fun h => (Or.elim h (fun h => (Or.inr (Or.inl h))) (fun h => (Or.elim h (fun h => (Or.inr (Or.inr (Or.inl h)))) (fun h => (Or.elim h (fun h => (Or.inr (Or.inr (Or.inr (Or.inl h))))) (fun h => (Or.elim h (fun h => (Or.inr (Or.inr (Or.inr (Or.inr (Or.inl h)))))) (fun h => (Or.elim h (fun h => (Or.inr (Or.inr (Or.inr (Or.inr (Or.inr (Or.inl h))))))) (fun h => (Or.inr (Or.inr (Or.inr (Or.inr (Or.inr (Or.inr h))))))))))))))))))⟩))  h_q4) (fun q7 h_q7 => ?_)
    refine post_ite (fun c_2 => ?_) (fun c_2 => ?_)
    · refine post_let (fun q11 _ => ?_)
      refine post_ite (fun c_3 => ?_) (fun c_3 => ?_)
      · refine post_let (fun q32 e_q32 => ?_)
        have h_q32 : Fr W M0 q32.1 := by rw [e_q32]; exact (fr_Reader_refuse (fun k j hk => hW k j (Or.inl ⟨(hk).1, (Or.elim (hk).2 (fun h => (Or.inr (Or.inr (Or.inr (Or.inr (Or.inr (Or.inl h))))))) (fun h => (Or.inr (Or.inr (Or.inr (Or.inr (Or.inr (Or.inr h))))))))⟩))  h_q7)
        exact post_some h_q32
      · refine post_bind (Q := fun r => Fr W M0 r) (fr_Reader_goTo (fun k j hk => hW k j (Or.inl ⟨(hk).1, (Or.elim (hk).2 (fun h => (Or.inl h)) (fun h => (Or.elim h (fun h => (Or.inr (Or.inl h))) (fun h => (Or.elim h (fun h => (Or.inr (Or.inr (Or.inl h)))) (fun h => (Or.elim h (fun h => (Or.inr (Or.inr (Or.inr (Or.inl h))))) (fun h => (Or.inr (Or.inr (Or.inr (Or.inr (Or.inl h)))))))))))))⟩))  h_q7) (fun q15 h_q15 => ?_)
        refine post_bind (Q := fun r => Fr W M0 r.1) (fr_Reader_takeNumber (fun k j hk => hW k j (Or.inl ⟨(hk).1, (Or.elim (hk).2 (fun h => (Or.inl h)) (fun h => (Or.elim h (fun h => (Or.inr (Or.inl h))) (fun h => (Or.elim h (fun h => (Or.inr (Or.inr (Or.inl h)))) (fun h => (Or.elim h (fun h => (Or.inr (Or.inr (Or.inr (Or.inl h))))) (fun h => (Or.elim h (fun h => (Or.inr (Or.inr (Or.inr (Or.inr (Or.inl h)))))) (fun h => (Or.elim h (fun h => (Or.inr (Or.inr (Or.inr (Or.inr (Or.inr (Or.inl h))))))) (fun h => (Or.inr (Or.inr (Or.inr (Or.inr (Or.inr (Or.inr h))))))))))))))))))⟩))  h_q15) (fun q17 h_q17 => ?_)
        refine post_ite (fun c_4 => ?_) (fun c_4 => ?_)
        · refine post_let (fun q21 e_q21 => ?_)
          have h_q21 : Fr W M0 q21 := by rw [e_q21]; exact (fr_WF_put (fun k j hk => hW k j (Or.inr (Or.inr (Or.inl hk))))  h_q17)
          refine post_let (fun q24 e_q24 => ?_)
          have h_q24 : Fr W M0 q24 := by rw [e_q24]; exact (fr_WF_put (fun k j hk => hW k j (Or.inr (Or.inr (Or.inr (Or.inl hk)))))  h_q21)
          refine post_let (fun q27 e_q27 => ?_)
          have h_q27 : Fr W M0 q27 := by rw [e_q27]; exact (fr_WF_put (fun k j hk => hW k j (Or.inr (Or.inr (Or.inr (Or.inr hk)))))  h_q24)
          refine post_let (fun M30 e_M30 => ?_)
          have h_M30 : Fr W M0 M30 := by rw [e_M30]; exact Fr.setI h_q27 (hW _ _ (Or.inr (Or.inl ⟨rfl, rfl⟩)))
          exact post_some h_M30
        · exact post_some h_q17
    · exact post_some h_q7
  · refine post_let (fun q35 e_q35 => ?_)
    have h_q35 : Fr W M0 q35.1 := by rw [e_q35]; exact (fr_Reader_refuse (fun k j hk => hW k j (Or.inl ⟨(hk).1, (Or.elim (hk).2 (fun h => (Or.inr (Or.inr (Or.inr (Or.inr (Or.inr (Or.inl h))))))) (fun h => (Or.inr (Or.inr (Or.inr (Or.inr (Or.inr (Or.inr h))))))))⟩))  h)
    exact post_some h_q35
def W_Reader_readPart_L175 (k1 : Nat) : Nat → Int → Prop := fun k j => k = k1 + 8
theorem fr_Reader_readPart_L175 {k1 : Nat} {bk164 : Mem → Int → Int → Int → Int → Int → Option (Mem × Int)} {W : Nat → Int → Prop} {M0 : Mem} (hW : ∀ k j, (W_Reader_readPart_L175 k1) k j → W k j) (hbk164 : ∀ (a0_ : Mem) (a1_ : Int) (a2_ : Int) (a3_ : Int) (a4_ : Int) (a5_ : Int), Fr W M0 a0_ → Post (fun r => Fr W M0 r.1) (bk164 a0_ a1_ a2_ a3_ a4_ a5_)) : ∀ (fu : Nat) (M : Mem) (v2_ : Int) (v3_ : Int) (v4_ : Int) (v5_ : Int) (v6_ : Int) (v7_ : Int), Fr W M0 M → Post (fun r => Fr W M0 r.1) (t_Reader_readPart_L175 k1 bk164 fu M v2_ v3_ v4_ v5_ v6_ v7_) := by
  intro fu
  induction fu with
  | zero => intro M v2_ v3_ v4_ v5_ v6_ v7_ h; exact post_none
  | succ fu ih =>
    intro M v2_ v3_ v4_ v5_ v6_ v7_ h
    rw [t_Reader_readPart_L175]
    refine post_ite (fun c_1 => ?_) (fun c_1 => ?_)
    · exact hbk164 _ _ _ _ _ _ h
    · refine post_let (fun q41 e_q41 => ?_)
      have h_q41 : Fr W M0 q41 := by rw [e_q41]; exact (fr_WF_put (fun k j hk => hW k j hk)  h)
      exact (ih _ _ _ _ _ _ _ h_q41)
def W_Reader_readPart_L164 (k1 : Nat) : Nat → Int → Prop := fun k j => (k = 46 ∧ (j = 6)) ∨ k = k1 + 8
theorem fr_Reader_readPart_L164 {k1 : Nat} {W : Nat → Int → Prop} {M0 : Mem} (hW : ∀ k j, (W_Reader_readPart_L164 k1) k j → W k j)  : ∀ (fu : Nat) (M : Mem) (v2_ : Int) (v3_ : Int) (v4_ : Int) (v5_ : Int) (v6_ : Int), Fr W M0 M → Post (fun r => Fr W M0 r.1) (t_Reader_readPart_L164 k1 fu M v2_ v3_ v4_ v5_ v6_) := by
  intro fu
  induction fu with
  | zero => intro M v2_ v3_ v4_ v5_ v6_ h; exact post_none
  | succ fu ih =>
    intro M v2_ v3_ v4_ v5_ v6_ h
    rw [t_Reader_readPart_L164]
    refine post_ite (fun c_1 => ?_) (fun c_1 => ?_)
    · refine post_let (fun M38 e_M38 => ?_)
      have h_M38 : Fr W M0 M38 := by rw [e_M38]; exact Fr.setI h (hW _ _ (Or.inl ⟨rfl, rfl⟩))
      exact post_some h_M38
    · exact (fr_Reader_readPart_L175 (fun k j hk => hW k j (Or.inr hk)) (fun a0_ a1_ a2_ a3_ a4_ a5_ h9 => ih a0_ a1_ a2_ a3_ a4_ a5_ h9) _ _ _ _ _ _ _ _ h)
def W_Reader_readPart_L151 (k1 : Nat) : Nat → Int → Prop := fun k j => (k = 46 ∧ (j = 6)) ∨ k = k1 + 8
theorem fr_Reader_readPart_L151 {k1 : Nat} {v2_ : Int} {v3_ : Int} {v4_ : Int} {v5_ : Int} {v6_ : Int} {W : Nat → Int → Prop} {M0 : Mem} (hW : ∀ k j, (W_Reader_readPart_L151 k1) k j → W k j)  {M : Mem} (h : Fr W M0 M) : Post (fun r => Fr W M0 r.1) (t_Reader_readPart_L151 k1 M v2_ v3_ v4_ v5_ v6_) := by
  unfold t_Reader_readPart_L151
  refine post_ite (fun c_1 => ?_) (fun c_1 => ?_)
  · exact (fr_Reader_readPart_L164 (fun k j hk => hW k j (Or.elim hk (fun h => (Or.inl ⟨(h).1, (h).2⟩)) (fun h => (Or.inr h))))  _ _ _ _ _ _ _ h)
  · exact post_some h
def W_Reader_readPart_L128 (k1 : Nat) : Nat → Int → Prop := fun k j => (k = 46 ∧ (j = 1 ∨ j = 2 ∨ j = 3 ∨ j = 4 ∨ j = 5 ∨ j = 6 ∨ j = 9 ∨ j = 10)) ∨ k = k1 + 8
theorem fr_Reader_readPart_L128 {k1 : Nat} {v2_ : Int} {v3_ : Int} {v4_ : Int} {v5_ : Int} {W : Nat → Int → Prop} {M0 : Mem} (hW : ∀ k j, (W_Reader_readPart_L128 k1) k j → W k j)  {M : Mem} (h : Fr W M0 M) : Post (fun r => Fr W M0 r.1) (t_Reader_readPart_L128 k1 M v2_ v3_ v4_ v5_) := by
  unfold t_Reader_readPart_L128
  refine post_ite (fun c_1 => ?_) (fun c_1 => ?_)
  · refine post_bind (Q := fun r => Fr W M0 r.1) (fr_Reader_takeNumber (fun k j hk => hW k j (Or.inl ⟨(hk).1, (Or.elim (hk).2 (fun h => (Or.inl h)) (fun h => (Or.elim h (fun h => (Or.inr (Or.inl h))) (fun h => (Or.elim h (fun h => (Or.inr (Or.inr (Or.inl h)))) (fun h => (Or.elim h (fun h => (Or.inr (Or.inr (Or.inr (Or.inl h))))) (fun h => (Or.elim h (fun h => (Or.inr (Or.inr (Or.inr (Or.inr (Or.inl h)))))) (fun h => (Or.elim h (fun h => (Or.inr (Or.inr (Or.inr (Or.inr (Or.inr (Or.inr (Or.inl h)))))))) (fun h => (Or.inr (Or.inr (Or.inr (Or.inr (Or.inr (Or.inr (Or.inr h)))))))))))))))))))⟩))  h) (fun q33 h_q33 => ?_)
    exact (fr_Reader_readPart_L151 (fun k j hk => hW k j (Or.elim hk (fun h => (Or.inl ⟨(h).1, (Or.inr (Or.inr (Or.inr (Or.inr (Or.inr (Or.inl (h).2))))))⟩)) (fun h => (Or.inr h))))  h_q33)
  · exact (fr_Reader_readPart_L151 (fun k j hk => hW k j (Or.elim hk (fun h => (Or.inl ⟨(h).1, (Or.inr (Or.inr (Or.inr (Or.inr (Or.inr (Or.inl (h).2))))))⟩)) (fun h => (Or.inr h))))  h)
def W_Reader_readPart_L105 (k1 : Nat) : Nat → Int → Prop := fun k j => (k = 46 ∧ (j = 1 ∨ j = 2 ∨ j = 3 ∨ j = 4 ∨ j = 5 ∨ j = 6 ∨ j = 9 ∨ j = 10)) ∨ k = k1 + 8
theorem fr_Reader_readPart_L105 {k1 : Nat} {v2_ : Int} {v3_ : Int} {v4_ : Int} {W : Nat → Int → Prop} {M0 : Mem} (hW : ∀ k j, (W_Reader_readPart_L105 k1) k j → W k j)  {M : Mem} (h : Fr W M0 M) : Post (fun r => Fr W M0 r.1) (t_Reader_readPart_L105 k1 M v2_ v3_ v4_) := by
  unfold t_Reader_readPart_L105
  refine post_ite (fun c_1 => ?_) (fun c_1 => ?_)
  · refine post_bind (Q := fun r => Fr W M0 r.1) (fr_Reader_takeNumber (fun k j hk => hW k j (Or.inl ⟨(hk).1, (Or.elim (hk).2 (fun h => (Or.inl h)) (fun h => (Or.elim h (fun h => (Or.inr (Or.inl h))) (fun h => (Or.elim h (fun h => (Or.inr (Or.inr (Or.inl h)))) (fun h => (Or.elim h (fun h => (Or.inr (Or.inr (Or.inr (Or.inl h))))) (fun h => (Or.elim h (fun h => (Or.inr (Or.inr (Or.inr (Or.inr (Or.inl h)))))) (fun h => (Or.elim h (fun h => (Or.inr (Or.inr (Or.inr (Or.inr (Or.inr (Or.inr (Or.inl h)))))))) (fun h => (Or.inr (Or.inr (Or.inr (Or.inr (Or.inr (Or.inr (Or.inr h)))))))))))))))))))⟩))  h) (fun q29 h_q29 => ?_)
    exact (fr_Reader_readPart_L128 (fun k j hk => hW k j (Or.elim hk (fun h => (Or.inl ⟨(h).1, (Or.elim (h).2 (fun h => (Or.inl h)) (fun h => (Or.elim h (fun h => (Or.inr (Or.inl h))) (fun h => (Or.elim h (fun h => (Or.inr (Or.inr (Or.inl h)))) (fun h => (Or.elim h (fun h => (Or.inr (Or.inr (Or.inr (Or.inl h))))) (fun h => (Or.elim h (fun h => (Or.inr (Or.inr (Or.inr (Or.inr (Or.inl h)))))) (fun h => (Or.elim h (fun h => (Or.inr (Or.inr (Or.inr (Or.inr (Or.inr (Or.inl h))))))) (fun h => (Or.elim h (fun h => (Or.inr (Or.inr (Or.inr (Or.inr (Or.inr (Or.inr (Or.inl h)))))))) (fun h => (Or.inr (Or.inr (Or.inr (Or.inr (Or.inr (Or.inr (Or.inr h)))))))))))))))))))))⟩)) (fun h => (Or.inr h))))  h_q29)
  · exact (fr_Reader_readPart_L128 (fun k j hk => hW k j (Or.elim hk (fun h => (Or.inl ⟨(h).1, (Or.elim (h).2 (fun h => (Or.inl h)) (fun h => (Or.elim h (fun h => (Or.inr (Or.inl h))) (fun h => (Or.elim h (fun h => (Or.inr (Or.inr (Or.inl h)))) (fun h => (Or.elim h (fun h => (Or.inr (Or.inr (Or.inr (Or.inl h))))) (fun h => (Or.elim h (fun h => (Or.inr (Or.inr (Or.inr (Or.inr (Or.inl h)))))) (fun h => (Or.elim h (fun h => (Or.inr (Or.inr (Or.inr (Or.inr (Or.inr (Or.inl h))))))) (fun h => (Or.elim h (fun h => (Or.inr (Or.inr (Or.inr (Or.inr (Or.inr (Or.inr (Or.inl h)))))))) (fun h => (Or.inr (Or.inr (Or.inr (Or.inr (Or.inr (Or.inr (Or.inr h)))))))))))))))))))))⟩)) (fun h => (Or.inr h))))  h)
def W_Reader_readPart (k1 : Nat) : Nat → Int → Prop := fun k j => (k = 46 ∧ (j = 1 ∨ j = 2 ∨ j = 3 ∨ j = 4 ∨ j = 5 ∨ j = 6 ∨ j = 9 ∨ j = 10)) ∨ k = k1 + 8
theorem fr_Reader_readPart {k1 : Nat} {W : Nat → Int → Prop} {M0 : Mem} (hW : ∀ k j, (W_Reader_readPart k1) k j → W k j)  {M : Mem} (h : Fr W M0 M) : Post (fun r => Fr W M0 r.1) (t_Reader_readPart M k1) := by
  unfold t_Reader_readPart
  refine post_ite (fun c_1 => ?_) (fun c_1 => ?_)
  · refine post_bind (Q := fun r => Fr W M0 r) (fr_Reader_goTo (fun k j hk => hW k j (Or.inl ⟨(hk).1, (Or.elim (hk).2 (fun h => (Or.inl h)) (fun h => (Or.elim h (fun h => (Or.inr (Or.inl h))) (fun h => (Or.elim h (fun h => (Or.inr (Or.inr (Or.inl h)))) (fun h => (Or.elim h (fun h => (Or.inr (Or.inr (Or.inr (Or.inl h))))) (fun h => (Or.inr (Or.inr (Or.inr (Or.inr (Or.inl h)))))))))))))⟩))  h) (fun q4 h_q4 => ?_)
    refine post_bind (Q := fun r => Fr W M0 r.1) (fr_Reader_take (fun k j hk => hW k j (Or.inl ⟨(hk).1, (Or.elim (hk).2 (fun h => (Or.inl h)) (fun h => (Or.elim h (fun h => (Or.inr (Or.inl h))) (fun h => (Or.elim h (fun h => (Or.inr (Or.inr (Or.inl h)))) (fun h => (Or.elim h (fun h => (Or.inr (Or.inr (Or.inr (Or.inl h))))) (fun h => (Or.elim h (fun h => (Or.inr (Or.inr (Or.inr (Or.inr (Or.inl h)))))) (fun h => (Or.elim h (fun h => (Or.inr (Or.inr (Or.inr (Or.inr (Or.inr (Or.inr (Or.inl h)))))))) (fun h => (Or.inr (Or.inr (Or.inr (Or.inr (Or.inr (Or.inr (Or.inr h)))))))))))))))))))⟩))  h_q4) (fun q7 h_q7 => ?_)
    refine post_ite (fun c_2 => ?_) (fun c_2 => ?_)
    · exact post_some h_q7
    · refine post_bindv (fun q11 => ?_)
      refine post_ite (fun c_3 => ?_) (fun c_3 => ?_)
      · refine post_bind (Q := fun r => Fr W M0 r.1) (fr_Reader_takeNumber (fun k j hk => hW k j (Or.inl ⟨(hk).1, (Or.elim (hk).2 (fun h => (Or.inl h)) (fun h => (Or.elim h (fun h => (Or.inr (Or.inl h))) (fun h => (Or.elim h (fun h => (Or.inr (Or.inr (Or.inl h)))) (fun h => (Or.elim h (fun h => (Or.inr (Or.inr (Or.inr (Or.inl h))))) (fun h => (Or.elim h (fun h => (Or.inr (Or.inr (Or.inr (Or.inr (Or.inl h)))))) (fun h => (Or.elim h (fun h => (Or.inr (Or.inr (Or.inr (Or.inr (Or.inr (Or.inr (Or.inl h)))))))) (fun h => (Or.inr (Or.inr (Or.inr (Or.inr (Or.inr (Or.inr (Or.inr h)))))))))))))))))))⟩))  h_q7) (fun q15 h_q15 => ?_)
        refine post_ite (fun c_4 => ?_) (fun c_4 => ?_)
        · refine post_bind (Q := fun r => Fr W M0 r.1) (fr_Reader_takeNumber (fun k j hk => hW k j (Or.inl ⟨(hk).1, (Or.elim (hk).2 (fun h => (Or.inl h)) (fun h => (Or.elim h (fun h => (Or.inr (Or.inl h))) (fun h => (Or.elim h (fun h => (Or.inr (Or.inr (Or.inl h)))) (fun h => (Or.elim h (fun h => (Or.inr (Or.inr (Or.inr (Or.inl h))))) (fun h => (Or.elim h (fun h => (Or.inr (Or.inr (Or.inr (Or.inr (Or.inl h)))))) (fun h => (Or.elim h (fun h => (Or.inr (Or.inr (Or.inr (Or.inr (Or.inr (Or.inr (Or.inl h)))))))) (fun h => (Or.inr (Or.inr (Or.inr (Or.inr (Or.inr (Or.inr (Or.inr h)))))))))))))))))))⟩))  h_q15) (fun q19 h_q19 => ?_)
          exact (fr_Reader_readPart_L105 (fun k j hk => hW k j (Or.elim hk (fun h => (Or.inl ⟨(h).1, (Or.elim (h).2 (fun h => (Or.inl h)) (fun h => (Or.elim h (fun h => (Or.inr (Or.inl h))) (fun h => (Or.elim h (fun h => (Or.inr (Or.inr (Or.inl h)))) (fun h => (Or.elim h (fun h => (Or.inr (Or.inr (Or.inr (Or.inl h))))) (fun h => (Or.elim h (fun h => (Or.inr (Or.inr (Or.inr (Or.inr (Or.inl h)))))) (fun h => (Or.elim h (fun h => (Or.inr (Or.inr (Or.inr (Or.inr (Or.inr (Or.inl h))))))) (fun h => (Or.elim h (fun h => (Or.inr (Or.inr (Or.inr (Or.inr (Or.inr (Or.inr (Or.inl h)))))))) (fun h => (Or.inr (Or.inr (Or.inr (Or.inr (Or.inr (Or.inr (Or.inr h)))))))))))))))))))))⟩)) (fun h => (Or.inr h))))  h_q19)
        · exact (fr_Reader_readPart_L105 (fun k j hk => hW k j (Or.elim hk (fun h => (Or.inl ⟨(h).1, (Or.elim (h).2 (fun h => (Or.inl h)) (fun h => (Or.elim h (fun h => (Or.inr (Or.inl h))) (fun h => (Or.elim h (fun h => (Or.inr (Or.inr (Or.inl h)))) (fun h => (Or.elim h (fun h => (Or.inr (Or.inr (Or.inr (Or.inl h))))) (fun h => (Or.elim h (fun h => (Or.inr (Or.inr (Or.inr (Or.inr (Or.inl h)))))) (fun h => (Or.elim h (fun h => (Or.inr (Or.inr (Or.inr (Or.inr (Or.inr (Or.inl h))))))) (fun h => (Or.elim h (fun h => (Or.inr (Or.inr (Or.inr (Or.inr (Or.inr (Or.inr (Or.inl h)))))))) (fun h => (Or.inr (Or.inr (Or.inr (Or.inr (Or.inr (Or.inr (Or.inr h)))))))))))))))))))))⟩)) (fun h => (Or.inr h))))  h_q15)
      · refine post_let (fun q22 e_q22 => ?_)
        have h_q22 : Fr W M0 q22.1 := by rw [e_q22]; exact (fr_Reader_refuse (fun k j hk => hW k j (Or.inl ⟨(hk).1, (Or.elim (hk).2 (fun h => (Or.inr (Or.inr (Or.inr (Or.inr (Or.inr (Or.inr (Or.inl h)))))))) (fun h => (Or.inr (Or.inr (Or.inr (Or.inr (Or.inr (Or.inr (Or.inr h)))))))))⟩))  h_q7)
        exact post_some h_q22
  · refine post_let (fun q25 e_q25 => ?_)
    have h_q25 : Fr W M0 q25.1 := by rw [e_q25]; exact (fr_Reader_refuse (fun k j hk => hW k j (Or.inl ⟨(hk).1, (Or.elim (hk).2 (fun h => (Or.inr (Or.inr (Or.inr (Or.inr (Or.inr (Or.inr (Or.inl h)))))))) (fun h => (Or.inr (Or.inr (Or.inr (Or.inr (Or.inr (Or.inr (Or.inr h)))))))))⟩))  h)
    exact post_some h_q25
def W_Reader_takeCell_L31 : Nat → Int → Prop := fun k j => False
theorem fr_Reader_takeCell_L31 {k1 : Nat} {v1_ : Int} {v2_ : Int} {W : Nat → Int → Prop} {M0 : Mem} (hW : ∀ k j, (W_Reader_takeCell_L31) k j → W k j)  {M : Mem} (h : Fr W M0 M) : Post (fun r => Fr W M0 r.1) (t_Reader_takeCell_L31 k1 M v1_ v2_) := by
  unfold t_Reader_takeCell_L31
  refine post_ite (fun c_1 => ?_) (fun c_1 => ?_)
  · exact post_some h
  · exact post_some h
def W_Reader_takeCell : Nat → Int → Prop := fun k j => (k = 46 ∧ (j = 1 ∨ j = 2 ∨ j = 3 ∨ j = 4 ∨ j = 5 ∨ j = 9 ∨ j = 10))
theorem fr_Reader_takeCell {k1 : Nat} {W : Nat → Int → Prop} {M0 : Mem} (hW : ∀ k j, (W_Reader_takeCell) k j → W k j)  {M : Mem} (h : Fr W M0 M) : Post (fun r => Fr W M0 r.1) (t_Reader_takeCell M k1) := by
  unfold t_Reader_takeCell
  refine post_bind (Q := fun r => Fr W M0 r.1) (fr_Reader_takeNumber (fun k j hk => hW k j ⟨(hk).1, (Or.elim (hk).2 (fun h => (Or.inl h)) (fun h => (Or.elim h (fun h => (Or.inr (Or.inl h))) (fun h => (Or.elim h (fun h => (Or.inr (Or.inr (Or.inl h)))) (fun h => (Or.elim h (fun h => (Or.inr (Or.inr (Or.inr (Or.inl h))))) (fun h => (Or.elim h (fun h => (Or.inr (Or.inr (Or.inr (Or.inr (Or.inl h)))))) (fun h => (Or.elim h (fun h => (Or.inr (Or.inr (Or.inr (Or.inr (Or.inr (Or.inl h))))))) (fun h => (Or.inr (Or.inr (Or.inr (Or.inr (Or.inr (Or.inr h))))))))))))))))))⟩)  h) (fun q2 h_q2 => ?_)
  refine post_ite (fun c_1 => ?_) (fun c_1 => ?_)
  · refine post_bind (Q := fun r => Fr W M0 r.1) (fr_Reader_takeNumber (fun k j hk => hW k j ⟨(hk).1, (Or.elim (hk).2 (fun h => (Or.inl h)) (fun h => (Or.elim h (fun h => (Or.inr (Or.inl h))) (fun h => (Or.elim h (fun h => (Or.inr (Or.inr (Or.inl h)))) (fun h => (Or.elim h (fun h => (Or.inr (Or.inr (Or.inr (Or.inl h))))) (fun h => (Or.elim h (fun h => (Or.inr (Or.inr (Or.inr (Or.inr (Or.inl h)))))) (fun h => (Or.elim h (fun h => (Or.inr (Or.inr (Or.inr (Or.inr (Or.inr (Or.inl h))))))) (fun h => (Or.inr (Or.inr (Or.inr (Or.inr (Or.inr (Or.inr h))))))))))))))))))⟩)  h_q2) (fun q6 h_q6 => ?_)
    exact (fr_Reader_takeCell_L31 (fun k j hk => hk.elim)  h_q6)
  · exact (fr_Reader_takeCell_L31 (fun k j hk => hk.elim)  h_q2)
def W_Reader_readWall_L93 : Nat → Int → Prop := fun k j => (k = 46 ∧ (j = 9 ∨ j = 10))
theorem fr_Reader_readWall_L93 {k1 : Nat} {W : Nat → Int → Prop} {M0 : Mem} (hW : ∀ k j, (W_Reader_readWall_L93) k j → W k j)  {M : Mem} (h : Fr W M0 M) : Post (fun r => Fr W M0 r.1) (t_Reader_readWall_L93 k1 M) := by
  unfold t_Reader_readWall_L93
  refine post_let (fun q28 e_q28 => ?_)
  have h_q28 : Fr W M0 q28.1 := by rw [e_q28]; exact (fr_Reader_refuse (fun k j hk => hW k j ⟨(hk).1, (Or.elim (hk).2 (fun h => (Or.inl h)) (fun h => (Or.inr h)))⟩)  h)
  exact post_some h_q28
def W_Reader_readWall (k1 : Nat) : Nat → Int → Prop := fun k j => (k = 46 ∧ (j = 1 ∨ j = 2 ∨ j = 3 ∨ j = 4 ∨ j = 5 ∨ j = 9 ∨ j = 10)) ∨ (k = k1 ∧ (j = 18))
theorem fr_Reader_readWall {k1 : Nat} {W : Nat → Int → Prop} {M0 : Mem} (hW : ∀ k j, (W_Reader_readWall k1) k j → W k j)  {M : Mem} (h : Fr W M0 M) : Post (fun r => Fr W M0 r.1) (t_Reader_readWall M k1) := by
  unfold t_Reader_readWall
  refine post_let (fun q1 _ => ?_)
  refine post_ite (fun c_1 => ?_) (fun c_1 => ?_)
  · refine post_bind (Q := fun r => Fr W M0 r) (fr_Reader_goTo (fun k j hk => hW k j (Or.inl ⟨(hk).1, (Or.elim (hk).2 (fun h => (Or.inl h)) (fun h => (Or.elim h (fun h => (Or.inr (Or.inl h))) (fun h => (Or.elim h (fun h => (Or.inr (Or.inr (Or.inl h)))) (fun h => (Or.elim h (fun h => (Or.inr (Or.inr (Or.inr (Or.inl h))))) (fun h => (Or.inr (Or.inr (Or.inr (Or.inr (Or.inl h)))))))))))))⟩))  h) (fun q5 h_q5 => ?_)
    refine post_bind (Q := fun r => Fr W M0 r.1) (fr_Reader_takeCell (fun k j hk => hW k j (Or.inl ⟨(hk).1, (Or.elim (hk).2 (fun h => (Or.inl h)) (fun h => (Or.elim h (fun h => (Or.inr (Or.inl h))) (fun h => (Or.elim h (fun h => (Or.inr (Or.inr (Or.inl h)))) (fun h => (Or.elim h (fun h => (Or.inr (Or.inr (Or.inr (Or.inl h))))) (fun h => (Or.elim h (fun h => (Or.inr (Or.inr (Or.inr (Or.inr (Or.inl h)))))) (fun h => (Or.elim h (fun h => (Or.inr (Or.inr (Or.inr (Or.inr (Or.inr (Or.inl h))))))) (fun h => (Or.inr (Or.inr (Or.inr (Or.inr (Or.inr (Or.inr h))))))))))))))))))⟩))  h_q5) (fun q7 h_q7 => ?_)
    refine post_ite (fun c_2 => ?_) (fun c_2 => ?_)
    · refine post_let (fun q10 _ => ?_)
      refine post_ite (fun c_3 => ?_) (fun c_3 => ?_)
      · refine post_let (fun q22 e_q22 => ?_)
        have h_q22 : Fr W M0 q22.1 := by rw [e_q22]; exact (fr_Reader_refuse (fun k j hk => hW k j (Or.inl ⟨(hk).1, (Or.elim (hk).2 (fun h => (Or.inr (Or.inr (Or.inr (Or.inr (Or.inr (Or.inl h))))))) (fun h => (Or.inr (Or.inr (Or.inr (Or.inr (Or.inr (Or.inr h))))))))⟩))  h_q7)
        exact post_some h_q22
      · refine post_let (fun q13 _ => ?_)
        refine post_ite (fun c_4 => ?_) (fun c_4 => ?_)
        · exact (fr_Reader_readWall_L93 (fun k j hk => hW k j (Or.inl ⟨(hk).1, (Or.elim (hk).2 (fun h => (Or.inr (Or.inr (Or.inr (Or.inr (Or.inr (Or.inl h))))))) (fun h => (Or.inr (Or.inr (Or.inr (Or.inr (Or.inr (Or.inr h))))))))⟩))  h_q7)
        · refine post_bindv (fun q17 => ?_)
          refine post_ite (fun c_5 => ?_) (fun c_5 => ?_)
          · refine post_let (fun M20 e_M20 => ?_)
            have h_M20 : Fr W M0 M20 := by rw [e_M20]; exact Fr.setL h_q7 (hW _ _ (Or.inr ⟨rfl, rfl⟩))
            exact post_some h_M20
          · exact (fr_Reader_readWall_L93 (fun k j hk => hW k j (Or.inl ⟨(hk).1, (Or.elim (hk).2 (fun h => (Or.inr (Or.inr (Or.inr (Or.inr (Or.inr (Or.inl h))))))) (fun h => (Or.inr (Or.inr (Or.inr (Or.inr (Or.inr (Or.inr h))))))))⟩))  h_q7)
    · exact post_some h_q7
  · refine post_let (fun q25 e_q25 => ?_)
    have h_q25 : Fr W M0 q25.1 := by rw [e_q25]; exact (fr_Reader_refuse (fun k j hk => hW k j (Or.inl ⟨(hk).1, (Or.elim (hk).2 (fun h => (Or.inr (Or.inr (Or.inr (Or.inr (Or.inr (Or.inl h))))))) (fun h => (Or.inr (Or.inr (Or.inr (Or.inr (Or.inr (Or.inr h))))))))⟩))  h)
    exact post_some h_q25
def W_Reader_readStair (k1 : Nat) : Nat → Int → Prop := fun k j => (k = 46 ∧ (j = 1 ∨ j = 2 ∨ j = 3 ∨ j = 4 ∨ j = 5 ∨ j = 9 ∨ j = 10)) ∨ (k = k1 ∧ (j = 19))
theorem fr_Reader_readStair {k1 : Nat} {W : Nat → Int → Prop} {M0 : Mem} (hW : ∀ k j, (W_Reader_readStair k1) k j → W k j)  {M : Mem} (h : Fr W M0 M) : Post (fun r => Fr W M0 r.1) (t_Reader_readStair M k1) := by
  unfold t_Reader_readStair
  refine post_let (fun q1 _ => ?_)
  refine post_ite (fun c_1 => ?_) (fun c_1 => ?_)
  · refine post_bind (Q := fun r => Fr W M0 r) (fr_Reader_goTo (fun k j hk => hW k j (Or.inl ⟨(hk).1, (Or.elim (hk).2 (fun h => (Or.inl h)) (fun h => (Or.elim h (fun h => (Or.inr (Or.inl h))) (fun h => (Or.elim h (fun h => (Or.inr (Or.inr (Or.inl h)))) (fun h => (Or.elim h (fun h => (Or.inr (Or.inr (Or.inr (Or.inl h))))) (fun h => (Or.inr (Or.inr (Or.inr (Or.inr (Or.inl h)))))))))))))⟩))  h) (fun q5 h_q5 => ?_)
    refine post_bind (Q := fun r => Fr W M0 r.1) (fr_Reader_takeCell (fun k j hk => hW k j (Or.inl ⟨(hk).1, (Or.elim (hk).2 (fun h => (Or.inl h)) (fun h => (Or.elim h (fun h => (Or.inr (Or.inl h))) (fun h => (Or.elim h (fun h => (Or.inr (Or.inr (Or.inl h)))) (fun h => (Or.elim h (fun h => (Or.inr (Or.inr (Or.inr (Or.inl h))))) (fun h => (Or.elim h (fun h => (Or.inr (Or.inr (Or.inr (Or.inr (Or.inl h)))))) (fun h => (Or.elim h (fun h => (Or.inr (Or.inr (Or.inr (Or.inr (Or.inr (Or.inl h))))))) (fun h => (Or.inr (Or.inr (Or.inr (Or.inr (Or.inr (Or.inr h))))))))))))))))))⟩))  h_q5) (fun q7 h_q7 => ?_)
    refine post_ite (fun c_2 => ?_) (fun c_2 => ?_)
    · refine post_let (fun q10 _ => ?_)
      refine post_ite (fun c_3 => ?_) (fun c_3 => ?_)
      · refine post_let (fun q21 e_q21 => ?_)
        have h_q21 : Fr W M0 q21.1 := by rw [e_q21]; exact (fr_Reader_refuse (fun k j hk => hW k j (Or.inl ⟨(hk).1, (Or.elim (hk).2 (fun h => (Or.inr (Or.inr (Or.inr (Or.inr (Or.inr (Or.inl h))))))) (fun h => (Or.inr (Or.inr (Or.inr (Or.inr (Or.inr (Or.inr h))))))))⟩))  h_q7)
        exact post_some h_q21
      · refine post_let (fun q13 _ => ?_)
        refine post_ite (fun c_4 => ?_) (fun c_4 => ?_)
        · refine post_let (fun q18 e_q18 => ?_)
          have h_q18 : Fr W M0 q18.1 := by rw [e_q18]; exact (fr_Reader_refuse (fun k j hk => hW k j (Or.inl ⟨(hk).1, (Or.elim (hk).2 (fun h => (Or.inr (Or.inr (Or.inr (Or.inr (Or.inr (Or.inl h))))))) (fun h => (Or.inr (Or.inr (Or.inr (Or.inr (Or.inr (Or.inr h))))))))⟩))  h_q7)
          exact post_some h_q18
        · refine post_let (fun M16 e_M16 => ?_)
          have h_M16 : Fr W M0 M16 := by rw [e_M16]; exact Fr.setL h_q7 (hW _ _ (Or.inr ⟨rfl, rfl⟩))
          exact post_some h_M16
    · exact post_some h_q7
  · refine post_let (fun q24 e_q24 => ?_)
    have h_q24 : Fr W M0 q24.1 := by rw [e_q24]; exact (fr_Reader_refuse (fun k j hk => hW k j (Or.inl ⟨(hk).1, (Or.elim (hk).2 (fun h => (Or.inr (Or.inr (Or.inr (Or.inr (Or.inr (Or.inl h))))))) (fun h => (Or.inr (Or.inr (Or.inr (Or.inr (Or.inr (Or.inr h))))))))⟩))  h)
    exact post_some h_q24
def W_Reader_readThing_L109 : Nat → Int → Prop := fun k j => (k = 46 ∧ (j = 9 ∨ j = 10))
theorem fr_Reader_readThing_L109 {k1 : Nat} {W : Nat → Int → Prop} {M0 : Mem} (hW : ∀ k j, (W_Reader_readThing_L109) k j → W k j)  {M : Mem} (h : Fr W M0 M) : Post (fun r => Fr W M0 r.1) (t_Reader_readThing_L109 k1 M) := by
  unfold t_Reader_readThing_L109
  refine post_let (fun q38 e_q38 => ?_)
  have h_q38 : Fr W M0 q38.1 := by rw [e_q38]; exact (fr_Reader_refuse (fun k j hk => hW k j ⟨(hk).1, (Or.elim (hk).2 (fun h => (Or.inl h)) (fun h => (Or.inr h)))⟩)  h)
  exact post_some h_q38
def W_Reader_readThing_L71 (k1 : Nat) : Nat → Int → Prop := fun k j => (k = 46 ∧ (j = 9 ∨ j = 10)) ∨ (k = k1 ∧ (j = 15)) ∨ k = k1 + 5 ∨ k = k1 + 6 ∨ k = k1 + 7
theorem fr_Reader_readThing_L71 {k1 : Nat} {v2_ : Int} {v3_ : Int} {v4_ : Int} {W : Nat → Int → Prop} {M0 : Mem} (hW : ∀ k j, (W_Reader_readThing_L71 k1) k j → W k j)  {M : Mem} (h : Fr W M0 M) : Post (fun r => Fr W M0 r.1) (t_Reader_readThing_L71 k1 M v2_ v3_ v4_) := by
  unfold t_Reader_readThing_L71
  refine post_ite (fun c_1 => ?_) (fun c_1 => ?_)
  · refine post_let (fun q19 _ => ?_)
    refine post_ite (fun c_2 => ?_) (fun c_2 => ?_)
    · exact (fr_Reader_readThing_L109 (fun k j hk => hW k j (Or.inl ⟨(hk).1, (Or.elim (hk).2 (fun h => (Or.inl h)) (fun h => (Or.inr h)))⟩))  h)
    · refine post_bindv (fun q23 => ?_)
      refine post_ite (fun c_3 => ?_) (fun c_3 => ?_)
      · refine post_let (fun q27 e_q27 => ?_)
        have h_q27 : Fr W M0 q27 := by rw [e_q27]; exact (fr_WF_put (fun k j hk => hW k j (Or.inr (Or.inr (Or.inl hk))))  h)
        refine post_let (fun q30 e_q30 => ?_)
        have h_q30 : Fr W M0 q30 := by rw [e_q30]; exact (fr_WF_put (fun k j hk => hW k j (Or.inr (Or.inr (Or.inr (Or.inl hk)))))  h_q27)
        refine post_let (fun q33 e_q33 => ?_)
        have h_q33 : Fr W M0 q33 := by rw [e_q33]; exact (fr_WF_put (fun k j hk => hW k j (Or.inr (Or.inr (Or.inr (Or.inr hk)))))  h_q30)
        refine post_let (fun M36 e_M36 => ?_)
        have h_M36 : Fr W M0 M36 := by rw [e_M36]; exact Fr.setI h_q33 (hW _ _ (Or.inr (Or.inl ⟨rfl, rfl⟩)))
        exact post_some h_M36
      · exact (fr_Reader_readThing_L109 (fun k j hk => hW k j (Or.inl ⟨(hk).1, (Or.elim (hk).2 (fun h => (Or.inl h)) (fun h => (Or.inr h)))⟩))  h)
  · exact post_some h
def W_Reader_readThing_L57 (k1 : Nat) : Nat → Int → Prop := fun k j => (k = 46 ∧ (j = 1 ∨ j = 2 ∨ j = 3 ∨ j = 4 ∨ j = 5 ∨ j = 9 ∨ j = 10)) ∨ (k = k1 ∧ (j = 15)) ∨ k = k1 + 5 ∨ k = k1 + 6 ∨ k = k1 + 7
theorem fr_Reader_readThing_L57 {k1 : Nat} {v2_ : Int} {v3_ : Int} {W : Nat → Int → Prop} {M0 : Mem} (hW : ∀ k j, (W_Reader_readThing_L57 k1) k j → W k j)  {M : Mem} (h : Fr W M0 M) : Post (fun r => Fr W M0 r.1) (t_Reader_readThing_L57 k1 M v2_ v3_) := by
  unfold t_Reader_readThing_L57
  refine post_ite (fun c_1 => ?_) (fun c_1 => ?_)
  · refine post_bind (Q := fun r => Fr W M0 r.1) (fr_Reader_takeCell (fun k j hk => hW k j (Or.inl ⟨(hk).1, (Or.elim (hk).2 (fun h => (Or.inl h)) (fun h => (Or.elim h (fun h => (Or.inr (Or.inl h))) (fun h => (Or.elim h (fun h => (Or.inr (Or.inr (Or.inl h)))) (fun h => (Or.elim h (fun h => (Or.inr (Or.inr (Or.inr (Or.inl h))))) (fun h => (Or.elim h (fun h => (Or.inr (Or.inr (Or.inr (Or.inr (Or.inl h)))))) (fun h => (Or.elim h (fun h => (Or.inr (Or.inr (Or.inr (Or.inr (Or.inr (Or.inl h))))))) (fun h => (Or.inr (Or.inr (Or.inr (Or.inr (Or.inr (Or.inr h))))))))))))))))))⟩))  h) (fun q16 h_q16 => ?_)
    exact (fr_Reader_readThing_L71 (fun k j hk => hW k j (Or.elim hk (fun h => (Or.inl ⟨(h).1, (Or.elim (h).2 (fun h => (Or.inr (Or.inr (Or.inr (Or.inr (Or.inr (Or.inl h))))))) (fun h => (Or.inr (Or.inr (Or.inr (Or.inr (Or.inr (Or.inr h))))))))⟩)) (fun h => (Or.elim h (fun h => (Or.inr (Or.inl ⟨(h).1, (h).2⟩))) (fun h => (Or.elim h (fun h => (Or.inr (Or.inr (Or.inl h)))) (fun h => (Or.elim h (fun h => (Or.inr (Or.inr (Or.inr (Or.inl h))))) (fun h => (Or.inr (Or.inr (Or.inr (Or.inr h)))))))))))))  h_q16)
  · exact (fr_Reader_readThing_L71 (fun k j hk => hW k j (Or.elim hk (fun h => (Or.inl ⟨(h).1, (Or.elim (h).2 (fun h => (Or.inr (Or.inr (Or.inr (Or.inr (Or.inr (Or.inl h))))))) (fun h => (Or.inr (Or.inr (Or.inr (Or.inr (Or.inr (Or.inr h))))))))⟩)) (fun h => (Or.elim h (fun h => (Or.inr (Or.inl ⟨(h).1, (h).2⟩))) (fun h => (Or.elim h (fun h => (Or.inr (Or.inr (Or.inl h)))) (fun h => (Or.elim h (fun h => (Or.inr (Or.inr (Or.inr (Or.inl h))))) (fun h => (Or.inr (Or.inr (Or.inr (Or.inr h)))))))))))))  h)
def W_Reader_readThing (k1 : Nat) : Nat → Int → Prop := fun k j => (k = 46 ∧ (j = 1 ∨ j = 2 ∨ j = 3 ∨ j = 4 ∨ j = 5 ∨ j = 9 ∨ j = 10)) ∨ (k = k1 ∧ (j = 15)) ∨ k = k1 + 5 ∨ k = k1 + 6 ∨ k = k1 + 7
theorem fr_Reader_readThing {k1 : Nat} {W : Nat → Int → Prop} {M0 : Mem} (hW : ∀ k j, (W_Reader_readThing k1) k j → W k j)  {M : Mem} (h : Fr W M0 M) : Post (fun r => Fr W M0 r.1) (t_Reader_readThing M k1) := by
  unfold t_Reader_readThing
  refine post_ite (fun c_1 => ?_) (fun c_1 => ?_)
  · refine post_bind (Q := fun r => Fr W M0 r) (fr_Reader_goTo (fun k j hk => hW k j (Or.inl ⟨(hk).1, (Or.elim (hk).2 (fun h => (Or.inl h)) (fun h => (Or.elim h (fun h => (Or.inr (Or.inl h))) (fun h => (Or.elim h (fun h => (Or.inr (Or.inr (Or.inl h)))) (fun h => (Or.elim h (fun h => (Or.inr (Or.inr (Or.inr (Or.inl h))))) (fun h => (Or.inr (Or.inr (Or.inr (Or.inr (Or.inl h)))))))))))))⟩))  h) (fun q4 h_q4 => ?_)
    refine post_bind (Q := fun r => Fr W M0 r.1) (fr_Reader_takeNewName (fun k j hk => hW k j (Or.inl ⟨(hk).1, (Or.elim (hk).2 (fun h => (Or.inl h)) (fun h => (Or.elim h (fun h => (Or.inr (Or.inl h))) (fun h => (Or.elim h (fun h => (Or.inr (Or.inr (Or.inl h)))) (fun h => (Or.elim h (fun h => (Or.inr (Or.inr (Or.inr (Or.inl h))))) (fun h => (Or.elim h (fun h => (Or.inr (Or.inr (Or.inr (Or.inr (Or.inl h)))))) (fun h => (Or.elim h (fun h => (Or.inr (Or.inr (Or.inr (Or.inr (Or.inr (Or.inl h))))))) (fun h => (Or.inr (Or.inr (Or.inr (Or.inr (Or.inr (Or.inr h))))))))))))))))))⟩))  h_q4) (fun q7 h_q7 => ?_)
    refine post_ite (fun c_2 => ?_) (fun c_2 => ?_)
    · refine post_bind (Q := fun r => Fr W M0 r.1) (fr_Reader_takeNumber (fun k j hk => hW k j (Or.inl ⟨(hk).1, (Or.elim (hk).2 (fun h => (Or.inl h)) (fun h => (Or.elim h (fun h => (Or.inr (Or.inl h))) (fun h => (Or.elim h (fun h => (Or.inr (Or.inr (Or.inl h)))) (fun h => (Or.elim h (fun h => (Or.inr (Or.inr (Or.inr (Or.inl h))))) (fun h => (Or.elim h (fun h => (Or.inr (Or.inr (Or.inr (Or.inr (Or.inl h)))))) (fun h => (Or.elim h (fun h => (Or.inr (Or.inr (Or.inr (Or.inr (Or.inr (Or.inl h))))))) (fun h => (Or.inr (Or.inr (Or.inr (Or.inr (Or.inr (Or.inr h))))))))))))))))))⟩))  h_q7) (fun q10 h_q10 => ?_)
      exact (fr_Reader_readThing_L57 (fun k j hk => hW k j (Or.elim hk (fun h => (Or.inl ⟨(h).1, (Or.elim (h).2 (fun h => (Or.inl h)) (fun h => (Or.elim h (fun h => (Or.inr (Or.inl h))) (fun h => (Or.elim h (fun h => (Or.inr (Or.inr (Or.inl h)))) (fun h => (Or.elim h (fun h => (Or.inr (Or.inr (Or.inr (Or.inl h))))) (fun h => (Or.elim h (fun h => (Or.inr (Or.inr (Or.inr (Or.inr (Or.inl h)))))) (fun h => (Or.elim h (fun h => (Or.inr (Or.inr (Or.inr (Or.inr (Or.inr (Or.inl h))))))) (fun h => (Or.inr (Or.inr (Or.inr (Or.inr (Or.inr (Or.inr h))))))))))))))))))⟩)) (fun h => (Or.elim h (fun h => (Or.inr (Or.inl ⟨(h).1, (h).2⟩))) (fun h => (Or.elim h (fun h => (Or.inr (Or.inr (Or.inl h)))) (fun h => (Or.elim h (fun h => (Or.inr (Or.inr (Or.inr (Or.inl h))))) (fun h => (Or.inr (Or.inr (Or.inr (Or.inr h)))))))))))))  h_q10)
    · exact (fr_Reader_readThing_L57 (fun k j hk => hW k j (Or.elim hk (fun h => (Or.inl ⟨(h).1, (Or.elim (h).2 (fun h => (Or.inl h)) (fun h => (Or.elim h (fun h => (Or.inr (Or.inl h))) (fun h => (Or.elim h (fun h => (Or.inr (Or.inr (Or.inl h)))) (fun h => (Or.elim h (fun h => (Or.inr (Or.inr (Or.inr (Or.inl h))))) (fun h => (Or.elim h (fun h => (Or.inr (Or.inr (Or.inr (Or.inr (Or.inl h)))))) (fun h => (Or.elim h (fun h => (Or.inr (Or.inr (Or.inr (Or.inr (Or.inr (Or.inl h))))))) (fun h => (Or.inr (Or.inr (Or.inr (Or.inr (Or.inr (Or.inr h))))))))))))))))))⟩)) (fun h => (Or.elim h (fun h => (Or.inr (Or.inl ⟨(h).1, (h).2⟩))) (fun h => (Or.elim h (fun h => (Or.inr (Or.inr (Or.inl h)))) (fun h => (Or.elim h (fun h => (Or.inr (Or.inr (Or.inr (Or.inl h))))) (fun h => (Or.inr (Or.inr (Or.inr (Or.inr h)))))))))))))  h_q7)
  · refine post_let (fun q13 e_q13 => ?_)
    have h_q13 : Fr W M0 q13.1 := by rw [e_q13]; exact (fr_Reader_refuse (fun k j hk => hW k j (Or.inl ⟨(hk).1, (Or.elim (hk).2 (fun h => (Or.inr (Or.inr (Or.inr (Or.inr (Or.inr (Or.inl h))))))) (fun h => (Or.inr (Or.inr (Or.inr (Or.inr (Or.inr (Or.inr h))))))))⟩))  h)
    exact post_some h_q13
def W_Reader_readSeed (k1 : Nat) : Nat → Int → Prop := fun k j => (k = 46 ∧ (j = 1 ∨ j = 2 ∨ j = 3 ∨ j = 4 ∨ j = 5 ∨ j = 8 ∨ j = 9 ∨ j = 10)) ∨ (k = k1 ∧ (j = 17))
theorem fr_Reader_readSeed {k1 : Nat} {W : Nat → Int → Prop} {M0 : Mem} (hW : ∀ k j, (W_Reader_readSeed k1) k j → W k j)  {M : Mem} (h : Fr W M0 M) : Post (fun r => Fr W M0 r.1) (t_Reader_readSeed M k1) := by
  unfold t_Reader_readSeed
  refine post_ite (fun c_1 => ?_) (fun c_1 => ?_)
  · refine post_let (fun M3 e_M3 => ?_)
    have h_M3 : Fr W M0 M3 := by rw [e_M3]; exact Fr.setI h (hW _ _ (Or.inl ⟨rfl, (Or.inr (Or.inr (Or.inr (Or.inr (Or.inr (Or.inl rfl))))))⟩))
    refine post_bind (Q := fun r => Fr W M0 r) (fr_Reader_goTo (fun k j hk => hW k j (Or.inl ⟨(hk).1, (Or.elim (hk).2 (fun h => (Or.inl h)) (fun h => (Or.elim h (fun h => (Or.inr (Or.inl h))) (fun h => (Or.elim h (fun h => (Or.inr (Or.inr (Or.inl h)))) (fun h => (Or.elim h (fun h => (Or.inr (Or.inr (Or.inr (Or.inl h))))) (fun h => (Or.inr (Or.inr (Or.inr (Or.inr (Or.inl h)))))))))))))⟩))  h_M3) (fun q5 h_q5 => ?_)
    refine post_bind (Q := fun r => Fr W M0 r.1) (fr_Reader_takeNumber (fun k j hk => hW k j (Or.inl ⟨(hk).1, (Or.elim (hk).2 (fun h => (Or.inl h)) (fun h => (Or.elim h (fun h => (Or.inr (Or.inl h))) (fun h => (Or.elim h (fun h => (Or.inr (Or.inr (Or.inl h)))) (fun h => (Or.elim h (fun h => (Or.inr (Or.inr (Or.inr (Or.inl h))))) (fun h => (Or.elim h (fun h => (Or.inr (Or.inr (Or.inr (Or.inr (Or.inl h)))))) (fun h => (Or.elim h (fun h => (Or.inr (Or.inr (Or.inr (Or.inr (Or.inr (Or.inr (Or.inl h)))))))) (fun h => (Or.inr (Or.inr (Or.inr (Or.inr (Or.inr (Or.inr (Or.inr h)))))))))))))))))))⟩))  h_q5) (fun q7 h_q7 => ?_)
    refine post_let (fun M9 e_M9 => ?_)
    have h_M9 : Fr W M0 M9 := by rw [e_M9]; exact Fr.setI h_q7 (hW _ _ (Or.inr ⟨rfl, rfl⟩))
    refine post_ite (fun c_2 => ?_) (fun c_2 => ?_)
    · exact post_some h_M9
    · exact post_some h_M9
  · refine post_let (fun q12 e_q12 => ?_)
    have h_q12 : Fr W M0 q12.1 := by rw [e_q12]; exact (fr_Reader_refuse (fun k j hk => hW k j (Or.inl ⟨(hk).1, (Or.elim (hk).2 (fun h => (Or.inr (Or.inr (Or.inr (Or.inr (Or.inr (Or.inr (Or.inl h)))))))) (fun h => (Or.inr (Or.inr (Or.inr (Or.inr (Or.inr (Or.inr (Or.inr h)))))))))⟩))  h)
    exact post_some h_q12
def W_Formula_add (k0 : Nat) : Nat → Int → Prop := fun k j => (k = k0 ∧ (j = 3)) ∨ k = k0 + 1 ∨ k = k0 + 2
theorem fr_Formula_add {k0 : Nat} {x1 : Int} {x2 : Int} {W : Nat → Int → Prop} {M0 : Mem} (hW : ∀ k j, (W_Formula_add k0) k j → W k j)  {M : Mem} (h : Fr W M0 M) : Fr W M0 (t_Formula_add M k0 x1 x2) := by
  show Pl (fun r => Fr W M0 r) (t_Formula_add M k0 x1 x2)
  unfold t_Formula_add
  refine pl_let (fun q2 e_q2 => ?_)
  have h_q2 : Fr W M0 q2 := by rw [e_q2]; exact (fr_WF_put (fun k j hk => hW k j (Or.inr (Or.inl hk)))  h)
  refine pl_let (fun q5 e_q5 => ?_)
  have h_q5 : Fr W M0 q5 := by rw [e_q5]; exact (fr_WF_put (fun k j hk => hW k j (Or.inr (Or.inr hk)))  h_q2)
  refine pl_let (fun M8 e_M8 => ?_)
  have h_M8 : Fr W M0 M8 := by rw [e_M8]; exact Fr.setI h_q5 (hW _ _ (Or.inl ⟨rfl, rfl⟩))
  exact h_M8
def W_Formula_release_L35 (k0 : Nat) : Nat → Int → Prop := fun k j => (k = k0 ∧ (j = 3 ∨ j = 6)) ∨ k = k0 + 1 ∨ k = k0 + 2
theorem fr_Formula_release_L35 {k0 : Nat} {x1 : Int} {bk0 : Mem → Option (Mem)} {v2_ : Int} {v3_ : Int} {W : Nat → Int → Prop} {M0 : Mem} (hW : ∀ k j, (W_Formula_release_L35 k0) k j → W k j) (hbk0 : ∀ (a0_ : Mem), Fr W M0 a0_ → Post (fun r => Fr W M0 r) (bk0 a0_)) {M : Mem} (h : Fr W M0 M) : Post (fun r => Fr W M0 r) (t_Formula_release_L35 k0 x1 bk0 M v2_ v3_) := by
  unfold t_Formula_release_L35
  refine post_ite (fun c_1 => ?_) (fun c_1 => ?_)
  · refine post_let (fun q10 e_q10 => ?_)
    have h_q10 : Fr W M0 q10 := by rw [e_q10]; exact (fr_Formula_add (fun k j hk => hW k j (Or.elim hk (fun h => (Or.inl ⟨(h).1, (Or.inl (h).2)⟩)) (fun h => (Or.elim h (fun h => (Or.inr (Or.inl h))) (fun h => (Or.inr (Or.inr h)))))))  h)
    refine post_let (fun M13 e_M13 => ?_)
    have h_M13 : Fr W M0 M13 := by rw [e_M13]; exact Fr.setI h_q10 (hW _ _ (Or.inl ⟨rfl, (Or.inr rfl)⟩))
    exact hbk0 _ h_M13
  · exact post_some h
def W_Formula_release_L0 (k0 : Nat) : Nat → Int → Prop := fun k j => (k = k0 ∧ (j = 3 ∨ j = 6)) ∨ k = k0 + 1 ∨ k = k0 + 2
theorem fr_Formula_release_L0 {k0 : Nat} {x1 : Int} {W : Nat → Int → Prop} {M0 : Mem} (hW : ∀ k j, (W_Formula_release_L0 k0) k j → W k j)  : ∀ (fu : Nat) (M : Mem) , Fr W M0 M → Post (fun r => Fr W M0 r) (t_Formula_release_L0 k0 x1 fu M ) := by
  intro fu
  induction fu with
  | zero => intro M  h; exact post_none
  | succ fu ih =>
    intro M  h
    rw [t_Formula_release_L0]
    refine post_ite (fun c_1 => ?_) (fun c_1 => ?_)
    · exact post_some h
    · refine post_let (fun q4 _ => ?_)
      refine post_ite (fun c_2 => ?_) (fun c_2 => ?_)
      · exact (fr_Formula_release_L35 (fun k j hk => hW k j (Or.elim hk (fun h => (Or.inl ⟨(h).1, (Or.elim (h).2 (fun h => (Or.inl h)) (fun h => (Or.inr h)))⟩)) (fun h => (Or.elim h (fun h => (Or.inr (Or.inl h))) (fun h => (Or.inr (Or.inr h))))))) (fun a0_ h9 => ih a0_ h9) h)
      · refine post_let (fun q7 _ => ?_)
        exact (fr_Formula_release_L35 (fun k j hk => hW k j (Or.elim hk (fun h => (Or.inl ⟨(h).1, (Or.elim (h).2 (fun h => (Or.inl h)) (fun h => (Or.inr h)))⟩)) (fun h => (Or.elim h (fun h => (Or.inr (Or.inl h))) (fun h => (Or.inr (Or.inr h))))))) (fun a0_ h9 => ih a0_ h9) h)
def W_Formula_release (k0 : Nat) : Nat → Int → Prop := fun k j => (k = k0 ∧ (j = 3 ∨ j = 6)) ∨ k = k0 + 1 ∨ k = k0 + 2
theorem fr_Formula_release {k0 : Nat} {x1 : Int} {W : Nat → Int → Prop} {M0 : Mem} (hW : ∀ k j, (W_Formula_release k0) k j → W k j)  {M : Mem} (h : Fr W M0 M) : Post (fun r => Fr W M0 r) (t_Formula_release M k0 x1) := by
  unfold t_Formula_release
  exact (fr_Formula_release_L0 (fun k j hk => hW k j (Or.elim hk (fun h => (Or.inl ⟨(h).1, (Or.elim (h).2 (fun h => (Or.inl h)) (fun h => (Or.inr h)))⟩)) (fun h => (Or.elim h (fun h => (Or.inr (Or.inl h))) (fun h => (Or.inr (Or.inr h)))))))  _ _ h)
def W_Formula_await (k0 : Nat) : Nat → Int → Prop := fun k j => (k = k0 ∧ (j = 6)) ∨ k = k0 + 4
theorem fr_Formula_await {k0 : Nat} {x1 : Int} {W : Nat → Int → Prop} {M0 : Mem} (hW : ∀ k j, (W_Formula_await k0) k j → W k j)  {M : Mem} (h : Fr W M0 M) : Fr W M0 (t_Formula_await M k0 x1) := by
  show Pl (fun r => Fr W M0 r) (t_Formula_await M k0 x1)
  unfold t_Formula_await
  refine pl_let (fun q2 e_q2 => ?_)
  have h_q2 : Fr W M0 q2 := by rw [e_q2]; exact (fr_WF_put (fun k j hk => hW k j (Or.inr hk))  h)
  refine pl_let (fun M5 e_M5 => ?_)
  have h_M5 : Fr W M0 M5 := by rw [e_M5]; exact Fr.setI h_q2 (hW _ _ (Or.inl ⟨rfl, rfl⟩))
  exact h_M5
def W_Formula_readPart_L121 (k0 : Nat) (k3 : Nat) : Nat → Int → Prop := fun k j => (k = k0 ∧ (j = 3 ∨ j = 6 ∨ j = 10)) ∨ k = k0 + 1 ∨ k = k0 + 2 ∨ k = k0 + 4 ∨ (k = k3 ∧ (j = 16))
theorem fr_Formula_readPart_L121 {k0 : Nat} {x1 : Int} {x2 : Int} {k3 : Nat} {v4_ : Int} {W : Nat → Int → Prop} {M0 : Mem} (hW : ∀ k j, (W_Formula_readPart_L121 k0 k3) k j → W k j)  {M : Mem} (h : Fr W M0 M) : Fr W M0 (t_Formula_readPart_L121 k0 x1 x2 k3 M v4_).1 := by
  show Pl (fun r => Fr W M0 r.1) (t_Formula_readPart_L121 k0 x1 x2 k3 M v4_)
  unfold t_Formula_readPart_L121
  refine pl_let (fun M25 e_M25 => ?_)
  have h_M25 : Fr W M0 M25 := by rw [e_M25]; exact Fr.setI h (hW _ _ (Or.inr (Or.inr (Or.inr (Or.inr ⟨rfl, rfl⟩)))))
  refine pl_ite (fun c_1 => ?_) (fun c_1 => ?_)
  · refine pl_let (fun q27 e_q27 => ?_)
    have h_q27 : Fr W M0 q27 := by rw [e_q27]; exact (fr_Formula_add (fun k j hk => hW k j (Or.elim hk (fun h => (Or.inl ⟨(h).1, (Or.inl (h).2)⟩)) (fun h => (Or.elim h (fun h => (Or.inr (Or.inl h))) (fun h => (Or.inr (Or.inr (Or.inl h))))))))  h_M25)
    refine pl_let (fun M29 e_M29 => ?_)
    have h_M29 : Fr W M0 M29 := by rw [e_M29]; exact Fr.setI h_q27 (hW _ _ (Or.inl ⟨rfl, (Or.inr (Or.inr rfl))⟩))
    exact h_M29
  · refine pl_let (fun q30 e_q30 => ?_)
    have h_q30 : Fr W M0 q30 := by rw [e_q30]; exact (fr_Formula_await (fun k j hk => hW k j (Or.elim hk (fun h => (Or.inl ⟨(h).1, (Or.inr (Or.inl (h).2))⟩)) (fun h => (Or.inr (Or.inr (Or.inr (Or.inl h)))))))  h_M25)
    exact h_q30
def W_Formula_readPart_L97 (k0 : Nat) (k3 : Nat) : Nat → Int → Prop := fun k j => (k = k0 ∧ (j = 3 ∨ j = 6 ∨ j = 10)) ∨ k = k0 + 1 ∨ k = k0 + 2 ∨ k = k0 + 4 ∨ (k = k3 ∧ (j = 16))
theorem fr_Formula_readPart_L97 {k0 : Nat} {x1 : Int} {x2 : Int} {k3 : Nat} {v4_ : Int} {W : Nat → Int → Prop} {M0 : Mem} (hW : ∀ k j, (W_Formula_readPart_L97 k0 k3) k j → W k j)  {M : Mem} (h : Fr W M0 M) : Fr W M0 (t_Formula_readPart_L97 k0 x1 x2 k3 M v4_).1 := by
  show Pl (fun r => Fr W M0 r.1) (t_Formula_readPart_L97 k0 x1 x2 k3 M v4_)
  unfold t_Formula_readPart_L97
  refine pl_ite (fun c_1 => ?_) (fun c_1 => ?_)
  · exact h
  · refine pl_ite (fun c_2 => ?_) (fun c_2 => ?_)
    · refine pl_ite (fun c_3 => ?_) (fun c_3 => ?_)
      · exact (fr_Formula_readPart_L121 (fun k j hk => hW k j (Or.elim hk (fun h => (Or.inl ⟨(h).1, (Or.elim (h).2 (fun h => (Or.inl h)) (fun h => (Or.elim h (fun h => (Or.inr (Or.inl h))) (fun h => (Or.inr (Or.inr h))))))⟩)) (fun h => (Or.elim h (fun h => (Or.inr (Or.inl h))) (fun h => (Or.elim h (fun h => (Or.inr (Or.inr (Or.inl h)))) (fun h => (Or.elim h (fun h => (Or.inr (Or.inr (Or.inr (Or.inl h))))) (fun h => (Or.inr (Or.inr (Or.inr (Or.inr ⟨(h).1, (h).2⟩)))))))))))))  h)
      · exact h
    · exact (fr_Formula_readPart_L121 (fun k j hk => hW k j (Or.elim hk (fun h => (Or.inl ⟨(h).1, (Or.elim (h).2 (fun h => (Or.inl h)) (fun h => (Or.elim h (fun h => (Or.inr (Or.inl h))) (fun h => (Or.inr (Or.inr h))))))⟩)) (fun h => (Or.elim h (fun h => (Or.inr (Or.inl h))) (fun h => (Or.elim h (fun h => (Or.inr (Or.inr (Or.inl h)))) (fun h => (Or.elim h (fun h => (Or.inr (Or.inr (Or.inr (Or.inl h))))) (fun h => (Or.inr (Or.inr (Or.inr (Or.inr ⟨(h).1, (h).2⟩)))))))))))))  h)
def W_Formula_readPart_L75 (k0 : Nat) (k3 : Nat) : Nat → Int → Prop := fun k j => (k = k0 ∧ (j = 3 ∨ j = 6 ∨ j = 10)) ∨ k = k0 + 1 ∨ k = k0 + 2 ∨ k = k0 + 4 ∨ (k = k3 ∧ (j = 16))
theorem fr_Formula_readPart_L75 {k0 : Nat} {x1 : Int} {x2 : Int} {k3 : Nat} {v4_ : Int} {W : Nat → Int → Prop} {M0 : Mem} (hW : ∀ k j, (W_Formula_readPart_L75 k0 k3) k j → W k j)  {M : Mem} (h : Fr W M0 M) : Fr W M0 (t_Formula_readPart_L75 k0 x1 x2 k3 M v4_).1 := by
  show Pl (fun r => Fr W M0 r.1) (t_Formula_readPart_L75 k0 x1 x2 k3 M v4_)
  unfold t_Formula_readPart_L75
  refine pl_ite (fun c_1 => ?_) (fun c_1 => ?_)
  · refine pl_ite (fun c_2 => ?_) (fun c_2 => ?_)
    · exact (fr_Formula_readPart_L97 (fun k j hk => hW k j (Or.elim hk (fun h => (Or.inl ⟨(h).1, (Or.elim (h).2 (fun h => (Or.inl h)) (fun h => (Or.elim h (fun h => (Or.inr (Or.inl h))) (fun h => (Or.inr (Or.inr h))))))⟩)) (fun h => (Or.elim h (fun h => (Or.inr (Or.inl h))) (fun h => (Or.elim h (fun h => (Or.inr (Or.inr (Or.inl h)))) (fun h => (Or.elim h (fun h => (Or.inr (Or.inr (Or.inr (Or.inl h))))) (fun h => (Or.inr (Or.inr (Or.inr (Or.inr ⟨(h).1, (h).2⟩)))))))))))))  h)
    · refine pl_let (fun q17 _ => ?_)
      refine pl_ite (fun c_3 => ?_) (fun c_3 => ?_)
      · exact h
      · exact (fr_Formula_readPart_L97 (fun k j hk => hW k j (Or.elim hk (fun h => (Or.inl ⟨(h).1, (Or.elim (h).2 (fun h => (Or.inl h)) (fun h => (Or.elim h (fun h => (Or.inr (Or.inl h))) (fun h => (Or.inr (Or.inr h))))))⟩)) (fun h => (Or.elim h (fun h => (Or.inr (Or.inl h))) (fun h => (Or.elim h (fun h => (Or.inr (Or.inr (Or.inl h)))) (fun h => (Or.elim h (fun h => (Or.inr (Or.inr (Or.inr (Or.inl h))))) (fun h => (Or.inr (Or.inr (Or.inr (Or.inr ⟨(h).1, (h).2⟩)))))))))))))  h)
  · exact (fr_Formula_readPart_L97 (fun k j hk => hW k j (Or.elim hk (fun h => (Or.inl ⟨(h).1, (Or.elim (h).2 (fun h => (Or.inl h)) (fun h => (Or.elim h (fun h => (Or.inr (Or.inl h))) (fun h => (Or.inr (Or.inr h))))))⟩)) (fun h => (Or.elim h (fun h => (Or.inr (Or.inl h))) (fun h => (Or.elim h (fun h => (Or.inr (Or.inr (Or.inl h)))) (fun h => (Or.elim h (fun h => (Or.inr (Or.inr (Or.inr (Or.inl h))))) (fun h => (Or.inr (Or.inr (Or.inr (Or.inr ⟨(h).1, (h).2⟩)))))))))))))  h)
def W_Formula_readPart_L74 (k0 : Nat) (k3 : Nat) : Nat → Int → Prop := fun k j => (k = k0 ∧ (j = 3 ∨ j = 6 ∨ j = 10)) ∨ k = k0 + 1 ∨ k = k0 + 2 ∨ k = k0 + 4 ∨ (k = k3 ∧ (j = 16))
theorem fr_Formula_readPart_L74 {k0 : Nat} {x1 : Int} {x2 : Int} {k3 : Nat} {W : Nat → Int → Prop} {M0 : Mem} (hW : ∀ k j, (W_Formula_readPart_L74 k0 k3) k j → W k j)  {M : Mem} (h : Fr W M0 M) : Fr W M0 (t_Formula_readPart_L74 k0 x1 x2 k3 M).1 := by
  show Pl (fun r => Fr W M0 r.1) (t_Formula_readPart_L74 k0 x1 x2 k3 M)
  unfold t_Formula_readPart_L74
  exact (fr_Formula_readPart_L75 (fun k j hk => hW k j (Or.elim hk (fun h => (Or.inl ⟨(h).1, (Or.elim (h).2 (fun h => (Or.inl h)) (fun h => (Or.elim h (fun h => (Or.inr (Or.inl h))) (fun h => (Or.inr (Or.inr h))))))⟩)) (fun h => (Or.elim h (fun h => (Or.inr (Or.inl h))) (fun h => (Or.elim h (fun h => (Or.inr (Or.inr (Or.inl h)))) (fun h => (Or.elim h (fun h => (Or.inr (Or.inr (Or.inr (Or.inl h))))) (fun h => (Or.inr (Or.inr (Or.inr (Or.inr ⟨(h).1, (h).2⟩)))))))))))))  h)
def W_Formula_readPart (k0 : Nat) (k3 : Nat) : Nat → Int → Prop := fun k j => (k = k0 ∧ (j = 3 ∨ j = 6 ∨ j = 8 ∨ j = 9 ∨ j = 10 ∨ j = 11)) ∨ k = k0 + 1 ∨ k = k0 + 2 ∨ k = k0 + 4 ∨ (k = k3 ∧ (j = 16))
theorem fr_Formula_readPart {k0 : Nat} {x1 : Int} {x2 : Int} {k3 : Nat} {W : Nat → Int → Prop} {M0 : Mem} (hW : ∀ k j, (W_Formula_readPart k0 k3) k j → W k j)  {M : Mem} (h : Fr W M0 M) : Fr W M0 (t_Formula_readPart M k0 x1 x2 k3).1 := by
  show Pl (fun r => Fr W M0 r.1) (t_Formula_readPart M k0 x1 x2 k3)
  unfold t_Formula_readPart
  refine pl_ite (fun c_1 => ?_) (fun c_1 => ?_)
  · refine pl_ite (fun c_2 => ?_) (fun c_2 => ?_)
    · refine pl_let (fun M8 e_M8 => ?_)
      have h_M8 : Fr W M0 M8 := by rw [e_M8]; exact Fr.setI h (hW _ _ (Or.inl ⟨rfl, (Or.inr (Or.inr (Or.inl rfl)))⟩))
      refine pl_let (fun M11 e_M11 => ?_)
      have h_M11 : Fr W M0 M11 := by rw [e_M11]; exact Fr.setI h_M8 (hW _ _ (Or.inl ⟨rfl, (Or.inr (Or.inr (Or.inr (Or.inl rfl))))⟩))
      refine pl_let (fun M12 e_M12 => ?_)
      have h_M12 : Fr W M0 M12 := by rw [e_M12]; exact Fr.setI h_M11 (hW _ _ (Or.inl ⟨rfl, (Or.inr (Or.inr (Or.inr (Or.inr (Or.inr rfl)))))⟩))
      refine pl_let (fun q13 e_q13 => ?_)
      have h_q13 : Fr W M0 q13 := by rw [e_q13]; exact (fr_Formula_await (fun k j hk => hW k j (Or.elim hk (fun h => (Or.inl ⟨(h).1, (Or.inr (Or.inl (h).2))⟩)) (fun h => (Or.inr (Or.inr (Or.inr (Or.inl h)))))))  h_M12)
      exact h_q13
    · exact h
  · refine pl_ite (fun c_3 => ?_) (fun c_3 => ?_)
    · refine pl_ite (fun c_4 => ?_) (fun c_4 => ?_)
      · exact (fr_Formula_readPart_L74 (fun k j hk => hW k j (Or.elim hk (fun h => (Or.inl ⟨(h).1, (Or.elim (h).2 (fun h => (Or.inl h)) (fun h => (Or.elim h (fun h => (Or.inr (Or.inl h))) (fun h => (Or.inr (Or.inr (Or.inr (Or.inr (Or.inl h)))))))))⟩)) (fun h => (Or.elim h (fun h => (Or.inr (Or.inl h))) (fun h => (Or.elim h (fun h => (Or.inr (Or.inr (Or.inl h)))) (fun h => (Or.elim h (fun h => (Or.inr (Or.inr (Or.inr (Or.inl h))))) (fun h => (Or.inr (Or.inr (Or.inr (Or.inr ⟨(h).1, (h).2⟩)))))))))))))  h)
      · exact (fr_Formula_readPart_L75 (fun k j hk => hW k j (Or.elim hk (fun h => (Or.inl ⟨(h).1, (Or.elim (h).2 (fun h => (Or.inl h)) (fun h => (Or.elim h (fun h => (Or.inr (Or.inl h))) (fun h => (Or.inr (Or.inr (Or.inr (Or.inr (Or.inl h)))))))))⟩)) (fun h => (Or.elim h (fun h => (Or.inr (Or.inl h))) (fun h => (Or.elim h (fun h => (Or.inr (Or.inr (Or.inl h)))) (fun h => (Or.elim h (fun h => (Or.inr (Or.inr (Or.inr (Or.inl h))))) (fun h => (Or.inr (Or.inr (Or.inr (Or.inr ⟨(h).1, (h).2⟩)))))))))))))  h)
    · exact (fr_Formula_readPart_L74 (fun k j hk => hW k j (Or.elim hk (fun h => (Or.inl ⟨(h).1, (Or.elim (h).2 (fun h => (Or.inl h)) (fun h => (Or.elim h (fun h => (Or.inr (Or.inl h))) (fun h => (Or.inr (Or.inr (Or.inr (Or.inr (Or.inl h)))))))))⟩)) (fun h => (Or.elim h (fun h => (Or.inr (Or.inl h))) (fun h => (Or.elim h (fun h => (Or.inr (Or.inr (Or.inl h)))) (fun h => (Or.elim h (fun h => (Or.inr (Or.inr (Or.inr (Or.inl h))))) (fun h => (Or.inr (Or.inr (Or.inr (Or.inr ⟨(h).1, (h).2⟩)))))))))))))  h)
def W_Formula_readSign_L133 (k0 : Nat) : Nat → Int → Prop := fun k j => (k = k0 ∧ (j = 9 ∨ j = 11))
theorem fr_Formula_readSign_L133 {k0 : Nat} {x1 : Int} {k2 : Nat} {v1_ : Int} {v3_ : Int} {W : Nat → Int → Prop} {M0 : Mem} (hW : ∀ k j, (W_Formula_readSign_L133 k0) k j → W k j)  {M : Mem} (h : Fr W M0 M) : Post (fun r => Fr W M0 r.1) (t_Formula_readSign_L133 k0 x1 k2 M v1_ v3_) := by
  unfold t_Formula_readSign_L133
  refine post_let (fun M30 e_M30 => ?_)
  have h_M30 : Fr W M0 M30 := by rw [e_M30]; exact Fr.setI h (hW _ _ ⟨rfl, (Or.inr rfl)⟩)
  refine post_ite (fun c_1 => ?_) (fun c_1 => ?_)
  · refine post_ite (fun c_2 => ?_) (fun c_2 => ?_)
    · exact post_some h_M30
    · refine post_let (fun M36 e_M36 => ?_)
      have h_M36 : Fr W M0 M36 := by rw [e_M36]; exact Fr.setI h_M30 (hW _ _ ⟨rfl, (Or.inl rfl)⟩)
      exact post_some h_M36
  · refine post_let (fun M39 e_M39 => ?_)
    have h_M39 : Fr W M0 M39 := by rw [e_M39]; exact Fr.setI h_M30 (hW _ _ ⟨rfl, (Or.inl rfl)⟩)
    exact post_some h_M39
def W_Formula_readSign_L86 (k0 : Nat) (k2 : Nat) : Nat → Int → Prop := fun k j => (k = k0 ∧ (j = 3 ∨ j = 6 ∨ j = 9 ∨ j = 10 ∨ j = 11)) ∨ k = k0 + 1 ∨ k = k0 + 2 ∨ k = k0 + 4 ∨ (k = k2 ∧ (j = 16))
theorem fr_Formula_readSign_L86 {k0 : Nat} {x1 : Int} {k2 : Nat} {v3_ : Int} {v4_ : Int} {W : Nat → Int → Prop} {M0 : Mem} (hW : ∀ k j, (W_Formula_readSign_L86 k0 k2) k j → W k j)  {M : Mem} (h : Fr W M0 M) : Post (fun r => Fr W M0 r.1) (t_Formula_readSign_L86 k0 x1 k2 M v3_ v4_) := by
  unfold t_Formula_readSign_L86
  refine post_ite (fun c_1 => ?_) (fun c_1 => ?_)
  · refine post_let (fun M23 e_M23 => ?_)
    have h_M23 : Fr W M0 M23 := by rw [e_M23]; exact Fr.setI h (hW _ _ (Or.inr (Or.inr (Or.inr (Or.inr ⟨rfl, rfl⟩)))))
    refine post_bind (Q := fun r => Fr W M0 r) (fr_Formula_release (fun k j hk => hW k j (Or.elim hk (fun h => (Or.inl ⟨(h).1, (Or.elim (h).2 (fun h => (Or.inl h)) (fun h => (Or.inr (Or.inl h))))⟩)) (fun h => (Or.elim h (fun h => (Or.inr (Or.inl h))) (fun h => (Or.inr (Or.inr (Or.inl h))))))))  h_M23) (fun q24 h_q24 => ?_)
    refine post_let (fun q26 e_q26 => ?_)
    have h_q26 : Fr W M0 q26 := by rw [e_q26]; exact (fr_Formula_await (fun k j hk => hW k j (Or.elim hk (fun h => (Or.inl ⟨(h).1, (Or.inr (Or.inl (h).2))⟩)) (fun h => (Or.inr (Or.inr (Or.inr (Or.inl h)))))))  h_q24)
    refine post_let (fun M28 e_M28 => ?_)
    have h_M28 : Fr W M0 M28 := by rw [e_M28]; exact Fr.setI h_q26 (hW _ _ (Or.inl ⟨rfl, (Or.inr (Or.inr (Or.inr (Or.inl rfl))))⟩))
    refine post_ite (fun c_2 => ?_) (fun c_2 => ?_)
    · exact (fr_Formula_readSign_L133 (fun k j hk => hW k j (Or.inl ⟨(hk).1, (Or.elim (hk).2 (fun h => (Or.inr (Or.inr (Or.inl h)))) (fun h => (Or.inr (Or.inr (Or.inr (Or.inr h))))))⟩))  h_M28)
    · exact (fr_Formula_readSign_L133 (fun k j hk => hW k j (Or.inl ⟨(hk).1, (Or.elim (hk).2 (fun h => (Or.inr (Or.inr (Or.inl h)))) (fun h => (Or.inr (Or.inr (Or.inr (Or.inr h))))))⟩))  h_M28)
  · exact post_some h
def W_Formula_readSign_L57 (k0 : Nat) (k2 : Nat) : Nat → Int → Prop := fun k j => (k = k0 ∧ (j = 3 ∨ j = 6 ∨ j = 9 ∨ j = 10 ∨ j = 11)) ∨ k = k0 + 1 ∨ k = k0 + 2 ∨ k = k0 + 4 ∨ (k = k2 ∧ (j = 16))
theorem fr_Formula_readSign_L57 {k0 : Nat} {x1 : Int} {k2 : Nat} {v3_ : Int} {v4_ : Int} {W : Nat → Int → Prop} {M0 : Mem} (hW : ∀ k j, (W_Formula_readSign_L57 k0 k2) k j → W k j)  {M : Mem} (h : Fr W M0 M) : Post (fun r => Fr W M0 r.1) (t_Formula_readSign_L57 k0 x1 k2 M v3_ v4_) := by
  unfold t_Formula_readSign_L57
  refine post_ite (fun c_1 => ?_) (fun c_1 => ?_)
  · exact post_some h
  · refine post_ite (fun c_2 => ?_) (fun c_2 => ?_)
    · exact (fr_Formula_readSign_L86 (fun k j hk => hW k j (Or.elim hk (fun h => (Or.inl ⟨(h).1, (Or.elim (h).2 (fun h => (Or.inl h)) (fun h => (Or.elim h (fun h => (Or.inr (Or.inl h))) (fun h => (Or.elim h (fun h => (Or.inr (Or.inr (Or.inl h)))) (fun h => (Or.elim h (fun h => (Or.inr (Or.inr (Or.inr (Or.inl h))))) (fun h => (Or.inr (Or.inr (Or.inr (Or.inr h))))))))))))⟩)) (fun h => (Or.elim h (fun h => (Or.inr (Or.inl h))) (fun h => (Or.elim h (fun h => (Or.inr (Or.inr (Or.inl h)))) (fun h => (Or.elim h (fun h => (Or.inr (Or.inr (Or.inr (Or.inl h))))) (fun h => (Or.inr (Or.inr (Or.inr (Or.inr ⟨(h).1, (h).2⟩)))))))))))))  h)
    · refine post_let (fun q17 _ => ?_)
      refine post_ite (fun c_3 => ?_) (fun c_3 => ?_)
      · exact post_some h
      · exact (fr_Formula_readSign_L86 (fun k j hk => hW k j (Or.elim hk (fun h => (Or.inl ⟨(h).1, (Or.elim (h).2 (fun h => (Or.inl h)) (fun h => (Or.elim h (fun h => (Or.inr (Or.inl h))) (fun h => (Or.elim h (fun h => (Or.inr (Or.inr (Or.inl h)))) (fun h => (Or.elim h (fun h => (Or.inr (Or.inr (Or.inr (Or.inl h))))) (fun h => (Or.inr (Or.inr (Or.inr (Or.inr h))))))))))))⟩)) (fun h => (Or.elim h (fun h => (Or.inr (Or.inl h))) (fun h => (Or.elim h (fun h => (Or.inr (Or.inr (Or.inl h)))) (fun h => (Or.elim h (fun h => (Or.inr (Or.inr (Or.inr (Or.inl h))))) (fun h => (Or.inr (Or.inr (Or.inr (Or.inr ⟨(h).1, (h).2⟩)))))))))))))  h)
def W_Formula_readSign (k0 : Nat) (k2 : Nat) : Nat → Int → Prop := fun k j => (k = k0 ∧ (j = 3 ∨ j = 6 ∨ j = 8 ∨ j = 9 ∨ j = 10 ∨ j = 11)) ∨ k = k0 + 1 ∨ k = k0 + 2 ∨ k = k0 + 4 ∨ (k = k2 ∧ (j = 16))
theorem fr_Formula_readSign {k0 : Nat} {x1 : Int} {k2 : Nat} {W : Nat → Int → Prop} {M0 : Mem} (hW : ∀ k j, (W_Formula_readSign k0 k2) k j → W k j)  {M : Mem} (h : Fr W M0 M) : Post (fun r => Fr W M0 r.1) (t_Formula_readSign M k0 x1 k2) := by
  unfold t_Formula_readSign
  refine post_ite (fun c_1 => ?_) (fun c_1 => ?_)
  · refine post_ite (fun c_2 => ?_) (fun c_2 => ?_)
    · exact post_some h
    · refine post_bind (Q := fun r => Fr W M0 r) (fr_Formula_release (fun k j hk => hW k j (Or.elim hk (fun h => (Or.inl ⟨(h).1, (Or.elim (h).2 (fun h => (Or.inl h)) (fun h => (Or.inr (Or.inl h))))⟩)) (fun h => (Or.elim h (fun h => (Or.inr (Or.inl h))) (fun h => (Or.inr (Or.inr (Or.inl h))))))))  h) (fun q7 h_q7 => ?_)
      refine post_let (fun M10 e_M10 => ?_)
      have h_M10 : Fr W M0 M10 := by rw [e_M10]; exact Fr.setI h_q7 (hW _ _ (Or.inl ⟨rfl, (Or.inr (Or.inl rfl))⟩))
      refine post_let (fun M12 e_M12 => ?_)
      have h_M12 : Fr W M0 M12 := by rw [e_M12]; exact Fr.setI h_M10 (hW _ _ (Or.inl ⟨rfl, (Or.inr (Or.inr (Or.inl rfl)))⟩))
      exact post_some h_M12
  · refine post_let (fun q2 _ => ?_)
    refine post_ite (fun c_3 => ?_) (fun c_3 => ?_)
    · exact (fr_Formula_readSign_L57 (fun k j hk => hW k j (Or.elim hk (fun h => (Or.inl ⟨(h).1, (Or.elim (h).2 (fun h => (Or.inl h)) (fun h => (Or.elim h (fun h => (Or.inr (Or.inl h))) (fun h => (Or.elim h (fun h => (Or.inr (Or.inr (Or.inr (Or.inl h))))) (fun h => (Or.elim h (fun h => (Or.inr (Or.inr (Or.inr (Or.inr (Or.inl h)))))) (fun h => (Or.inr (Or.inr (Or.inr (Or.inr (Or.inr h)))))))))))))⟩)) (fun h => (Or.elim h (fun h => (Or.inr (Or.inl h))) (fun h => (Or.elim h (fun h => (Or.inr (Or.inr (Or.inl h)))) (fun h => (Or.elim h (fun h => (Or.inr (Or.inr (Or.inr (Or.inl h))))) (fun h => (Or.inr (Or.inr (Or.inr (Or.inr ⟨(h).1, (h).2⟩)))))))))))))  h)
    · exact (fr_Formula_readSign_L57 (fun k j hk => hW k j (Or.elim hk (fun h => (Or.inl ⟨(h).1, (Or.elim (h).2 (fun h => (Or.inl h)) (fun h => (Or.elim h (fun h => (Or.inr (Or.inl h))) (fun h => (Or.elim h (fun h => (Or.inr (Or.inr (Or.inr (Or.inl h))))) (fun h => (Or.elim h (fun h => (Or.inr (Or.inr (Or.inr (Or.inr (Or.inl h)))))) (fun h => (Or.inr (Or.inr (Or.inr (Or.inr (Or.inr h)))))))))))))⟩)) (fun h => (Or.elim h (fun h => (Or.inr (Or.inl h))) (fun h => (Or.elim h (fun h => (Or.inr (Or.inr (Or.inl h)))) (fun h => (Or.elim h (fun h => (Or.inr (Or.inr (Or.inr (Or.inl h))))) (fun h => (Or.inr (Or.inr (Or.inr (Or.inr ⟨(h).1, (h).2⟩)))))))))))))  h)
def W_Formula_read_L122 (k0 : Nat) : Nat → Int → Prop := fun k j => (k = k0 ∧ (j = 7))
theorem fr_Formula_read_L122 {k0 : Nat} {x2 : Int} {k3 : Nat} {bk33 : Mem → Int → Option (Mem × Int)} {v3_ : Int} {v4_ : Int} {W : Nat → Int → Prop} {M0 : Mem} (hW : ∀ k j, (W_Formula_read_L122 k0) k j → W k j) (hbk33 : ∀ (a0_ : Mem) (a1_ : Int), Fr W M0 a0_ → Post (fun r => Fr W M0 r.1) (bk33 a0_ a1_)) {M : Mem} (h : Fr W M0 M) : Post (fun r => Fr W M0 r.1) (t_Formula_read_L122 k0 x2 k3 bk33 M v3_ v4_) := by
  unfold t_Formula_read_L122
  refine post_ite (fun c_1 => ?_) (fun c_1 => ?_)
  · refine post_let (fun M30 e_M30 => ?_)
    have h_M30 : Fr W M0 M30 := by rw [e_M30]; exact Fr.setI h (hW _ _ ⟨rfl, rfl⟩)
    exact hbk33 _ _ h_M30
  · exact post_some h
def W_Formula_read_L87 (k0 : Nat) (k3 : Nat) : Nat → Int → Prop := fun k j => (k = k0 ∧ (j = 3 ∨ j = 6 ∨ j = 7 ∨ j = 8 ∨ j = 9 ∨ j = 10 ∨ j = 11)) ∨ k = k0 + 1 ∨ k = k0 + 2 ∨ k = k0 + 4 ∨ (k = k3 ∧ (j = 16))
theorem fr_Formula_read_L87 {k0 : Nat} {x2 : Int} {k3 : Nat} {bk33 : Mem → Int → Option (Mem × Int)} {v3_ : Int} {v4_ : Int} {W : Nat → Int → Prop} {M0 : Mem} (hW : ∀ k j, (W_Formula_read_L87 k0 k3) k j → W k j) (hbk33 : ∀ (a0_ : Mem) (a1_ : Int), Fr W M0 a0_ → Post (fun r => Fr W M0 r.1) (bk33 a0_ a1_)) {M : Mem} (h : Fr W M0 M) : Post (fun r => Fr W M0 r.1) (t_Formula_read_L87 k0 x2 k3 bk33 M v3_ v4_) := by
  unfold t_Formula_read_L87
  refine post_ite (fun c_1 => ?_) (fun c_1 => ?_)
  · refine post_bind (Q := fun r => Fr W M0 r.1) (fr_Formula_readSign (fun k j hk => hW k j (Or.elim hk (fun h => (Or.inl ⟨(h).1, (Or.elim (h).2 (fun h => (Or.inl h)) (fun h => (Or.elim h (fun h => (Or.inr (Or.inl h))) (fun h => (Or.elim h (fun h => (Or.inr (Or.inr (Or.inr (Or.inl h))))) (fun h => (Or.elim h (fun h => (Or.inr (Or.inr (Or.inr (Or.inr (Or.inl h)))))) (fun h => (Or.elim h (fun h => (Or.inr (Or.inr (Or.inr (Or.inr (Or.inr (Or.inl h))))))) (fun h => (Or.inr (Or.inr (Or.inr (Or.inr (Or.inr (Or.inr h))))))))))))))))⟩)) (fun h => (Or.elim h (fun h => (Or.inr (Or.inl h))) (fun h => (Or.elim h (fun h => (Or.inr (Or.inr (Or.inl h)))) (fun h => (Or.elim h (fun h => (Or.inr (Or.inr (Or.inr (Or.inl h))))) (fun h => (Or.inr (Or.inr (Or.inr (Or.inr ⟨(h).1, (h).2⟩)))))))))))))  h) (fun q21 h_q21 => ?_)
    exact (fr_Formula_read_L122 (fun k j hk => hW k j (Or.inl ⟨(hk).1, (Or.inr (Or.inr (Or.inl (hk).2)))⟩)) hbk33 h_q21)
  · refine post_let (fun q24 _ => ?_)
    refine post_let (fun q26 e_q26 => ?_)
    have h_q26 : Fr W M0 q26.1 := by rw [e_q26]; exact (fr_Formula_readPart (fun k j hk => hW k j (Or.elim hk (fun h => (Or.inl ⟨(h).1, (Or.elim (h).2 (fun h => (Or.inl h)) (fun h => (Or.elim h (fun h => (Or.inr (Or.inl h))) (fun h => (Or.elim h (fun h => (Or.inr (Or.inr (Or.inr (Or.inl h))))) (fun h => (Or.elim h (fun h => (Or.inr (Or.inr (Or.inr (Or.inr (Or.inl h)))))) (fun h => (Or.elim h (fun h => (Or.inr (Or.inr (Or.inr (Or.inr (Or.inr (Or.inl h))))))) (fun h => (Or.inr (Or.inr (Or.inr (Or.inr (Or.inr (Or.inr h))))))))))))))))⟩)) (fun h => (Or.elim h (fun h => (Or.inr (Or.inl h))) (fun h => (Or.elim h (fun h => (Or.inr (Or.inr (Or.inl h)))) (fun h => (Or.elim h (fun h => (Or.inr (Or.inr (Or.inr (Or.inl h))))) (fun h => (Or.inr (Or.inr (Or.inr (Or.inr ⟨(h).1, (h).2⟩)))))))))))))  h)
    exact (fr_Formula_read_L122 (fun k j hk => hW k j (Or.inl ⟨(hk).1, (Or.inr (Or.inr (Or.inl (hk).2)))⟩)) hbk33 h_q26)
def W_Formula_read_L33 (k0 : Nat) (k3 : Nat) : Nat → Int → Prop := fun k j => (k = k0 ∧ (j = 3 ∨ j = 4 ∨ j = 6 ∨ j = 7 ∨ j = 8 ∨ j = 9 ∨ j = 10 ∨ j = 11)) ∨ k = k0 + 1 ∨ k = k0 + 2 ∨ k = k0 + 4 ∨ (k = k3 ∧ (j = 16))
theorem fr_Formula_read_L33 {k0 : Nat} {x2 : Int} {k3 : Nat} {W : Nat → Int → Prop} {M0 : Mem} (hW : ∀ k j, (W_Formula_read_L33 k0 k3) k j → W k j)  : ∀ (fu : Nat) (M : Mem) (v3_ : Int), Fr W M0 M → Post (fun r => Fr W M0 r.1) (t_Formula_read_L33 k0 x2 k3 fu M v3_) := by
  intro fu
  induction fu with
  | zero => intro M v3_ h; exact post_none
  | succ fu ih =>
    intro M v3_ h
    rw [t_Formula_read_L33]
    refine post_ite (fun c_1 => ?_) (fun c_1 => ?_)
    · exact post_some h
    · refine post_let (fun q9 _ => ?_)
      refine post_ite (fun c_2 => ?_) (fun c_2 => ?_)
      · refine post_ite (fun c_3 => ?_) (fun c_3 => ?_)
        · refine post_ite (fun c_4 => ?_) (fun c_4 => ?_)
          · refine post_bind (Q := fun r => Fr W M0 r) (fr_Formula_release (fun k j hk => hW k j (Or.elim hk (fun h => (Or.inl ⟨(h).1, (Or.elim (h).2 (fun h => (Or.inl h)) (fun h => (Or.inr (Or.inr (Or.inl h)))))⟩)) (fun h => (Or.elim h (fun h => (Or.inr (Or.inl h))) (fun h => (Or.inr (Or.inr (Or.inl h))))))))  h) (fun q16 h_q16 => ?_)
            refine post_let (fun M18 e_M18 => ?_)
            have h_M18 : Fr W M0 M18 := by rw [e_M18]; exact Fr.setI h_q16 (hW _ _ (Or.inl ⟨rfl, (Or.inr (Or.inl rfl))⟩))
            exact post_some h_M18
          · exact (fr_Formula_read_L87 (fun k j hk => hW k j (Or.elim hk (fun h => (Or.inl ⟨(h).1, (Or.elim (h).2 (fun h => (Or.inl h)) (fun h => (Or.elim h (fun h => (Or.inr (Or.inr (Or.inl h)))) (fun h => (Or.elim h (fun h => (Or.inr (Or.inr (Or.inr (Or.inl h))))) (fun h => (Or.elim h (fun h => (Or.inr (Or.inr (Or.inr (Or.inr (Or.inl h)))))) (fun h => (Or.elim h (fun h => (Or.inr (Or.inr (Or.inr (Or.inr (Or.inr (Or.inl h))))))) (fun h => (Or.elim h (fun h => (Or.inr (Or.inr (Or.inr (Or.inr (Or.inr (Or.inr (Or.inl h)))))))) (fun h => (Or.inr (Or.inr (Or.inr (Or.inr (Or.inr (Or.inr (Or.inr h)))))))))))))))))))⟩)) (fun h => (Or.elim h (fun h => (Or.inr (Or.inl h))) (fun h => (Or.elim h (fun h => (Or.inr (Or.inr (Or.inl h)))) (fun h => (Or.elim h (fun h => (Or.inr (Or.inr (Or.inr (Or.inl h))))) (fun h => (Or.inr (Or.inr (Or.inr (Or.inr ⟨(h).1, (h).2⟩))))))))))))) (fun a0_ a1_ h9 => ih a0_ a1_ h9) h)
        · exact (fr_Formula_read_L87 (fun k j hk => hW k j (Or.elim hk (fun h => (Or.inl ⟨(h).1, (Or.elim (h).2 (fun h => (Or.inl h)) (fun h => (Or.elim h (fun h => (Or.inr (Or.inr (Or.inl h)))) (fun h => (Or.elim h (fun h => (Or.inr (Or.inr (Or.inr (Or.inl h))))) (fun h => (Or.elim h (fun h => (Or.inr (Or.inr (Or.inr (Or.inr (Or.inl h)))))) (fun h => (Or.elim h (fun h => (Or.inr (Or.inr (Or.inr (Or.inr (Or.inr (Or.inl h))))))) (fun h => (Or.elim h (fun h => (Or.inr (Or.inr (Or.inr (Or.inr (Or.inr (Or.inr (Or.inl h)))))))) (fun h => (Or.inr (Or.inr (Or.inr (Or.inr (Or.inr (Or.inr (Or.inr h)))))))))))))))))))⟩)) (fun h => (Or.elim h (fun h => (Or.inr (Or.inl h))) (fun h => (Or.elim h (fun h => (Or.inr (Or.inr (Or.inl h)))) (fun h => (Or.elim h (fun h => (Or.inr (Or.inr (Or.inr (Or.inl h))))) (fun h => (Or.inr (Or.inr (Or.inr (Or.inr ⟨(h).1, (h).2⟩))))))))))))) (fun a0_ a1_ h9 => ih a0_ a1_ h9) h)
      · exact (fr_Formula_read_L87 (fun k j hk => hW k j (Or.elim hk (fun h => (Or.inl ⟨(h).1, (Or.elim (h).2 (fun h => (Or.inl h)) (fun h => (Or.elim h (fun h => (Or.inr (Or.inr (Or.inl h)))) (fun h => (Or.elim h (fun h => (Or.inr (Or.inr (Or.inr (Or.inl h))))) (fun h => (Or.elim h (fun h => (Or.inr (Or.inr (Or.inr (Or.inr (Or.inl h)))))) (fun h => (Or.elim h (fun h => (Or.inr (Or.inr (Or.inr (Or.inr (Or.inr (Or.inl h))))))) (fun h => (Or.elim h (fun h => (Or.inr (Or.inr (Or.inr (Or.inr (Or.inr (Or.inr (Or.inl h)))))))) (fun h => (Or.inr (Or.inr (Or.inr (Or.inr (Or.inr (Or.inr (Or.inr h)))))))))))))))))))⟩)) (fun h => (Or.elim h (fun h => (Or.inr (Or.inl h))) (fun h => (Or.elim h (fun h => (Or.inr (Or.inr (Or.inl h)))) (fun h => (Or.elim h (fun h => (Or.inr (Or.inr (Or.inr (Or.inl h))))) (fun h => (Or.inr (Or.inr (Or.inr (Or.inr ⟨(h).1, (h).2⟩))))))))))))) (fun a0_ a1_ h9 => ih a0_ a1_ h9) h)
def W_Formula_read (k0 : Nat) (k3 : Nat) : Nat → Int → Prop := fun k j => (k = k0 ∧ (j = 3 ∨ j = 4 ∨ j = 6 ∨ j = 7 ∨ j = 8 ∨ j = 9 ∨ j = 10 ∨ j = 11)) ∨ k = k0 + 1 ∨ k = k0 + 2 ∨ k = k0 + 4 ∨ (k = k3 ∧ (j = 16))
theorem fr_Formula_read {k0 : Nat} {x2 : Int} {k3 : Nat} {W : Nat → Int → Prop} {M0 : Mem} (hW : ∀ k j, (W_Formula_read k0 k3) k j → W k j)  {M : Mem} (h : Fr W M0 M) : Post (fun r => Fr W M0 r.1) (t_Formula_read M k0 x2 k3) := by
  unfold t_Formula_read
  refine post_let (fun M1 e_M1 => ?_)
  have h_M1 : Fr W M0 M1 := by rw [e_M1]; exact Fr.setI h (hW _ _ (Or.inl ⟨rfl, (Or.inr (Or.inr (Or.inr (Or.inl rfl))))⟩))
  refine post_let (fun M2 e_M2 => ?_)
  have h_M2 : Fr W M0 M2 := by rw [e_M2]; exact Fr.setI h_M1 (hW _ _ (Or.inl ⟨rfl, (Or.inr (Or.inr (Or.inl rfl)))⟩))
  refine post_let (fun M3 e_M3 => ?_)
  have h_M3 : Fr W M0 M3 := by rw [e_M3]; exact Fr.setI h_M2 (hW _ _ (Or.inl ⟨rfl, (Or.inr (Or.inr (Or.inr (Or.inr (Or.inl rfl)))))⟩))
  refine post_let (fun M4 e_M4 => ?_)
  have h_M4 : Fr W M0 M4 := by rw [e_M4]; exact Fr.setI h_M3 (hW _ _ (Or.inl ⟨rfl, (Or.inr (Or.inr (Or.inr (Or.inr (Or.inr (Or.inl rfl))))))⟩))
  refine post_let (fun M5 e_M5 => ?_)
  have h_M5 : Fr W M0 M5 := by rw [e_M5]; exact Fr.setI h_M4 (hW _ _ (Or.inl ⟨rfl, (Or.inr (Or.inr (Or.inr (Or.inr (Or.inr (Or.inr (Or.inl rfl)))))))⟩))
  refine post_let (fun M6 e_M6 => ?_)
  have h_M6 : Fr W M0 M6 := by rw [e_M6]; exact Fr.setI h_M5 (hW _ _ (Or.inl ⟨rfl, (Or.inr (Or.inr (Or.inr (Or.inr (Or.inr (Or.inr (Or.inr rfl)))))))⟩))
  exact (fr_Formula_read_L33 (fun k j hk => hW k j (Or.elim hk (fun h => (Or.inl ⟨(h).1, (Or.elim (h).2 (fun h => (Or.inl h)) (fun h => (Or.elim h (fun h => (Or.inr (Or.inl h))) (fun h => (Or.elim h (fun h => (Or.inr (Or.inr (Or.inl h)))) (fun h => (Or.elim h (fun h => (Or.inr (Or.inr (Or.inr (Or.inl h))))) (fun h => (Or.elim h (fun h => (Or.inr (Or.inr (Or.inr (Or.inr (Or.inl h)))))) (fun h => (Or.elim h (fun h => (Or.inr (Or.inr (Or.inr (Or.inr (Or.inr (Or.inl h))))))) (fun h => (Or.elim h (fun h => (Or.inr (Or.inr (Or.inr (Or.inr (Or.inr (Or.inr (Or.inl h)))))))) (fun h => (Or.inr (Or.inr (Or.inr (Or.inr (Or.inr (Or.inr (Or.inr h)))))))))))))))))))))⟩)) (fun h => (Or.elim h (fun h => (Or.inr (Or.inl h))) (fun h => (Or.elim h (fun h => (Or.inr (Or.inr (Or.inl h)))) (fun h => (Or.elim h (fun h => (Or.inr (Or.inr (Or.inr (Or.inl h))))) (fun h => (Or.inr (Or.inr (Or.inr (Or.inr ⟨(h).1, (h).2⟩)))))))))))))  _ _ _ h_M6)
def W_Reader_readLaw_L102 : Nat → Int → Prop := fun k j => (k = 46 ∧ (j = 1 ∨ j = 2 ∨ j = 3 ∨ j = 4 ∨ j = 5 ∨ j = 9 ∨ j = 10))
theorem fr_Reader_readLaw_L102 {k1 : Nat} {u1_ : Nat} {v2_ : Int} {W : Nat → Int → Prop} {M0 : Mem} (hW : ∀ k j, (W_Reader_readLaw_L102) k j → W k j)  {M : Mem} (h : Fr W M0 M) : Post (fun r => Fr W M0 r.1) (t_Reader_readLaw_L102 k1 M u1_ v2_) := by
  unfold t_Reader_readLaw_L102
  refine post_bind (Q := fun r => Fr W M0 r) (fr_Reader_goTo (fun k j hk => hW k j ⟨(hk).1, (Or.elim (hk).2 (fun h => (Or.inl h)) (fun h => (Or.elim h (fun h => (Or.inr (Or.inl h))) (fun h => (Or.elim h (fun h => (Or.inr (Or.inr (Or.inl h)))) (fun h => (Or.elim h (fun h => (Or.inr (Or.inr (Or.inr (Or.inl h))))) (fun h => (Or.inr (Or.inr (Or.inr (Or.inr (Or.inl h)))))))))))))⟩)  h) (fun q24 h_q24 => ?_)
  refine post_ite (fun c_1 => ?_) (fun c_1 => ?_)
  · exact post_some h_q24
  · refine post_let (fun q28 e_q28 => ?_)
    have h_q28 : Fr W M0 q28.1 := by rw [e_q28]; exact (fr_Reader_refuse (fun k j hk => hW k j ⟨(hk).1, (Or.elim (hk).2 (fun h => (Or.inr (Or.inr (Or.inr (Or.inr (Or.inr (Or.inl h))))))) (fun h => (Or.inr (Or.inr (Or.inr (Or.inr (Or.inr (Or.inr h))))))))⟩)  h_q24)
    refine post_ite (fun c_2 => ?_) (fun c_2 => ?_)
    · exact post_some h_q28
    · exact post_some h_q28
def W_Reader_readLaw_L58 (k1 : Nat) (u2_ : Nat) : Nat → Int → Prop := fun k j => (k = 46 ∧ (j = 1 ∨ j = 2 ∨ j = 3 ∨ j = 4 ∨ j = 5 ∨ j = 9 ∨ j = 10)) ∨ (k = k1 ∧ (j = 16)) ∨ (k = u2_ ∧ (j = 3 ∨ j = 4 ∨ j = 6 ∨ j = 7 ∨ j = 8 ∨ j = 9 ∨ j = 10 ∨ j = 11)) ∨ k = u2_ + 1 ∨ k = u2_ + 2 ∨ k = u2_ + 4
theorem fr_Reader_readLaw_L58 {k1 : Nat} {u2_ : Nat} {W : Nat → Int → Prop} {M0 : Mem} (hW : ∀ k j, (W_Reader_readLaw_L58 k1 u2_) k j → W k j)  {M : Mem} (h : Fr W M0 M) : Post (fun r => Fr W M0 r.1) (t_Reader_readLaw_L58 k1 M u2_) := by
  unfold t_Reader_readLaw_L58
  refine post_ite (fun c_1 => ?_) (fun c_1 => ?_)
  · refine post_ite (fun c_2 => ?_) (fun c_2 => ?_)
    · exact (fr_Reader_readLaw_L102 (fun k j hk => hW k j (Or.inl ⟨(hk).1, (Or.elim (hk).2 (fun h => (Or.inl h)) (fun h => (Or.elim h (fun h => (Or.inr (Or.inl h))) (fun h => (Or.elim h (fun h => (Or.inr (Or.inr (Or.inl h)))) (fun h => (Or.elim h (fun h => (Or.inr (Or.inr (Or.inr (Or.inl h))))) (fun h => (Or.elim h (fun h => (Or.inr (Or.inr (Or.inr (Or.inr (Or.inl h)))))) (fun h => (Or.elim h (fun h => (Or.inr (Or.inr (Or.inr (Or.inr (Or.inr (Or.inl h))))))) (fun h => (Or.inr (Or.inr (Or.inr (Or.inr (Or.inr (Or.inr h))))))))))))))))))⟩))  h)
    · refine post_ite (fun c_3 => ?_) (fun c_3 => ?_)
      · exact post_none
      · refine post_bind (Q := fun r => Fr W M0 r.1) (fr_Formula_read (fun k j hk => hW k j (Or.elim hk (fun h => (Or.inr (Or.inr (Or.inl ⟨(h).1, (Or.elim (h).2 (fun h => (Or.inl h)) (fun h => (Or.elim h (fun h => (Or.inr (Or.inl h))) (fun h => (Or.elim h (fun h => (Or.inr (Or.inr (Or.inl h)))) (fun h => (Or.elim h (fun h => (Or.inr (Or.inr (Or.inr (Or.inl h))))) (fun h => (Or.elim h (fun h => (Or.inr (Or.inr (Or.inr (Or.inr (Or.inl h)))))) (fun h => (Or.elim h (fun h => (Or.inr (Or.inr (Or.inr (Or.inr (Or.inr (Or.inl h))))))) (fun h => (Or.elim h (fun h => (Or.inr (Or.inr (Or.inr (Or.inr (Or.inr (Or.inr (Or.inl h)))))))) (fun h => (Or.inr (Or.inr (Or.inr (Or.inr (Or.inr (Or.inr (Or.inr h)))))))))))))))))))))⟩)))) (fun h => (Or.elim h (fun h => (Or.inr (Or.inr (Or.inr (Or.inl h))))) (fun h => (Or.elim h (fun h => (Or.inr (Or.inr (Or.inr (Or.inr (Or.inl h)))))) (fun h => (Or.elim h (fun h => (Or.inr (Or.inr (Or.inr (Or.inr (Or.inr h)))))) (fun h => (Or.inr (Or.inl ⟨(h).1, (h).2⟩)))))))))))  h) (fun q18 h_q18 => ?_)
        exact (fr_Reader_readLaw_L102 (fun k j hk => hW k j (Or.inl ⟨(hk).1, (Or.elim (hk).2 (fun h => (Or.inl h)) (fun h => (Or.elim h (fun h => (Or.inr (Or.inl h))) (fun h => (Or.elim h (fun h => (Or.inr (Or.inr (Or.inl h)))) (fun h => (Or.elim h (fun h => (Or.inr (Or.inr (Or.inr (Or.inl h))))) (fun h => (Or.elim h (fun h => (Or.inr (Or.inr (Or.inr (Or.inr (Or.inl h)))))) (fun h => (Or.elim h (fun h => (Or.inr (Or.inr (Or.inr (Or.inr (Or.inr (Or.inl h))))))) (fun h => (Or.inr (Or.inr (Or.inr (Or.inr (Or.inr (Or.inr h))))))))))))))))))⟩))  h_q18)
  · refine post_let (fun q21 e_q21 => ?_)
    have h_q21 : Fr W M0 q21.1 := by rw [e_q21]; exact (fr_Reader_refuse (fun k j hk => hW k j (Or.inl ⟨(hk).1, (Or.elim (hk).2 (fun h => (Or.inr (Or.inr (Or.inr (Or.inr (Or.inr (Or.inl h))))))) (fun h => (Or.inr (Or.inr (Or.inr (Or.inr (Or.inr (Or.inr h))))))))⟩))  h)
    exact post_some h_q21
def W_Reader_readLaw_L38 (k1 : Nat) : Nat → Int → Prop := fun k j => (k = 46 ∧ (j = 1 ∨ j = 2 ∨ j = 3 ∨ j = 4 ∨ j = 5 ∨ j = 9 ∨ j = 10)) ∨ (k = k1 ∧ (j = 16)) ∨ (k = k1 + 10 ∧ (j = 3 ∨ j = 4 ∨ j = 6 ∨ j = 7 ∨ j = 8 ∨ j = 9 ∨ j = 10 ∨ j = 11)) ∨ k = k1 + 11 ∨ k = k1 + 12 ∨ k = k1 + 14 ∨ (k = k1 + 15 ∧ (j = 3 ∨ j = 4 ∨ j = 6 ∨ j = 7 ∨ j = 8 ∨ j = 9 ∨ j = 10 ∨ j = 11)) ∨ k = k1 + 16 ∨ k = k1 + 17 ∨ k = k1 + 19
theorem fr_Reader_readLaw_L38 {k1 : Nat} {W : Nat → Int → Prop} {M0 : Mem} (hW : ∀ k j, (W_Reader_readLaw_L38 k1) k j → W k j)  {M : Mem} (h : Fr W M0 M) : Post (fun r => Fr W M0 r.1) (t_Reader_readLaw_L38 k1 M) := by
  unfold t_Reader_readLaw_L38
  refine post_ite (fun c_1 => ?_) (fun c_1 => ?_)
  · exact (fr_Reader_readLaw_L58 (fun k j hk => hW k j (Or.elim hk (fun h => (Or.inl ⟨(h).1, (Or.elim (h).2 (fun h => (Or.inl h)) (fun h => (Or.elim h (fun h => (Or.inr (Or.inl h))) (fun h => (Or.elim h (fun h => (Or.inr (Or.inr (Or.inl h)))) (fun h => (Or.elim h (fun h => (Or.inr (Or.inr (Or.inr (Or.inl h))))) (fun h => (Or.elim h (fun h => (Or.inr (Or.inr (Or.inr (Or.inr (Or.inl h)))))) (fun h => (Or.elim h (fun h => (Or.inr (Or.inr (Or.inr (Or.inr (Or.inr (Or.inl h))))))) (fun h => (Or.inr (Or.inr (Or.inr (Or.inr (Or.inr (Or.inr h))))))))))))))))))⟩)) (fun h => (Or.elim h (fun h => (Or.inr (Or.inl ⟨(h).1, (h).2⟩))) (fun h => (Or.elim h (fun h => (Or.inr (Or.inr (Or.inl ⟨(h).1, (Or.elim (h).2 (fun h => (Or.inl h)) (fun h => (Or.elim h (fun h => (Or.inr (Or.inl h))) (fun h => (Or.elim h (fun h => (Or.inr (Or.inr (Or.inl h)))) (fun h => (Or.elim h (fun h => (Or.inr (Or.inr (Or.inr (Or.inl h))))) (fun h => (Or.elim h (fun h => (Or.inr (Or.inr (Or.inr (Or.inr (Or.inl h)))))) (fun h => (Or.elim h (fun h => (Or.inr (Or.inr (Or.inr (Or.inr (Or.inr (Or.inl h))))))) (fun h => (Or.elim h (fun h => (Or.inr (Or.inr (Or.inr (Or.inr (Or.inr (Or.inr (Or.inl h)))))))) (fun h => (Or.inr (Or.inr (Or.inr (Or.inr (Or.inr (Or.inr (Or.inr h)))))))))))))))))))))⟩)))) (fun h => (Or.elim h (fun h => (Or.inr (Or.inr (Or.inr (Or.inl h))))) (fun h => (Or.elim h (fun h => (Or.inr (Or.inr (Or.inr (Or.inr (Or.inl h)))))) (fun h => (Or.inr (Or.inr (Or.inr (Or.inr (Or.inr (Or.inl h)))))))))))))))))  h)
  · exact (fr_Reader_readLaw_L58 (fun k j hk => hW k j (Or.elim hk (fun h => (Or.inl ⟨(h).1, (Or.elim (h).2 (fun h => (Or.inl h)) (fun h => (Or.elim h (fun h => (Or.inr (Or.inl h))) (fun h => (Or.elim h (fun h => (Or.inr (Or.inr (Or.inl h)))) (fun h => (Or.elim h (fun h => (Or.inr (Or.inr (Or.inr (Or.inl h))))) (fun h => (Or.elim h (fun h => (Or.inr (Or.inr (Or.inr (Or.inr (Or.inl h)))))) (fun h => (Or.elim h (fun h => (Or.inr (Or.inr (Or.inr (Or.inr (Or.inr (Or.inl h))))))) (fun h => (Or.inr (Or.inr (Or.inr (Or.inr (Or.inr (Or.inr h))))))))))))))))))⟩)) (fun h => (Or.elim h (fun h => (Or.inr (Or.inl ⟨(h).1, (h).2⟩))) (fun h => (Or.elim h (fun h => (Or.inr (Or.inr (Or.inr (Or.inr (Or.inr (Or.inr (Or.inl ⟨(h).1, (Or.elim (h).2 (fun h => (Or.inl h)) (fun h => (Or.elim h (fun h => (Or.inr (Or.inl h))) (fun h => (Or.elim h (fun h => (Or.inr (Or.inr (Or.inl h)))) (fun h => (Or.elim h (fun h => (Or.inr (Or.inr (Or.inr (Or.inl h))))) (fun h => (Or.elim h (fun h => (Or.inr (Or.inr (Or.inr (Or.inr (Or.inl h)))))) (fun h => (Or.elim h (fun h => (Or.inr (Or.inr (Or.inr (Or.inr (Or.inr (Or.inl h))))))) (fun h => (Or.elim h (fun h => (Or.inr (Or.inr (Or.inr (Or.inr (Or.inr (Or.inr (Or.inl h)))))))) (fun h => (Or.inr (Or.inr (Or.inr (Or.inr (Or.inr (Or.inr (Or.inr h)))))))))))))))))))))⟩)))))))) (fun h => (Or.elim h (fun h => (Or.inr (Or.inr (Or.inr (Or.inr (Or.inr (Or.inr (Or.inr (Or.inl h))))))))) (fun h => (Or.elim h (fun h => (Or.inr (Or.inr (Or.inr (Or.inr (Or.inr (Or.inr (Or.inr (Or.inr (Or.inl h)))))))))) (fun h => (Or.inr (Or.inr (Or.inr (Or.inr (Or.inr (Or.inr (Or.inr (Or.inr (Or.inr h))))))))))))))))))))  h)
def W_Reader_readLaw (k1 : Nat) : Nat → Int → Prop := fun k j => (k = 46 ∧ (j = 1 ∨ j = 2 ∨ j = 3 ∨ j = 4 ∨ j = 5 ∨ j = 9 ∨ j = 10)) ∨ (k = k1 ∧ (j = 16)) ∨ (k = k1 + 10 ∧ (j = 3 ∨ j = 4 ∨ j = 6 ∨ j = 7 ∨ j = 8 ∨ j = 9 ∨ j = 10 ∨ j = 11)) ∨ k = k1 + 11 ∨ k = k1 + 12 ∨ k = k1 + 14 ∨ (k = k1 + 15 ∧ (j = 3 ∨ j = 4 ∨ j = 6 ∨ j = 7 ∨ j = 8 ∨ j = 9 ∨ j = 10 ∨ j = 11)) ∨ k = k1 + 16 ∨ k = k1 + 17 ∨ k = k1 + 19
theorem fr_Reader_readLaw {k1 : Nat} {W : Nat → Int → Prop} {M0 : Mem} (hW : ∀ k j, (W_Reader_readLaw k1) k j → W k j)  {M : Mem} (h : Fr W M0 M) : Post (fun r => Fr W M0 r.1) (t_Reader_readLaw M k1) := by
  unfold t_Reader_readLaw
  refine post_bind (Q := fun r => Fr W M0 r) (fr_Reader_goTo (fun k j hk => hW k j (Or.inl ⟨(hk).1, (Or.elim (hk).2 (fun h => (Or.inl h)) (fun h => (Or.elim h (fun h => (Or.inr (Or.inl h))) (fun h => (Or.elim h (fun h => (Or.inr (Or.inr (Or.inl h)))) (fun h => (Or.elim h (fun h => (Or.inr (Or.inr (Or.inr (Or.inl h))))) (fun h => (Or.inr (Or.inr (Or.inr (Or.inr (Or.inl h)))))))))))))⟩))  h) (fun q2 h_q2 => ?_)
  refine post_ite (fun c_1 => ?_) (fun c_1 => ?_)
  · exact (fr_Reader_readLaw_L38 (fun k j hk => hW k j (Or.elim hk (fun h => (Or.inl ⟨(h).1, (Or.elim (h).2 (fun h => (Or.inl h)) (fun h => (Or.elim h (fun h => (Or.inr (Or.inl h))) (fun h => (Or.elim h (fun h => (Or.inr (Or.inr (Or.inl h)))) (fun h => (Or.elim h (fun h => (Or.inr (Or.inr (Or.inr (Or.inl h))))) (fun h => (Or.elim h (fun h => (Or.inr (Or.inr (Or.inr (Or.inr (Or.inl h)))))) (fun h => (Or.elim h (fun h => (Or.inr (Or.inr (Or.inr (Or.inr (Or.inr (Or.inl h))))))) (fun h => (Or.inr (Or.inr (Or.inr (Or.inr (Or.inr (Or.inr h))))))))))))))))))⟩)) (fun h => (Or.elim h (fun h => (Or.inr (Or.inl ⟨(h).1, (h).2⟩))) (fun h => (Or.elim h (fun h => (Or.inr (Or.inr (Or.inl ⟨(h).1, (Or.elim (h).2 (fun h => (Or.inl h)) (fun h => (Or.elim h (fun h => (Or.inr (Or.inl h))) (fun h => (Or.elim h (fun h => (Or.inr (Or.inr (Or.inl h)))) (fun h => (Or.elim h (fun h => (Or.inr (Or.inr (Or.inr (Or.inl h))))) (fun h => (Or.elim h (fun h => (Or.inr (Or.inr (Or.inr (Or.inr (Or.inl h)))))) (fun h => (Or.elim h (fun h => (Or.inr (Or.inr (Or.inr (Or.inr (Or.inr (Or.inl h))))))) (fun h => (Or.elim h (fun h => (Or.inr (Or.inr (Or.inr (Or.inr (Or.inr (Or.inr (Or.inl h)))))))) (fun h => (Or.inr (Or.inr (Or.inr (Or.inr (Or.inr (Or.inr (Or.inr h)))))))))))))))))))))⟩)))) (fun h => (Or.elim h (fun h => (Or.inr (Or.inr (Or.inr (Or.inl h))))) (fun h => (Or.elim h (fun h => (Or.inr (Or.inr (Or.inr (Or.inr (Or.inl h)))))) (fun h => (Or.elim h (fun h => (Or.inr (Or.inr (Or.inr (Or.inr (Or.inr (Or.inl h))))))) (fun h => (Or.elim h (fun h => (Or.inr (Or.inr (Or.inr (Or.inr (Or.inr (Or.inr (Or.inl ⟨(h).1, (Or.elim (h).2 (fun h => (Or.inl h)) (fun h => (Or.elim h (fun h => (Or.inr (Or.inl h))) (fun h => (Or.elim h (fun h => (Or.inr (Or.inr (Or.inl h)))) (fun h => (Or.elim h (fun h => (Or.inr (Or.inr (Or.inr (Or.inl h))))) (fun h => (Or.elim h (fun h => (Or.inr (Or.inr (Or.inr (Or.inr (Or.inl h)))))) (fun h => (Or.elim h (fun h => (Or.inr (Or.inr (Or.inr (Or.inr (Or.inr (Or.inl h))))))) (fun h => (Or.elim h (fun h => (Or.inr (Or.inr (Or.inr (Or.inr (Or.inr (Or.inr (Or.inl h)))))))) (fun h => (Or.inr (Or.inr (Or.inr (Or.inr (Or.inr (Or.inr (Or.inr h)))))))))))))))))))))⟩)))))))) (fun h => (Or.elim h (fun h => (Or.inr (Or.inr (Or.inr (Or.inr (Or.inr (Or.inr (Or.inr (Or.inl h))))))))) (fun h => (Or.elim h (fun h => (Or.inr (Or.inr (Or.inr (Or.inr (Or.inr (Or.inr (Or.inr (Or.inr (Or.inl h)))))))))) (fun h => (Or.inr (Or.inr (Or.inr (Or.inr (Or.inr (Or.inr (Or.inr (Or.inr (Or.inr h))))))))))))))))))))))))))))  h_q2)
  · refine post_ite (fun c_2 => ?_) (fun c_2 => ?_)
    · exact (fr_Reader_readLaw_L38 (fun k j hk => hW k j (Or.elim hk (fun h => (Or.inl ⟨(h).1, (Or.elim (h).2 (fun h => (Or.inl h)) (fun h => (Or.elim h (fun h => (Or.inr (Or.inl h))) (fun h => (Or.elim h (fun h => (Or.inr (Or.inr (Or.inl h)))) (fun h => (Or.elim h (fun h => (Or.inr (Or.inr (Or.inr (Or.inl h))))) (fun h => (Or.elim h (fun h => (Or.inr (Or.inr (Or.inr (Or.inr (Or.inl h)))))) (fun h => (Or.elim h (fun h => (Or.inr (Or.inr (Or.inr (Or.inr (Or.inr (Or.inl h))))))) (fun h => (Or.inr (Or.inr (Or.inr (Or.inr (Or.inr (Or.inr h))))))))))))))))))⟩)) (fun h => (Or.elim h (fun h => (Or.inr (Or.inl ⟨(h).1, (h).2⟩))) (fun h => (Or.elim h (fun h => (Or.inr (Or.inr (Or.inl ⟨(h).1, (Or.elim (h).2 (fun h => (Or.inl h)) (fun h => (Or.elim h (fun h => (Or.inr (Or.inl h))) (fun h => (Or.elim h (fun h => (Or.inr (Or.inr (Or.inl h)))) (fun h => (Or.elim h (fun h => (Or.inr (Or.inr (Or.inr (Or.inl h))))) (fun h => (Or.elim h (fun h => (Or.inr (Or.inr (Or.inr (Or.inr (Or.inl h)))))) (fun h => (Or.elim h (fun h => (Or.inr (Or.inr (Or.inr (Or.inr (Or.inr (Or.inl h))))))) (fun h => (Or.elim h (fun h => (Or.inr (Or.inr (Or.inr (Or.inr (Or.inr (Or.inr (Or.inl h)))))))) (fun h => (Or.inr (Or.inr (Or.inr (Or.inr (Or.inr (Or.inr (Or.inr h)))))))))))))))))))))⟩)))) (fun h => (Or.elim h (fun h => (Or.inr (Or.inr (Or.inr (Or.inl h))))) (fun h => (Or.elim h (fun h => (Or.inr (Or.inr (Or.inr (Or.inr (Or.inl h)))))) (fun h => (Or.elim h (fun h => (Or.inr (Or.inr (Or.inr (Or.inr (Or.inr (Or.inl h))))))) (fun h => (Or.elim h (fun h => (Or.inr (Or.inr (Or.inr (Or.inr (Or.inr (Or.inr (Or.inl ⟨(h).1, (Or.elim (h).2 (fun h => (Or.inl h)) (fun h => (Or.elim h (fun h => (Or.inr (Or.inl h))) (fun h => (Or.elim h (fun h => (Or.inr (Or.inr (Or.inl h)))) (fun h => (Or.elim h (fun h => (Or.inr (Or.inr (Or.inr (Or.inl h))))) (fun h => (Or.elim h (fun h => (Or.inr (Or.inr (Or.inr (Or.inr (Or.inl h)))))) (fun h => (Or.elim h (fun h => (Or.inr (Or.inr (Or.inr (Or.inr (Or.inr (Or.inl h))))))) (fun h => (Or.elim h (fun h => (Or.inr (Or.inr (Or.inr (Or.inr (Or.inr (Or.inr (Or.inl h)))))))) (fun h => (Or.inr (Or.inr (Or.inr (Or.inr (Or.inr (Or.inr (Or.inr h)))))))))))))))))))))⟩)))))))) (fun h => (Or.elim h (fun h => (Or.inr (Or.inr (Or.inr (Or.inr (Or.inr (Or.inr (Or.inr (Or.inl h))))))))) (fun h => (Or.elim h (fun h => (Or.inr (Or.inr (Or.inr (Or.inr (Or.inr (Or.inr (Or.inr (Or.inr (Or.inl h)))))))))) (fun h => (Or.inr (Or.inr (Or.inr (Or.inr (Or.inr (Or.inr (Or.inr (Or.inr (Or.inr h))))))))))))))))))))))))))))  h_q2)
    · refine post_let (fun q9 e_q9 => ?_)
      have h_q9 : Fr W M0 q9.1 := by rw [e_q9]; exact (fr_Reader_refuse (fun k j hk => hW k j (Or.inl ⟨(hk).1, (Or.elim (hk).2 (fun h => (Or.inr (Or.inr (Or.inr (Or.inr (Or.inr (Or.inl h))))))) (fun h => (Or.inr (Or.inr (Or.inr (Or.inr (Or.inr (Or.inr h))))))))⟩))  h_q2)
      exact post_some h_q9
def W_Reader_read_L167 : Nat → Int → Prop := fun k j => (k = 46 ∧ (j = 1 ∨ j = 2 ∨ j = 3 ∨ j = 4 ∨ j = 5 ∨ j = 9 ∨ j = 10))
theorem fr_Reader_read_L167 {k2 : Nat} {bk10 : Mem → Int → Int → Option (Mem × Int)} {v2_ : Int} {v3_ : Int} {v4_ : Int} {W : Nat → Int → Prop} {M0 : Mem} (hW : ∀ k j, (W_Reader_read_L167) k j → W k j) (hbk10 : ∀ (a0_ : Mem) (a1_ : Int) (a2_ : Int), Fr W M0 a0_ → Post (fun r => Fr W M0 r.1) (bk10 a0_ a1_ a2_)) {M : Mem} (h : Fr W M0 M) : Post (fun r => Fr W M0 r.1) (t_Reader_read_L167 k2 bk10 M v2_ v3_ v4_) := by
  unfold t_Reader_read_L167
  refine post_ite (fun c_1 => ?_) (fun c_1 => ?_)
  · exact post_some h
  · refine post_bind (Q := fun r => Fr W M0 r.1) (fr_Reader_take (fun k j hk => hW k j ⟨(hk).1, (Or.elim (hk).2 (fun h => (Or.inl h)) (fun h => (Or.elim h (fun h => (Or.inr (Or.inl h))) (fun h => (Or.elim h (fun h => (Or.inr (Or.inr (Or.inl h)))) (fun h => (Or.elim h (fun h => (Or.inr (Or.inr (Or.inr (Or.inl h))))) (fun h => (Or.elim h (fun h => (Or.inr (Or.inr (Or.inr (Or.inr (Or.inl h)))))) (fun h => (Or.elim h (fun h => (Or.inr (Or.inr (Or.inr (Or.inr (Or.inr (Or.inl h))))))) (fun h => (Or.inr (Or.inr (Or.inr (Or.inr (Or.inr (Or.inr h))))))))))))))))))⟩)  h) (fun q37 h_q37 => ?_)
    refine post_ite (fun c_2 => ?_) (fun c_2 => ?_)
    · exact post_some h_q37
    · exact hbk10 _ _ _ h_q37
def W_Reader_read_L192 (k2 : Nat) : Nat → Int → Prop := fun k j => (k = k2 ∧ (j = 13)) ∨ k = k2 + 4 ∨ k = k2 + 9
theorem fr_Reader_read_L192 {k2 : Nat} {v1_ : Int} {W : Nat → Int → Prop} {M0 : Mem} (hW : ∀ k j, (W_Reader_read_L192 k2) k j → W k j)  {M : Mem} (h : Fr W M0 M) : Post (fun r => Fr W M0 r.1) (t_Reader_read_L192 k2 M v1_) := by
  unfold t_Reader_read_L192
  refine post_bind (Q := fun r => Fr W M0 r) (fr_Town_settle (fun k j hk => hW k j (Or.elim hk (fun h => (Or.inl ⟨(h).1, (h).2⟩)) (fun h => (Or.elim h (fun h => (Or.inr (Or.inl h))) (fun h => (Or.inr (Or.inr h)))))))  h) (fun q34 h_q34 => ?_)
  exact post_some h_q34
def W_Reader_read_L10 (k2 : Nat) : Nat → Int → Prop := fun k j => (k = 46 ∧ (j = 1 ∨ j = 2 ∨ j = 3 ∨ j = 4 ∨ j = 5 ∨ j = 6 ∨ j = 7 ∨ j = 8 ∨ j = 9 ∨ j = 10)) ∨ (k = k2 ∧ (j = 11 ∨ j = 12 ∨ j = 13 ∨ j = 14 ∨ j = 15 ∨ j = 16 ∨ j = 17 ∨ j = 18 ∨ j = 19)) ∨ k = k2 + 1 ∨ (k = k2 + 10 ∧ (j = 3 ∨ j = 4 ∨ j = 6 ∨ j = 7 ∨ j = 8 ∨ j = 9 ∨ j = 10 ∨ j = 11)) ∨ k = k2 + 11 ∨ k = k2 + 12 ∨ k = k2 + 14 ∨ (k = k2 + 15 ∧ (j = 3 ∨ j = 4 ∨ j = 6 ∨ j = 7 ∨ j = 8 ∨ j = 9 ∨ j = 10 ∨ j = 11)) ∨ k = k2 + 16 ∨ k = k2 + 17 ∨ k = k2 + 19 ∨ k = k2 + 2 ∨ k = k2 + 3 ∨ k = k2 + 4 ∨ k = k2 + 5 ∨ k = k2 + 6 ∨ k = k2 + 7 ∨ k = k2 + 8 ∨ k = k2 + 9
theorem fr_Reader_read_L10 {k2 : Nat} {W : Nat → Int → Prop} {M0 : Mem} (hW : ∀ k j, (W_Reader_read_L10 k2) k j → W k j)  : ∀ (fu : Nat) (M : Mem) (v2_ : Int) (v3_ : Int), Fr W M0 M → Post (fun r => Fr W M0 r.1) (t_Reader_read_L10 k2 fu M v2_ v3_) := by
  intro fu
  induction fu with
  | zero => intro M v2_ v3_ h; exact post_none
  | succ fu ih =>
    intro M v2_ v3_ h
    rw [t_Reader_read_L10]
    refine post_ite (fun c_1 => ?_) (fun c_1 => ?_)
    · exact (fr_Reader_read_L192 (fun k j hk => hW k j (Or.elim hk (fun h => (Or.inr (Or.inl ⟨(h).1, (Or.inr (Or.inr (Or.inl (h).2)))⟩))) (fun h => (Or.elim h (fun h => (Or.inr (Or.inr (Or.inr (Or.inr (Or.inr (Or.inr (Or.inr (Or.inr (Or.inr (Or.inr (Or.inr (Or.inr (Or.inr (Or.inl h))))))))))))))) (fun h => (Or.inr (Or.inr (Or.inr (Or.inr (Or.inr (Or.inr (Or.inr (Or.inr (Or.inr (Or.inr (Or.inr (Or.inr (Or.inr (Or.inr (Or.inr (Or.inr (Or.inr (Or.inr h)))))))))))))))))))))))  h)
    · refine post_ite (fun c_2 => ?_) (fun c_2 => ?_)
      · exact (fr_Reader_read_L192 (fun k j hk => hW k j (Or.elim hk (fun h => (Or.inr (Or.inl ⟨(h).1, (Or.inr (Or.inr (Or.inl (h).2)))⟩))) (fun h => (Or.elim h (fun h => (Or.inr (Or.inr (Or.inr (Or.inr (Or.inr (Or.inr (Or.inr (Or.inr (Or.inr (Or.inr (Or.inr (Or.inr (Or.inr (Or.inl h))))))))))))))) (fun h => (Or.inr (Or.inr (Or.inr (Or.inr (Or.inr (Or.inr (Or.inr (Or.inr (Or.inr (Or.inr (Or.inr (Or.inr (Or.inr (Or.inr (Or.inr (Or.inr (Or.inr (Or.inr h)))))))))))))))))))))))  h)
      · refine post_ite (fun c_3 => ?_) (fun c_3 => ?_)
        · refine post_bind (Q := fun r => Fr W M0 r.1) (fr_Reader_readTown (fun k j hk => hW k j (Or.elim hk (fun h => (Or.inl ⟨(h).1, (Or.elim (h).2 (fun h => (Or.inl h)) (fun h => (Or.elim h (fun h => (Or.inr (Or.inl h))) (fun h => (Or.elim h (fun h => (Or.inr (Or.inr (Or.inl h)))) (fun h => (Or.elim h (fun h => (Or.inr (Or.inr (Or.inr (Or.inl h))))) (fun h => (Or.elim h (fun h => (Or.inr (Or.inr (Or.inr (Or.inr (Or.inl h)))))) (fun h => (Or.elim h (fun h => (Or.inr (Or.inr (Or.inr (Or.inr (Or.inr (Or.inr (Or.inl h)))))))) (fun h => (Or.elim h (fun h => (Or.inr (Or.inr (Or.inr (Or.inr (Or.inr (Or.inr (Or.inr (Or.inr (Or.inl h)))))))))) (fun h => (Or.inr (Or.inr (Or.inr (Or.inr (Or.inr (Or.inr (Or.inr (Or.inr (Or.inr h)))))))))))))))))))))))⟩)) (fun h => (Or.inr (Or.inl ⟨(h).1, (Or.elim (h).2 (fun h => (Or.inl h)) (fun h => (Or.inr (Or.inl h))))⟩)))))  h) (fun q8 h_q8 => ?_)
          exact (fr_Reader_read_L167 (fun k j hk => hW k j (Or.inl ⟨(hk).1, (Or.elim (hk).2 (fun h => (Or.inl h)) (fun h => (Or.elim h (fun h => (Or.inr (Or.inl h))) (fun h => (Or.elim h (fun h => (Or.inr (Or.inr (Or.inl h)))) (fun h => (Or.elim h (fun h => (Or.inr (Or.inr (Or.inr (Or.inl h))))) (fun h => (Or.elim h (fun h => (Or.inr (Or.inr (Or.inr (Or.inr (Or.inl h)))))) (fun h => (Or.elim h (fun h => (Or.inr (Or.inr (Or.inr (Or.inr (Or.inr (Or.inr (Or.inr (Or.inr (Or.inl h)))))))))) (fun h => (Or.inr (Or.inr (Or.inr (Or.inr (Or.inr (Or.inr (Or.inr (Or.inr (Or.inr h)))))))))))))))))))))⟩)) (fun a0_ a1_ a2_ h9 => ih a0_ a1_ a2_ h9) h_q8)
        · refine post_ite (fun c_4 => ?_) (fun c_4 => ?_)
          · refine post_bind (Q := fun r => Fr W M0 r.1) (fr_Reader_readWard (fun k j hk => hW k j (Or.elim hk (fun h => (Or.inl ⟨(h).1, (Or.elim (h).2 (fun h => (Or.inl h)) (fun h => (Or.elim h (fun h => (Or.inr (Or.inl h))) (fun h => (Or.elim h (fun h => (Or.inr (Or.inr (Or.inl h)))) (fun h => (Or.elim h (fun h => (Or.inr (Or.inr (Or.inr (Or.inl h))))) (fun h => (Or.elim h (fun h => (Or.inr (Or.inr (Or.inr (Or.inr (Or.inl h)))))) (fun h => (Or.elim h (fun h => (Or.inr (Or.inr (Or.inr (Or.inr (Or.inr (Or.inr (Or.inr (Or.inr (Or.inl h)))))))))) (fun h => (Or.inr (Or.inr (Or.inr (Or.inr (Or.inr (Or.inr (Or.inr (Or.inr (Or.inr h)))))))))))))))))))))⟩)) (fun h => (Or.elim h (fun h => (Or.inr (Or.inl ⟨(h).1, (Or.inr (Or.inr (Or.inr (Or.inl (h).2))))⟩))) (fun h => (Or.elim h (fun h => (Or.inr (Or.inr (Or.inl h)))) (fun h => (Or.elim h (fun h => (Or.inr (Or.inr (Or.inr (Or.inr (Or.inr (Or.inr (Or.inr (Or.inr (Or.inr (Or.inr (Or.inr (Or.inl h))))))))))))) (fun h => (Or.inr (Or.inr (Or.inr (Or.inr (Or.inr (Or.inr (Or.inr (Or.inr (Or.inr (Or.inr (Or.inr (Or.inr (Or.inl h))))))))))))))))))))))  h) (fun q11 h_q11 => ?_)
            exact (fr_Reader_read_L167 (fun k j hk => hW k j (Or.inl ⟨(hk).1, (Or.elim (hk).2 (fun h => (Or.inl h)) (fun h => (Or.elim h (fun h => (Or.inr (Or.inl h))) (fun h => (Or.elim h (fun h => (Or.inr (Or.inr (Or.inl h)))) (fun h => (Or.elim h (fun h => (Or.inr (Or.inr (Or.inr (Or.inl h))))) (fun h => (Or.elim h (fun h => (Or.inr (Or.inr (Or.inr (Or.inr (Or.inl h)))))) (fun h => (Or.elim h (fun h => (Or.inr (Or.inr (Or.inr (Or.inr (Or.inr (Or.inr (Or.inr (Or.inr (Or.inl h)))))))))) (fun h => (Or.inr (Or.inr (Or.inr (Or.inr (Or.inr (Or.inr (Or.inr (Or.inr (Or.inr h)))))))))))))))))))))⟩)) (fun a0_ a1_ a2_ h9 => ih a0_ a1_ a2_ h9) h_q11)
          · refine post_ite (fun c_5 => ?_) (fun c_5 => ?_)
            · refine post_bind (Q := fun r => Fr W M0 r.1) (fr_Reader_readPart (fun k j hk => hW k j (Or.elim hk (fun h => (Or.inl ⟨(h).1, (Or.elim (h).2 (fun h => (Or.inl h)) (fun h => (Or.elim h (fun h => (Or.inr (Or.inl h))) (fun h => (Or.elim h (fun h => (Or.inr (Or.inr (Or.inl h)))) (fun h => (Or.elim h (fun h => (Or.inr (Or.inr (Or.inr (Or.inl h))))) (fun h => (Or.elim h (fun h => (Or.inr (Or.inr (Or.inr (Or.inr (Or.inl h)))))) (fun h => (Or.elim h (fun h => (Or.inr (Or.inr (Or.inr (Or.inr (Or.inr (Or.inl h))))))) (fun h => (Or.elim h (fun h => (Or.inr (Or.inr (Or.inr (Or.inr (Or.inr (Or.inr (Or.inr (Or.inr (Or.inl h)))))))))) (fun h => (Or.inr (Or.inr (Or.inr (Or.inr (Or.inr (Or.inr (Or.inr (Or.inr (Or.inr h)))))))))))))))))))))))⟩)) (fun h => (Or.inr (Or.inr (Or.inr (Or.inr (Or.inr (Or.inr (Or.inr (Or.inr (Or.inr (Or.inr (Or.inr (Or.inr (Or.inr (Or.inr (Or.inr (Or.inr (Or.inr (Or.inl h)))))))))))))))))))))  h) (fun q14 h_q14 => ?_)
              exact (fr_Reader_read_L167 (fun k j hk => hW k j (Or.inl ⟨(hk).1, (Or.elim (hk).2 (fun h => (Or.inl h)) (fun h => (Or.elim h (fun h => (Or.inr (Or.inl h))) (fun h => (Or.elim h (fun h => (Or.inr (Or.inr (Or.inl h)))) (fun h => (Or.elim h (fun h => (Or.inr (Or.inr (Or.inr (Or.inl h))))) (fun h => (Or.elim h (fun h => (Or.inr (Or.inr (Or.inr (Or.inr (Or.inl h)))))) (fun h => (Or.elim h (fun h => (Or.inr (Or.inr (Or.inr (Or.inr (Or.inr (Or.inr (Or.inr (Or.inr (Or.inl h)))))))))) (fun h => (Or.inr (Or.inr (Or.inr (Or.inr (Or.inr (Or.inr (Or.inr (Or.inr (Or.inr h)))))))))))))))))))))⟩)) (fun a0_ a1_ a2_ h9 => ih a0_ a1_ a2_ h9) h_q14)
            · refine post_ite (fun c_6 => ?_) (fun c_6 => ?_)
              · refine post_bind (Q := fun r => Fr W M0 r.1) (fr_Reader_readWall (fun k j hk => hW k j (Or.elim hk (fun h => (Or.inl ⟨(h).1, (Or.elim (h).2 (fun h => (Or.inl h)) (fun h => (Or.elim h (fun h => (Or.inr (Or.inl h))) (fun h => (Or.elim h (fun h => (Or.inr (Or.inr (Or.inl h)))) (fun h => (Or.elim h (fun h => (Or.inr (Or.inr (Or.inr (Or.inl h))))) (fun h => (Or.elim h (fun h => (Or.inr (Or.inr (Or.inr (Or.inr (Or.inl h)))))) (fun h => (Or.elim h (fun h => (Or.inr (Or.inr (Or.inr (Or.inr (Or.inr (Or.inr (Or.inr (Or.inr (Or.inl h)))))))))) (fun h => (Or.inr (Or.inr (Or.inr (Or.inr (Or.inr (Or.inr (Or.inr (Or.inr (Or.inr h)))))))))))))))))))))⟩)) (fun h => (Or.inr (Or.inl ⟨(h).1, (Or.inr (Or.inr (Or.inr (Or.inr (Or.inr (Or.inr (Or.inr (Or.inl (h).2))))))))⟩)))))  h) (fun q17 h_q17 => ?_)
                exact (fr_Reader_read_L167 (fun k j hk => hW k j (Or.inl ⟨(hk).1, (Or.elim (hk).2 (fun h => (Or.inl h)) (fun h => (Or.elim h (fun h => (Or.inr (Or.inl h))) (fun h => (Or.elim h (fun h => (Or.inr (Or.inr (Or.inl h)))) (fun h => (Or.elim h (fun h => (Or.inr (Or.inr (Or.inr (Or.inl h))))) (fun h => (Or.elim h (fun h => (Or.inr (Or.inr (Or.inr (Or.inr (Or.inl h)))))) (fun h => (Or.elim h (fun h => (Or.inr (Or.inr (Or.inr (Or.inr (Or.inr (Or.inr (Or.inr (Or.inr (Or.inl h)))))))))) (fun h => (Or.inr (Or.inr (Or.inr (Or.inr (Or.inr (Or.inr (Or.inr (Or.inr (Or.inr h)))))))))))))))))))))⟩)) (fun a0_ a1_ a2_ h9 => ih a0_ a1_ a2_ h9) h_q17)
              · refine post_ite (fun c_7 => ?_) (fun c_7 => ?_)
                · refine post_bind (Q := fun r => Fr W M0 r.1) (fr_Reader_readStair (fun k j hk => hW k j (Or.elim hk (fun h => (Or.inl ⟨(h).1, (Or.elim (h).2 (fun h => (Or.inl h)) (fun h => (Or.elim h (fun h => (Or.inr (Or.inl h))) (fun h => (Or.elim h (fun h => (Or.inr (Or.inr (Or.inl h)))) (fun h => (Or.elim h (fun h => (Or.inr (Or.inr (Or.inr (Or.inl h))))) (fun h => (Or.elim h (fun h => (Or.inr (Or.inr (Or.inr (Or.inr (Or.inl h)))))) (fun h => (Or.elim h (fun h => (Or.inr (Or.inr (Or.inr (Or.inr (Or.inr (Or.inr (Or.inr (Or.inr (Or.inl h)))))))))) (fun h => (Or.inr (Or.inr (Or.inr (Or.inr (Or.inr (Or.inr (Or.inr (Or.inr (Or.inr h)))))))))))))))))))))⟩)) (fun h => (Or.inr (Or.inl ⟨(h).1, (Or.inr (Or.inr (Or.inr (Or.inr (Or.inr (Or.inr (Or.inr (Or.inr (h).2))))))))⟩)))))  h) (fun q20 h_q20 => ?_)
                  exact (fr_Reader_read_L167 (fun k j hk => hW k j (Or.inl ⟨(hk).1, (Or.elim (hk).2 (fun h => (Or.inl h)) (fun h => (Or.elim h (fun h => (Or.inr (Or.inl h))) (fun h => (Or.elim h (fun h => (Or.inr (Or.inr (Or.inl h)))) (fun h => (Or.elim h (fun h => (Or.inr (Or.inr (Or.inr (Or.inl h))))) (fun h => (Or.elim h (fun h => (Or.inr (Or.inr (Or.inr (Or.inr (Or.inl h)))))) (fun h => (Or.elim h (fun h => (Or.inr (Or.inr (Or.inr (Or.inr (Or.inr (Or.inr (Or.inr (Or.inr (Or.inl h)))))))))) (fun h => (Or.inr (Or.inr (Or.inr (Or.inr (Or.inr (Or.inr (Or.inr (Or.inr (Or.inr h)))))))))))))))))))))⟩)) (fun a0_ a1_ a2_ h9 => ih a0_ a1_ a2_ h9) h_q20)
                · refine post_ite (fun c_8 => ?_) (fun c_8 => ?_)
                  · refine post_bind (Q := fun r => Fr W M0 r.1) (fr_Reader_readThing (fun k j hk => hW k j (Or.elim hk (fun h => (Or.inl ⟨(h).1, (Or.elim (h).2 (fun h => (Or.inl h)) (fun h => (Or.elim h (fun h => (Or.inr (Or.inl h))) (fun h => (Or.elim h (fun h => (Or.inr (Or.inr (Or.inl h)))) (fun h => (Or.elim h (fun h => (Or.inr (Or.inr (Or.inr (Or.inl h))))) (fun h => (Or.elim h (fun h => (Or.inr (Or.inr (Or.inr (Or.inr (Or.inl h)))))) (fun h => (Or.elim h (fun h => (Or.inr (Or.inr (Or.inr (Or.inr (Or.inr (Or.inr (Or.inr (Or.inr (Or.inl h)))))))))) (fun h => (Or.inr (Or.inr (Or.inr (Or.inr (Or.inr (Or.inr (Or.inr (Or.inr (Or.inr h)))))))))))))))))))))⟩)) (fun h => (Or.elim h (fun h => (Or.inr (Or.inl ⟨(h).1, (Or.inr (Or.inr (Or.inr (Or.inr (Or.inl (h).2)))))⟩))) (fun h => (Or.elim h (fun h => (Or.inr (Or.inr (Or.inr (Or.inr (Or.inr (Or.inr (Or.inr (Or.inr (Or.inr (Or.inr (Or.inr (Or.inr (Or.inr (Or.inr (Or.inl h)))))))))))))))) (fun h => (Or.elim h (fun h => (Or.inr (Or.inr (Or.inr (Or.inr (Or.inr (Or.inr (Or.inr (Or.inr (Or.inr (Or.inr (Or.inr (Or.inr (Or.inr (Or.inr (Or.inr (Or.inl h))))))))))))))))) (fun h => (Or.inr (Or.inr (Or.inr (Or.inr (Or.inr (Or.inr (Or.inr (Or.inr (Or.inr (Or.inr (Or.inr (Or.inr (Or.inr (Or.inr (Or.inr (Or.inr (Or.inl h))))))))))))))))))))))))))  h) (fun q23 h_q23 => ?_)
                    exact (fr_Reader_read_L167 (fun k j hk => hW k j (Or.inl ⟨(hk).1, (Or.elim (hk).2 (fun h => (Or.inl h)) (fun h => (Or.elim h (fun h => (Or.inr (Or.inl h))) (fun h => (Or.elim h (fun h => (Or.inr (Or.inr (Or.inl h)))) (fun h => (Or.elim h (fun h => (Or.inr (Or.inr (Or.inr (Or.inl h))))) (fun h => (Or.elim h (fun h => (Or.inr (Or.inr (Or.inr (Or.inr (Or.inl h)))))) (fun h => (Or.elim h (fun h => (Or.inr (Or.inr (Or.inr (Or.inr (Or.inr (Or.inr (Or.inr (Or.inr (Or.inl h)))))))))) (fun h => (Or.inr (Or.inr (Or.inr (Or.inr (Or.inr (Or.inr (Or.inr (Or.inr (Or.inr h)))))))))))))))))))))⟩)) (fun a0_ a1_ a2_ h9 => ih a0_ a1_ a2_ h9) h_q23)
                  · refine post_ite (fun c_9 => ?_) (fun c_9 => ?_)
                    · refine post_bind (Q := fun r => Fr W M0 r.1) (fr_Reader_readSeed (fun k j hk => hW k j (Or.elim hk (fun h => (Or.inl ⟨(h).1, (Or.elim (h).2 (fun h => (Or.inl h)) (fun h => (Or.elim h (fun h => (Or.inr (Or.inl h))) (fun h => (Or.elim h (fun h => (Or.inr (Or.inr (Or.inl h)))) (fun h => (Or.elim h (fun h => (Or.inr (Or.inr (Or.inr (Or.inl h))))) (fun h => (Or.elim h (fun h => (Or.inr (Or.inr (Or.inr (Or.inr (Or.inl h)))))) (fun h => (Or.elim h (fun h => (Or.inr (Or.inr (Or.inr (Or.inr (Or.inr (Or.inr (Or.inr (Or.inl h))))))))) (fun h => (Or.elim h (fun h => (Or.inr (Or.inr (Or.inr (Or.inr (Or.inr (Or.inr (Or.inr (Or.inr (Or.inl h)))))))))) (fun h => (Or.inr (Or.inr (Or.inr (Or.inr (Or.inr (Or.inr (Or.inr (Or.inr (Or.inr h)))))))))))))))))))))))⟩)) (fun h => (Or.inr (Or.inl ⟨(h).1, (Or.inr (Or.inr (Or.inr (Or.inr (Or.inr (Or.inr (Or.inl (h).2)))))))⟩)))))  h) (fun q26 h_q26 => ?_)
                      exact (fr_Reader_read_L167 (fun k j hk => hW k j (Or.inl ⟨(hk).1, (Or.elim (hk).2 (fun h => (Or.inl h)) (fun h => (Or.elim h (fun h => (Or.inr (Or.inl h))) (fun h => (Or.elim h (fun h => (Or.inr (Or.inr (Or.inl h)))) (fun h => (Or.elim h (fun h => (Or.inr (Or.inr (Or.inr (Or.inl h))))) (fun h => (Or.elim h (fun h => (Or.inr (Or.inr (Or.inr (Or.inr (Or.inl h)))))) (fun h => (Or.elim h (fun h => (Or.inr (Or.inr (Or.inr (Or.inr (Or.inr (Or.inr (Or.inr (Or.inr (Or.inl h)))))))))) (fun h => (Or.inr (Or.inr (Or.inr (Or.inr (Or.inr (Or.inr (Or.inr (Or.inr (Or.inr h)))))))))))))))))))))⟩)) (fun a0_ a1_ a2_ h9 => ih a0_ a1_ a2_ h9) h_q26)
                    · refine post_ite (fun c_10 => ?_) (fun c_10 => ?_)
                      · refine post_bind (Q := fun r => Fr W M0 r.1) (fr_Reader_readLaw (fun k j hk => hW k j (Or.elim hk (fun h => (Or.inl ⟨(h).1, (Or.elim (h).2 (fun h => (Or.inl h)) (fun h => (Or.elim h (fun h => (Or.inr (Or.inl h))) (fun h => (Or.elim h (fun h => (Or.inr (Or.inr (Or.inl h)))) (fun h => (Or.elim h (fun h => (Or.inr (Or.inr (Or.inr (Or.inl h))))) (fun h => (Or.elim h (fun h => (Or.inr (Or.inr (Or.inr (Or.inr (Or.inl h)))))) (fun h => (Or.elim h (fun h => (Or.inr (Or.inr (Or.inr (Or.inr (Or.inr (Or.inr (Or.inr (Or.inr (Or.inl h)))))))))) (fun h => (Or.inr (Or.inr (Or.inr (Or.inr (Or.inr (Or.inr (Or.inr (Or.inr (Or.inr h)))))))))))))))))))))⟩)) (fun h => (Or.elim h (fun h => (Or.inr (Or.inl ⟨(h).1, (Or.inr (Or.inr (Or.inr (Or.inr (Or.inr (Or.inl (h).2))))))⟩))) (fun h => (Or.elim h (fun h => (Or.inr (Or.inr (Or.inr (Or.inl ⟨(h).1, (Or.elim (h).2 (fun h => (Or.inl h)) (fun h => (Or.elim h (fun h => (Or.inr (Or.inl h))) (fun h => (Or.elim h (fun h => (Or.inr (Or.inr (Or.inl h)))) (fun h => (Or.elim h (fun h => (Or.inr (Or.inr (Or.inr (Or.inl h))))) (fun h => (Or.elim h (fun h => (Or.inr (Or.inr (Or.inr (Or.inr (Or.inl h)))))) (fun h => (Or.elim h (fun h => (Or.inr (Or.inr (Or.inr (Or.inr (Or.inr (Or.inl h))))))) (fun h => (Or.elim h (fun h => (Or.inr (Or.inr (Or.inr (Or.inr (Or.inr (Or.inr (Or.inl h)))))))) (fun h => (Or.inr (Or.inr (Or.inr (Or.inr (Or.inr (Or.inr (Or.inr h)))))))))))))))))))))⟩))))) (fun h => (Or.elim h (fun h => (Or.inr (Or.inr (Or.inr (Or.inr (Or.inl h)))))) (fun h => (Or.elim h (fun h => (Or.inr (Or.inr (Or.inr (Or.inr (Or.inr (Or.inl h))))))) (fun h => (Or.elim h (fun h => (Or.inr (Or.inr (Or.inr (Or.inr (Or.inr (Or.inr (Or.inl h)))))))) (fun h => (Or.elim h (fun h => (Or.inr (Or.inr (Or.inr (Or.inr (Or.inr (Or.inr (Or.inr (Or.inl ⟨(h).1, (Or.elim (h).2 (fun h => (Or.inl h)) (fun h => (Or.elim h (fun h => (Or.inr (Or.inl h))) (fun h => (Or.elim h (fun h => (Or.inr (Or.inr (Or.inl h)))) (fun h => (Or.elim h (fun h => (Or.inr (Or.inr (Or.inr (Or.inl h))))) (fun h => (Or.elim h (fun h => (Or.inr (Or.inr (Or.inr (Or.inr (Or.inl h)))))) (fun h => (Or.elim h (fun h => (Or.inr (Or.inr (Or.inr (Or.inr (Or.inr (Or.inl h))))))) (fun h => (Or.elim h (fun h => (Or.inr (Or.inr (Or.inr (Or.inr (Or.inr (Or.inr (Or.inl h)))))))) (fun h => (Or.inr (Or.inr (Or.inr (Or.inr (Or.inr (Or.inr (Or.inr h)))))))))))))))))))))⟩))))))))) (fun h => (Or.elim h (fun h => (Or.inr (Or.inr (Or.inr (Or.inr (Or.inr (Or.inr (Or.inr (Or.inr (Or.inl h)))))))))) (fun h => (Or.elim h (fun h => (Or.inr (Or.inr (Or.inr (Or.inr (Or.inr (Or.inr (Or.inr (Or.inr (Or.inr (Or.inl h))))))))))) (fun h => (Or.inr (Or.inr (Or.inr (Or.inr (Or.inr (Or.inr (Or.inr (Or.inr (Or.inr (Or.inr (Or.inl h))))))))))))))))))))))))))))))  h) (fun q29 h_q29 => ?_)
                        exact (fr_Reader_read_L167 (fun k j hk => hW k j (Or.inl ⟨(hk).1, (Or.elim (hk).2 (fun h => (Or.inl h)) (fun h => (Or.elim h (fun h => (Or.inr (Or.inl h))) (fun h => (Or.elim h (fun h => (Or.inr (Or.inr (Or.inl h)))) (fun h => (Or.elim h (fun h => (Or.inr (Or.inr (Or.inr (Or.inl h))))) (fun h => (Or.elim h (fun h => (Or.inr (Or.inr (Or.inr (Or.inr (Or.inl h)))))) (fun h => (Or.elim h (fun h => (Or.inr (Or.inr (Or.inr (Or.inr (Or.inr (Or.inr (Or.inr (Or.inr (Or.inl h)))))))))) (fun h => (Or.inr (Or.inr (Or.inr (Or.inr (Or.inr (Or.inr (Or.inr (Or.inr (Or.inr h)))))))))))))))))))))⟩)) (fun a0_ a1_ a2_ h9 => ih a0_ a1_ a2_ h9) h_q29)
                      · refine post_let (fun q32 e_q32 => ?_)
                        have h_q32 : Fr W M0 q32.1 := by rw [e_q32]; exact (fr_Reader_refuse (fun k j hk => hW k j (Or.inl ⟨(hk).1, (Or.elim (hk).2 (fun h => (Or.inr (Or.inr (Or.inr (Or.inr (Or.inr (Or.inr (Or.inr (Or.inr (Or.inl h)))))))))) (fun h => (Or.inr (Or.inr (Or.inr (Or.inr (Or.inr (Or.inr (Or.inr (Or.inr (Or.inr h)))))))))))⟩))  h)
                        exact (fr_Reader_read_L167 (fun k j hk => hW k j (Or.inl ⟨(hk).1, (Or.elim (hk).2 (fun h => (Or.inl h)) (fun h => (Or.elim h (fun h => (Or.inr (Or.inl h))) (fun h => (Or.elim h (fun h => (Or.inr (Or.inr (Or.inl h)))) (fun h => (Or.elim h (fun h => (Or.inr (Or.inr (Or.inr (Or.inl h))))) (fun h => (Or.elim h (fun h => (Or.inr (Or.inr (Or.inr (Or.inr (Or.inl h)))))) (fun h => (Or.elim h (fun h => (Or.inr (Or.inr (Or.inr (Or.inr (Or.inr (Or.inr (Or.inr (Or.inr (Or.inl h)))))))))) (fun h => (Or.inr (Or.inr (Or.inr (Or.inr (Or.inr (Or.inr (Or.inr (Or.inr (Or.inr h)))))))))))))))))))))⟩)) (fun a0_ a1_ a2_ h9 => ih a0_ a1_ a2_ h9) h_q32)
def W_Reader_read (k2 : Nat) : Nat → Int → Prop := fun k j => (k = 46 ∧ (j = 0 ∨ j = 1 ∨ j = 2 ∨ j = 3 ∨ j = 4 ∨ j = 5 ∨ j = 6 ∨ j = 7 ∨ j = 8 ∨ j = 9 ∨ j = 10)) ∨ (k = k2 ∧ (j = 11 ∨ j = 12 ∨ j = 13 ∨ j = 14 ∨ j = 15 ∨ j = 16 ∨ j = 17 ∨ j = 18 ∨ j = 19)) ∨ k = k2 + 1 ∨ (k = k2 + 10 ∧ (j = 3 ∨ j = 4 ∨ j = 6 ∨ j = 7 ∨ j = 8 ∨ j = 9 ∨ j = 10 ∨ j = 11)) ∨ k = k2 + 11 ∨ k = k2 + 12 ∨ k = k2 + 14 ∨ (k = k2 + 15 ∧ (j = 3 ∨ j = 4 ∨ j = 6 ∨ j = 7 ∨ j = 8 ∨ j = 9 ∨ j = 10 ∨ j = 11)) ∨ k = k2 + 16 ∨ k = k2 + 17 ∨ k = k2 + 19 ∨ k = k2 + 2 ∨ k = k2 + 3 ∨ k = k2 + 4 ∨ k = k2 + 5 ∨ k = k2 + 6 ∨ k = k2 + 7 ∨ k = k2 + 8 ∨ k = k2 + 9
theorem fr_Reader_read {k2 : Nat} {W : Nat → Int → Prop} {M0 : Mem} (hW : ∀ k j, (W_Reader_read k2) k j → W k j)  {M : Mem} (h : Fr W M0 M) : Post (fun r => Fr W M0 r.1) (t_Reader_read M k2) := by
  unfold t_Reader_read
  refine post_bind (Q := fun r => Fr W M0 r) (fr_Reader_begin (fun k j hk => hW k j (Or.inl ⟨(hk).1, (Or.elim (hk).2 (fun h => (Or.inl h)) (fun h => (Or.elim h (fun h => (Or.inr (Or.inl h))) (fun h => (Or.elim h (fun h => (Or.inr (Or.inr (Or.inl h)))) (fun h => (Or.elim h (fun h => (Or.inr (Or.inr (Or.inr (Or.inl h))))) (fun h => (Or.elim h (fun h => (Or.inr (Or.inr (Or.inr (Or.inr (Or.inl h)))))) (fun h => (Or.elim h (fun h => (Or.inr (Or.inr (Or.inr (Or.inr (Or.inr (Or.inl h))))))) (fun h => (Or.elim h (fun h => (Or.inr (Or.inr (Or.inr (Or.inr (Or.inr (Or.inr (Or.inl h)))))))) (fun h => (Or.elim h (fun h => (Or.inr (Or.inr (Or.inr (Or.inr (Or.inr (Or.inr (Or.inr (Or.inl h))))))))) (fun h => (Or.elim h (fun h => (Or.inr (Or.inr (Or.inr (Or.inr (Or.inr (Or.inr (Or.inr (Or.inr (Or.inl h)))))))))) (fun h => (Or.elim h (fun h => (Or.inr (Or.inr (Or.inr (Or.inr (Or.inr (Or.inr (Or.inr (Or.inr (Or.inr (Or.inl h))))))))))) (fun h => (Or.inr (Or.inr (Or.inr (Or.inr (Or.inr (Or.inr (Or.inr (Or.inr (Or.inr (Or.inr h))))))))))))))))))))))))))))))⟩))  h) (fun q1 h_q1 => ?_)
  exact (fr_Reader_read_L10 (fun k j hk => hW k j (Or.elim hk (fun h => (Or.inl ⟨(h).1, (Or.elim (h).2 (fun h => (Or.inr (Or.inl h))) (fun h => (Or.elim h (fun h => (Or.inr (Or.inr (Or.inl h)))) (fun h => (Or.elim h (fun h => (Or.inr (Or.inr (Or.inr (Or.inl h))))) (fun h => (Or.elim h (fun h => (Or.inr (Or.inr (Or.inr (Or.inr (Or.inl h)))))) (fun h => (Or.elim h (fun h => (Or.inr (Or.inr (Or.inr (Or.inr (Or.inr (Or.inl h))))))) (fun h => (Or.elim h (fun h => (Or.inr (Or.inr (Or.inr (Or.inr (Or.inr (Or.inr (Or.inl h)))))))) (fun h => (Or.elim h (fun h => (Or.inr (Or.inr (Or.inr (Or.inr (Or.inr (Or.inr (Or.inr (Or.inl h))))))))) (fun h => (Or.elim h (fun h => (Or.inr (Or.inr (Or.inr (Or.inr (Or.inr (Or.inr (Or.inr (Or.inr (Or.inl h)))))))))) (fun h => (Or.elim h (fun h => (Or.inr (Or.inr (Or.inr (Or.inr (Or.inr (Or.inr (Or.inr (Or.inr (Or.inr (Or.inl h))))))))))) (fun h => (Or.inr (Or.inr (Or.inr (Or.inr (Or.inr (Or.inr (Or.inr (Or.inr (Or.inr (Or.inr h))))))))))))))))))))))))))))⟩)) (fun h => (Or.elim h (fun h => (Or.inr (Or.inl ⟨(h).1, (Or.elim (h).2 (fun h => (Or.inl h)) (fun h => (Or.elim h (fun h => (Or.inr (Or.inl h))) (fun h => (Or.elim h (fun h => (Or.inr (Or.inr (Or.inl h)))) (fun h => (Or.elim h (fun h => (Or.inr (Or.inr (Or.inr (Or.inl h))))) (fun h => (Or.elim h (fun h => (Or.inr (Or.inr (Or.inr (Or.inr (Or.inl h)))))) (fun h => (Or.elim h (fun h => (Or.inr (Or.inr (Or.inr (Or.inr (Or.inr (Or.inl h))))))) (fun h => (Or.elim h (fun h => (Or.inr (Or.inr (Or.inr (Or.inr (Or.inr (Or.inr (Or.inl h)))))))) (fun h => (Or.elim h (fun h => (Or.inr (Or.inr (Or.inr (Or.inr (Or.inr (Or.inr (Or.inr (Or.inl h))))))))) (fun h => (Or.inr (Or.inr (Or.inr (Or.inr (Or.inr (Or.inr (Or.inr (Or.inr h))))))))))))))))))))))))⟩))) (fun h => (Or.elim h (fun h => (Or.inr (Or.inr (Or.inl h)))) (fun h => (Or.elim h (fun h => (Or.inr (Or.inr (Or.inr (Or.inl ⟨(h).1, (Or.elim (h).2 (fun h => (Or.inl h)) (fun h => (Or.elim h (fun h => (Or.inr (Or.inl h))) (fun h => (Or.elim h (fun h => (Or.inr (Or.inr (Or.inl h)))) (fun h => (Or.elim h (fun h => (Or.inr (Or.inr (Or.inr (Or.inl h))))) (fun h => (Or.elim h (fun h => (Or.inr (Or.inr (Or.inr (Or.inr (Or.inl h)))))) (fun h => (Or.elim h (fun h => (Or.inr (Or.inr (Or.inr (Or.inr (Or.inr (Or.inl h))))))) (fun h => (Or.elim h (fun h => (Or.inr (Or.inr (Or.inr (Or.inr (Or.inr (Or.inr (Or.inl h)))))))) (fun h => (Or.inr (Or.inr (Or.inr (Or.inr (Or.inr (Or.inr (Or.inr h)))))))))))))))))))))⟩))))) (fun h => (Or.elim h (fun h => (Or.inr (Or.inr (Or.inr (Or.inr (Or.inl h)))))) (fun h => (Or.elim h (fun h => (Or.inr (Or.inr (Or.inr (Or.inr (Or.inr (Or.inl h))))))) (fun h => (Or.elim h (fun h => (Or.inr (Or.inr (Or.inr (Or.inr (Or.inr (Or.inr (Or.inl h)))))))) (fun h => (Or.elim h (fun h => (Or.inr (Or.inr (Or.inr (Or.inr (Or.inr (Or.inr (Or.inr (Or.inl ⟨(h).1, (Or.elim (h).2 (fun h => (Or.inl h)) (fun h => (Or.elim h (fun h => (Or.inr (Or.inl h))) (fun h => (Or.elim h (fun h => (Or.inr (Or.inr (Or.inl h)))) (fun h => (Or.elim h (fun h => (Or.inr (Or.inr (Or.inr (Or.inl h))))) (fun h => (Or.elim h (fun h => (Or.inr (Or.inr (Or.inr (Or.inr (Or.inl h)))))) (fun h => (Or.elim h (fun h => (Or.inr (Or.inr (Or.inr (Or.inr (Or.inr (Or.inl h))))))) (fun h => (Or.elim h (fun h => (Or.inr (Or.inr (Or.inr (Or.inr (Or.inr (Or.inr (Or.inl h)))))))) (fun h => (Or.inr (Or.inr (Or.inr (Or.inr (Or.inr (Or.inr (Or.inr h)))))))))))))))))))))⟩))))))))) (fun h => (Or.elim h (fun h => (Or.inr (Or.inr (Or.inr (Or.inr (Or.inr (Or.inr (Or.inr (Or.inr (Or.inl h)))))))))) (fun h => (Or.elim h (fun h => (Or.inr (Or.inr (Or.inr (Or.inr (Or.inr (Or.inr (Or.inr (Or.inr (Or.inr (Or.inl h))))))))))) (fun h => (Or.elim h (fun h => (Or.inr (Or.inr (Or.inr (Or.inr (Or.inr (Or.inr (Or.inr (Or.inr (Or.inr (Or.inr (Or.inl h)))))))))))) (fun h => (Or.elim h (fun h => (Or.inr (Or.inr (Or.inr (Or.inr (Or.inr (Or.inr (Or.inr (Or.inr (Or.inr (Or.inr (Or.inr (Or.inl h))))))))))))) (fun h => (Or.elim h (fun h => (Or.inr (Or.inr (Or.inr (Or.inr (Or.inr (Or.inr (Or.inr (Or.inr (Or.inr (Or.inr (Or.inr (Or.inr (Or.inl h)))))))))))))) (fun h => (Or.elim h (fun h => (Or.inr (Or.inr (Or.inr (Or.inr (Or.inr (Or.inr (Or.inr (Or.inr (Or.inr (Or.inr (Or.inr (Or.inr (Or.inr (Or.inl h))))))))))))))) (fun h => (Or.elim h (fun h => (Or.inr (Or.inr (Or.inr (Or.inr (Or.inr (Or.inr (Or.inr (Or.inr (Or.inr (Or.inr (Or.inr (Or.inr (Or.inr (Or.inr (Or.inl h)))))))))))))))) (fun h => (Or.elim h (fun h => (Or.inr (Or.inr (Or.inr (Or.inr (Or.inr (Or.inr (Or.inr (Or.inr (Or.inr (Or.inr (Or.inr (Or.inr (Or.inr (Or.inr (Or.inr (Or.inl h))))))))))))))))) (fun h => (Or.elim h (fun h => (Or.inr (Or.inr (Or.inr (Or.inr (Or.inr (Or.inr (Or.inr (Or.inr (Or.inr (Or.inr (Or.inr (Or.inr (Or.inr (Or.inr (Or.inr (Or.inr (Or.inl h)))))))))))))))))) (fun h => (Or.elim h (fun h => (Or.inr (Or.inr (Or.inr (Or.inr (Or.inr (Or.inr (Or.inr (Or.inr (Or.inr (Or.inr (Or.inr (Or.inr (Or.inr (Or.inr (Or.inr (Or.inr (Or.inr (Or.inl h))))))))))))))))))) (fun h => (Or.inr (Or.inr (Or.inr (Or.inr (Or.inr (Or.inr (Or.inr (Or.inr (Or.inr (Or.inr (Or.inr (Or.inr (Or.inr (Or.inr (Or.inr (Or.inr (Or.inr (Or.inr h)))))))))))))))))))))))))))))))))))))))))))))))))))))))  _ _ _ _ h_q1)
def W_Trail_follow_L101 (k0 : Nat) : Nat → Int → Prop := fun k j => (k = k0 ∧ (j = 2 ∨ j = 3))
theorem fr_Trail_follow_L101 {k0 : Nat} {k1 : Nat} {k2 : Nat} {x3 : Int} {bk24 : Mem → Int64 → Int → Int → Option (Mem)} {v3_ : Int64} {v4_ : Int} {v5_ : Int} {W : Nat → Int → Prop} {M0 : Mem} (hW : ∀ k j, (W_Trail_follow_L101 k0) k j → W k j) (hbk24 : ∀ (a0_ : Mem) (a1_ : Int64) (a2_ : Int) (a3_ : Int), Fr W M0 a0_ → Post (fun r => Fr W M0 r) (bk24 a0_ a1_ a2_ a3_)) {M : Mem} (h : Fr W M0 M) : Post (fun r => Fr W M0 r) (t_Trail_follow_L101 k0 k1 k2 x3 bk24 M v3_ v4_ v5_) := by
  unfold t_Trail_follow_L101
  refine post_let (fun q17 _ => ?_)
  refine post_ite (fun c_1 => ?_) (fun c_1 => ?_)
  · refine post_bindv (fun q21 => ?_)
    refine post_let (fun M23 e_M23 => ?_)
    have h_M23 : Fr W M0 M23 := by rw [e_M23]; exact Fr.setI h (hW _ _ ⟨rfl, (Or.inl rfl)⟩)
    refine post_let (fun M26 e_M26 => ?_)
    have h_M26 : Fr W M0 M26 := by rw [e_M26]; exact Fr.setI h_M23 (hW _ _ ⟨rfl, (Or.inr rfl)⟩)
    exact post_some h_M26
  · exact hbk24 _ _ _ _ h
def W_Trail_follow_L24 (k0 : Nat) : Nat → Int → Prop := fun k j => (k = k0 ∧ (j = 1 ∨ j = 2 ∨ j = 3 ∨ j = 4)) ∨ k = k0 + 1
theorem fr_Trail_follow_L24 {k0 : Nat} {k1 : Nat} {k2 : Nat} {x3 : Int} {W : Nat → Int → Prop} {M0 : Mem} (hW : ∀ k j, (W_Trail_follow_L24 k0) k j → W k j)  : ∀ (fu : Nat) (M : Mem) (v3_ : Int64) (v4_ : Int) (v5_ : Int), Fr W M0 M → Post (fun r => Fr W M0 r) (t_Trail_follow_L24 k0 k1 k2 x3 fu M v3_ v4_ v5_) := by
  intro fu
  induction fu with
  | zero => intro M v3_ v4_ v5_ h; exact post_none
  | succ fu ih =>
    intro M v3_ v4_ v5_ h
    rw [t_Trail_follow_L24]
    refine post_ite (fun c_1 => ?_) (fun c_1 => ?_)
    · exact post_some h
    · refine post_let (fun q5 e_q5 => ?_)
      have h_q5 : Fr W M0 q5 := by rw [e_q5]; exact (fr_WF_put (fun k j hk => hW k j (Or.inr hk))  h)
      refine post_let (fun M7 e_M7 => ?_)
      have h_M7 : Fr W M0 M7 := by rw [e_M7]; exact Fr.setI h_q5 (hW _ _ (Or.inl ⟨rfl, (Or.inl rfl)⟩))
      refine post_let (fun M8 e_M8 => ?_)
      have h_M8 : Fr W M0 M8 := by rw [e_M8]; exact Fr.setI h_M7 (hW _ _ (Or.inl ⟨rfl, (Or.inr (Or.inl rfl))⟩))
      refine post_let (fun q9 _ => ?_)
      refine post_ite (fun c_2 => ?_) (fun c_2 => ?_)
      · refine post_let (fun q12 _ => ?_)
        refine post_ite (fun c_3 => ?_) (fun c_3 => ?_)
        · exact (fr_Trail_follow_L101 (fun k j hk => hW k j (Or.inl ⟨(hk).1, (Or.elim (hk).2 (fun h => (Or.inr (Or.inl h))) (fun h => (Or.inr (Or.inr (Or.inl h)))))⟩)) (fun a0_ a1_ a2_ a3_ h9 => ih a0_ a1_ a2_ a3_ h9) h_M8)
        · refine post_let (fun M16 e_M16 => ?_)
          have h_M16 : Fr W M0 M16 := by rw [e_M16]; exact Fr.setI h_M8 (hW _ _ (Or.inl ⟨rfl, (Or.inr (Or.inr (Or.inr rfl)))⟩))
          exact (fr_Trail_follow_L101 (fun k j hk => hW k j (Or.inl ⟨(hk).1, (Or.elim (hk).2 (fun h => (Or.inr (Or.inl h))) (fun h => (Or.inr (Or.inr (Or.inl h)))))⟩)) (fun a0_ a1_ a2_ a3_ h9 => ih a0_ a1_ a2_ a3_ h9) h_M16)
      · exact post_some h_M8
def W_Trail_follow (k0 : Nat) : Nat → Int → Prop := fun k j => (k = k0 ∧ (j = 1 ∨ j = 2 ∨ j = 3 ∨ j = 4)) ∨ k = k0 + 1
theorem fr_Trail_follow {k0 : Nat} {k1 : Nat} {k2 : Nat} {x3 : Int} {W : Nat → Int → Prop} {M0 : Mem} (hW : ∀ k j, (W_Trail_follow k0) k j → W k j)  {M : Mem} (h : Fr W M0 M) : Post (fun r => Fr W M0 r) (t_Trail_follow M k0 k1 k2 x3) := by
  unfold t_Trail_follow
  refine post_let (fun M1 e_M1 => ?_)
  have h_M1 : Fr W M0 M1 := by rw [e_M1]; exact Fr.setI h (hW _ _ (Or.inl ⟨rfl, (Or.inl rfl)⟩))
  refine post_let (fun M2 e_M2 => ?_)
  have h_M2 : Fr W M0 M2 := by rw [e_M2]; exact Fr.setI h_M1 (hW _ _ (Or.inl ⟨rfl, (Or.inr (Or.inr (Or.inl rfl)))⟩))
  refine post_let (fun M3 e_M3 => ?_)
  have h_M3 : Fr W M0 M3 := by rw [e_M3]; exact Fr.setI h_M2 (hW _ _ (Or.inl ⟨rfl, (Or.inr (Or.inr (Or.inr rfl)))⟩))
  exact (fr_Trail_follow_L24 (fun k j hk => hW k j (Or.elim hk (fun h => (Or.inl ⟨(h).1, (Or.elim (h).2 (fun h => (Or.inl h)) (fun h => (Or.elim h (fun h => (Or.inr (Or.inl h))) (fun h => (Or.elim h (fun h => (Or.inr (Or.inr (Or.inl h)))) (fun h => (Or.inr (Or.inr (Or.inr h)))))))))⟩)) (fun h => (Or.inr h))))  _ _ _ _ _ h_M3)
def W_Laws_measure_L141 : Nat → Int → Prop := fun k j => k = 181
theorem fr_Laws_measure_L141 {k1 : Nat} {k2 : Nat} {bk26 : Mem → Int → Option (Mem)} {v3_ : Int} {v5_ : Int} {v6_ : Int} {v7_ : Int} {W : Nat → Int → Prop} {M0 : Mem} (hW : ∀ k j, (W_Laws_measure_L141) k j → W k j) (hbk26 : ∀ (a0_ : Mem) (a1_ : Int), Fr W M0 a0_ → Post (fun r => Fr W M0 r) (bk26 a0_ a1_)) {M : Mem} (h : Fr W M0 M) : Post (fun r => Fr W M0 r) (t_Laws_measure_L141 k1 k2 bk26 M v3_ v5_ v6_ v7_) := by
  unfold t_Laws_measure_L141
  refine post_let (fun q31 e_q31 => ?_)
  have h_q31 : Fr W M0 q31 := by rw [e_q31]; exact (fr_WF_put (fun k j hk => hW k j hk)  h)
  exact hbk26 _ _ h_q31
def W_Laws_measure_L26 : Nat → Int → Prop := fun k j => k = 179 ∨ k = 180 ∨ k = 181 ∨ (k = 182 ∧ (j = 1 ∨ j = 2 ∨ j = 3 ∨ j = 4)) ∨ k = 183
theorem fr_Laws_measure_L26 {k1 : Nat} {k2 : Nat} {W : Nat → Int → Prop} {M0 : Mem} (hW : ∀ k j, (W_Laws_measure_L26) k j → W k j)  : ∀ (fu : Nat) (M : Mem) (v3_ : Int), Fr W M0 M → Post (fun r => Fr W M0 r) (t_Laws_measure_L26 k1 k2 fu M v3_) := by
  intro fu
  induction fu with
  | zero => intro M v3_ h; exact post_none
  | succ fu ih =>
    intro M v3_ h
    rw [t_Laws_measure_L26]
    refine post_ite (fun c_1 => ?_) (fun c_1 => ?_)
    · exact post_some h
    · refine post_let (fun q9 _ => ?_)
      refine post_bind (Q := fun r => Fr W M0 r) (fr_Trail_follow (fun k j hk => hW k j (Or.elim hk (fun h => (Or.inr (Or.inr (Or.inr (Or.inl ⟨(h).1, (Or.elim (h).2 (fun h => (Or.inl h)) (fun h => (Or.elim h (fun h => (Or.inr (Or.inl h))) (fun h => (Or.elim h (fun h => (Or.inr (Or.inr (Or.inl h)))) (fun h => (Or.inr (Or.inr (Or.inr h)))))))))⟩))))) (fun h => (Or.inr (Or.inr (Or.inr (Or.inr h)))))))  h) (fun q11 h_q11 => ?_)
      refine post_let (fun q13 _ => ?_)
      refine post_let (fun q15 _ => ?_)
      refine post_let (fun q17 _ => ?_)
      refine post_let (fun q19 e_q19 => ?_)
      have h_q19 : Fr W M0 q19 := by rw [e_q19]; exact (fr_WF_put (fun k j hk => hW k j (Or.inl hk))  h_q11)
      refine post_let (fun q21 _ => ?_)
      refine post_let (fun q23 _ => ?_)
      refine post_let (fun q25 e_q25 => ?_)
      have h_q25 : Fr W M0 q25 := by rw [e_q25]; exact (fr_WF_put (fun k j hk => hW k j (Or.inr (Or.inl hk)))  h_q19)
      refine post_let (fun q27 _ => ?_)
      refine post_ite (fun c_2 => ?_) (fun c_2 => ?_)
      · exact (fr_Laws_measure_L141 (fun k j hk => hW k j (Or.inr (Or.inr (Or.inl hk)))) (fun a0_ a1_ h9 => ih a0_ a1_ h9) h_q25)
      · exact (fr_Laws_measure_L141 (fun k j hk => hW k j (Or.inr (Or.inr (Or.inl hk)))) (fun a0_ a1_ h9 => ih a0_ a1_ h9) h_q25)
def W_Laws_measure : Nat → Int → Prop := fun k j => k = 179 ∨ k = 180 ∨ k = 181 ∨ (k = 182 ∧ (j = 1 ∨ j = 2 ∨ j = 3 ∨ j = 4)) ∨ k = 183
theorem fr_Laws_measure {k1 : Nat} {k2 : Nat} {W : Nat → Int → Prop} {M0 : Mem} (hW : ∀ k j, (W_Laws_measure) k j → W k j)  {M : Mem} (h : Fr W M0 M) : Post (fun r => Fr W M0 r) (t_Laws_measure M k1 k2) := by
  unfold t_Laws_measure
  refine post_bind (Q := fun r => Fr W M0 r) (fr_Arrays_fill (fun k j hk => hW k j (Or.inl hk))  h) (fun q1 h_q1 => ?_)
  refine post_bind (Q := fun r => Fr W M0 r) (fr_Arrays_fill (fun k j hk => hW k j (Or.inr (Or.inl hk)))  h_q1) (fun q3 h_q3 => ?_)
  refine post_bind (Q := fun r => Fr W M0 r) (fr_Arrays_fill (fun k j hk => hW k j (Or.inr (Or.inr (Or.inl hk))))  h_q3) (fun q5 h_q5 => ?_)
  exact (fr_Laws_measure_L26 (fun k j hk => hW k j (Or.elim hk (fun h => (Or.inl h)) (fun h => (Or.elim h (fun h => (Or.inr (Or.inl h))) (fun h => (Or.elim h (fun h => (Or.inr (Or.inr (Or.inl h)))) (fun h => (Or.elim h (fun h => (Or.inr (Or.inr (Or.inr (Or.inl ⟨(h).1, (Or.elim (h).2 (fun h => (Or.inl h)) (fun h => (Or.elim h (fun h => (Or.inr (Or.inl h))) (fun h => (Or.elim h (fun h => (Or.inr (Or.inr (Or.inl h)))) (fun h => (Or.inr (Or.inr (Or.inr h)))))))))⟩))))) (fun h => (Or.inr (Or.inr (Or.inr (Or.inr h)))))))))))))  _ _ _ h_q5)
def W_Laws_name : Nat → Int → Prop := fun k j => k = 178
theorem fr_Laws_name {x1 : Int} {x2 : Int64} {W : Nat → Int → Prop} {M0 : Mem} (hW : ∀ k j, (W_Laws_name) k j → W k j)  {M : Mem} (h : Fr W M0 M) : Fr W M0 (t_Laws_name M x1 x2) := by
  show Pl (fun r => Fr W M0 r) (t_Laws_name M x1 x2)
  unfold t_Laws_name
  refine pl_ite (fun c_1 => ?_) (fun c_1 => ?_)
  · exact h
  · refine pl_ite (fun c_2 => ?_) (fun c_2 => ?_)
    · exact h
    · refine pl_let (fun M3 e_M3 => ?_)
      have h_M3 : Fr W M0 M3 := by rw [e_M3]; exact Fr.setL h (hW _ _ rfl)
      exact h_M3
def W_Formula_value_L228 : Nat → Int → Prop := fun k j => False
theorem fr_Formula_value_L228 {k0 : Nat} {r1 : Nat} {N1 : Nat} {bk4 : Mem → Int → Int → Option (Mem × Int64)} {v2_ : Int} {v3_ : Int} {W : Nat → Int → Prop} {M0 : Mem} (hW : ∀ k j, (W_Formula_value_L228) k j → W k j) (hbk4 : ∀ (a0_ : Mem) (a1_ : Int) (a2_ : Int), Fr W M0 a0_ → Post (fun r => Fr W M0 r.1) (bk4 a0_ a1_ a2_)) {M : Mem} (h : Fr W M0 M) : Post (fun r => Fr W M0 r.1) (t_Formula_value_L228 k0 r1 N1 bk4 M v2_ v3_) := by
  unfold t_Formula_value_L228
  exact hbk4 _ _ _ h
end
