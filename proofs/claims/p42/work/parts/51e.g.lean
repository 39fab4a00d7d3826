section
def W_MO_keepNow_L11 : Nat → Int → Prop := fun k j => (k = 191 ∧ (j = 43)) ∨ k = 207 ∨ k = 208 ∨ k = 209 ∨ k = 210 ∨ k = 211 ∨ k = 212 ∨ k = 213 ∨ k = 214 ∨ k = 215
theorem fr_MO_keepNow_L11  {W : Nat → Int → Prop} {M0 : Mem} (hW : ∀ k j, (W_MO_keepNow_L11) k j → W k j)  : ∀ (fu : Nat) (M : Mem) (v1_ : Int), Fr W M0 M → Post (fun r => Fr W M0 r) (t_MO_keepNow_L11  fu M v1_) := by
  intro fu
  induction fu with
  | zero => intro M v1_ h; exact post_none
  | succ fu ih =>
    intro M v1_ h
    rw [t_MO_keepNow_L11]
    refine post_ite (fun c_1 => ?_) (fun c_1 => ?_)
    · refine post_let (fun M10 e_M10 => ?_)
      have h_M10 : Fr W M0 M10 := by rw [e_M10]; exact Fr.setI h (hW _ _ (Or.inl ⟨rfl, rfl⟩))
      exact (fr_MO_keepNow_L45 (fun k j hk => hW k j (Or.elim hk (fun h => (Or.inl ⟨(h).1, (h).2⟩)) (fun h => (Or.elim h (fun h => (Or.inr (Or.inl h))) (fun h => (Or.elim h (fun h => (Or.inr (Or.inr (Or.inl h)))) (fun h => (Or.elim h (fun h => (Or.inr (Or.inr (Or.inr (Or.inl h))))) (fun h => (Or.elim h (fun h => (Or.inr (Or.inr (Or.inr (Or.inr (Or.inl h)))))) (fun h => (Or.elim h (fun h => (Or.inr (Or.inr (Or.inr (Or.inr (Or.inr (Or.inl h))))))) (fun h => (Or.elim h (fun h => (Or.inr (Or.inr (Or.inr (Or.inr (Or.inr (Or.inr (Or.inl h)))))))) (fun h => (Or.elim h (fun h => (Or.inr (Or.inr (Or.inr (Or.inr (Or.inr (Or.inr (Or.inr (Or.inl h))))))))) (fun h => (Or.elim h (fun h => (Or.inr (Or.inr (Or.inr (Or.inr (Or.inr (Or.inr (Or.inr (Or.inr (Or.inl h)))))))))) (fun h => (Or.inr (Or.inr (Or.inr (Or.inr (Or.inr (Or.inr (Or.inr (Or.inr (Or.inr h))))))))))))))))))))))))))))  h_M10)
    · refine post_bind (Q := fun r => Fr W M0 r) (fr_MO_copies (fun k j hk => hW k j (Or.elim hk (fun h => (Or.inr (Or.inl h))) (fun h => (Or.elim h (fun h => (Or.inr (Or.inr (Or.inl h)))) (fun h => (Or.elim h (fun h => (Or.inr (Or.inr (Or.inr (Or.inl h))))) (fun h => (Or.elim h (fun h => (Or.inr (Or.inr (Or.inr (Or.inr (Or.inl h)))))) (fun h => (Or.elim h (fun h => (Or.inr (Or.inr (Or.inr (Or.inr (Or.inr (Or.inl h))))))) (fun h => (Or.elim h (fun h => (Or.inr (Or.inr (Or.inr (Or.inr (Or.inr (Or.inr (Or.inl h)))))))) (fun h => (Or.elim h (fun h => (Or.inr (Or.inr (Or.inr (Or.inr (Or.inr (Or.inr (Or.inr (Or.inl h))))))))) (fun h => (Or.elim h (fun h => (Or.inr (Or.inr (Or.inr (Or.inr (Or.inr (Or.inr (Or.inr (Or.inr (Or.inl h)))))))))) (fun h => (Or.inr (Or.inr (Or.inr (Or.inr (Or.inr (Or.inr (Or.inr (Or.inr (Or.inr h))))))))))))))))))))))))))  h) (fun q11 h_q11 => ?_)
      exact (ih _ _ h_q11)
def W_MO_keepNow : Nat → Int → Prop := fun k j => (k = 191 ∧ (j = 43)) ∨ k = 207 ∨ k = 208 ∨ k = 209 ∨ k = 210 ∨ k = 211 ∨ k = 212 ∨ k = 213 ∨ k = 214 ∨ k = 215
theorem fr_MO_keepNow  {W : Nat → Int → Prop} {M0 : Mem} (hW : ∀ k j, (W_MO_keepNow) k j → W k j)  {M : Mem} (h : Fr W M0 M) : Post (fun r => Fr W M0 r) (t_MO_keepNow M) := by
  unfold t_MO_keepNow
  refine post_ite (fun c_1 => ?_) (fun c_1 => ?_)
  · exact (fr_MO_keepNow_L11 (fun k j hk => hW k j (Or.elim hk (fun h => (Or.inl ⟨(h).1, (h).2⟩)) (fun h => (Or.elim h (fun h => (Or.inr (Or.inl h))) (fun h => (Or.elim h (fun h => (Or.inr (Or.inr (Or.inl h)))) (fun h => (Or.elim h (fun h => (Or.inr (Or.inr (Or.inr (Or.inl h))))) (fun h => (Or.elim h (fun h => (Or.inr (Or.inr (Or.inr (Or.inr (Or.inl h)))))) (fun h => (Or.elim h (fun h => (Or.inr (Or.inr (Or.inr (Or.inr (Or.inr (Or.inl h))))))) (fun h => (Or.elim h (fun h => (Or.inr (Or.inr (Or.inr (Or.inr (Or.inr (Or.inr (Or.inl h)))))))) (fun h => (Or.elim h (fun h => (Or.inr (Or.inr (Or.inr (Or.inr (Or.inr (Or.inr (Or.inr (Or.inl h))))))))) (fun h => (Or.elim h (fun h => (Or.inr (Or.inr (Or.inr (Or.inr (Or.inr (Or.inr (Or.inr (Or.inr (Or.inl h)))))))))) (fun h => (Or.inr (Or.inr (Or.inr (Or.inr (Or.inr (Or.inr (Or.inr (Or.inr (Or.inr h))))))))))))))))))))))))))))  _ _ _ h)
  · exact (fr_MO_keepNow_L45 (fun k j hk => hW k j (Or.elim hk (fun h => (Or.inl ⟨(h).1, (h).2⟩)) (fun h => (Or.elim h (fun h => (Or.inr (Or.inl h))) (fun h => (Or.elim h (fun h => (Or.inr (Or.inr (Or.inl h)))) (fun h => (Or.elim h (fun h => (Or.inr (Or.inr (Or.inr (Or.inl h))))) (fun h => (Or.elim h (fun h => (Or.inr (Or.inr (Or.inr (Or.inr (Or.inl h)))))) (fun h => (Or.elim h (fun h => (Or.inr (Or.inr (Or.inr (Or.inr (Or.inr (Or.inl h))))))) (fun h => (Or.elim h (fun h => (Or.inr (Or.inr (Or.inr (Or.inr (Or.inr (Or.inr (Or.inl h)))))))) (fun h => (Or.elim h (fun h => (Or.inr (Or.inr (Or.inr (Or.inr (Or.inr (Or.inr (Or.inr (Or.inl h))))))))) (fun h => (Or.elim h (fun h => (Or.inr (Or.inr (Or.inr (Or.inr (Or.inr (Or.inr (Or.inr (Or.inr (Or.inl h)))))))))) (fun h => (Or.inr (Or.inr (Or.inr (Or.inr (Or.inr (Or.inr (Or.inr (Or.inr (Or.inr h))))))))))))))))))))))))))))  h)
def W_MO_pours_L42 : Nat → Int → Prop := fun k j => k = 211
theorem fr_MO_pours_L42 {x1 : Int} {x2 : Int} {v2_ : Int} {W : Nat → Int → Prop} {M0 : Mem} (hW : ∀ k j, (W_MO_pours_L42) k j → W k j)  {M : Mem} (h : Fr W M0 M) : Post (fun r => Fr W M0 r.1) (t_MO_pours_L42 x1 x2 M v2_) := by
  unfold t_MO_pours_L42
  refine post_guard (fun c_1 => ?_)
  refine post_ite (fun c_2 => ?_) (fun c_2 => ?_)
  · exact post_some h
  · refine post_guard (fun c_3 => ?_)
    refine post_guard (fun c_4 => ?_)
    refine post_let (fun M11 e_M11 => ?_)
    have h_M11 : Fr W M0 M11 := by rw [e_M11]; exact Fr.setL h (hW _ _ rfl)
    exact post_some h_M11
def W_MO_pours_L5 : Nat → Int → Prop := fun k j => k = 211
theorem fr_MO_pours_L5 {x1 : Int} {x2 : Int} {W : Nat → Int → Prop} {M0 : Mem} (hW : ∀ k j, (W_MO_pours_L5) k j → W k j)  : ∀ (fu : Nat) (M : Mem) (v2_ : Int) (v3_ : Int), Fr W M0 M → Post (fun r => Fr W M0 r.1) (t_MO_pours_L5 x1 x2 fu M v2_ v3_) := by
  intro fu
  induction fu with
  | zero => intro M v2_ v3_ h; exact post_none
  | succ fu ih =>
    intro M v2_ v3_ h
    rw [t_MO_pours_L5]
    refine post_ite (fun c_1 => ?_) (fun c_1 => ?_)
    · exact post_some h
    · refine post_bindv (fun q2 => ?_)
      refine post_ite (fun c_2 => ?_) (fun c_2 => ?_)
      · exact (fr_MO_pours_L42 (fun k j hk => hW k j hk)  h)
      · refine post_guard (fun c_3 => ?_)
        refine post_ite (fun c_4 => ?_) (fun c_4 => ?_)
        · exact (fr_MO_pours_L42 (fun k j hk => hW k j hk)  h)
        · exact (ih _ _ _ h)
def W_MO_pours : Nat → Int → Prop := fun k j => k = 211
theorem fr_MO_pours {x1 : Int} {x2 : Int} {W : Nat → Int → Prop} {M0 : Mem} (hW : ∀ k j, (W_MO_pours) k j → W k j)  {M : Mem} (h : Fr W M0 M) : Post (fun r => Fr W M0 r.1) (t_MO_pours M x1 x2) := by
  unfold t_MO_pours
  exact (fr_MO_pours_L5 (fun k j hk => hW k j hk)  _ _ _ _ h)
def W_MO_floods_L45 : Nat → Int → Prop := fun k j => False
theorem fr_MO_floods_L45 {x1 : Int} {bk17 : Mem → Int64 → Int → Option (Mem)} {v2_ : Int64} {v3_ : Int} {W : Nat → Int → Prop} {M0 : Mem} (hW : ∀ k j, (W_MO_floods_L45) k j → W k j) (hbk17 : ∀ (a0_ : Mem) (a1_ : Int64) (a2_ : Int), Fr W M0 a0_ → Post (fun r => Fr W M0 r) (bk17 a0_ a1_ a2_)) {M : Mem} (h : Fr W M0 M) : Post (fun r => Fr W M0 r) (t_MO_floods_L45 x1 bk17 M v2_ v3_) := by
  unfold t_MO_floods_L45
  exact hbk17 _ _ _ h
def W_MO_floods_L17 : Nat → Int → Prop := fun k j => k = 211
theorem fr_MO_floods_L17 {x1 : Int} {W : Nat → Int → Prop} {M0 : Mem} (hW : ∀ k j, (W_MO_floods_L17) k j → W k j)  : ∀ (fu : Nat) (M : Mem) (v2_ : Int64) (v3_ : Int), Fr W M0 M → Post (fun r => Fr W M0 r) (t_MO_floods_L17 x1 fu M v2_ v3_) := by
  intro fu
  induction fu with
  | zero => intro M v2_ v3_ h; exact post_none
  | succ fu ih =>
    intro M v2_ v3_ h
    rw [t_MO_floods_L17]
    refine post_let (fun q4 _ => ?_)
    refine post_ite (fun c_1 => ?_) (fun c_1 => ?_)
    · exact post_some h
    · refine post_ite (fun c_2 => ?_) (fun c_2 => ?_)
      · refine post_bind (Q := fun r => Fr W M0 r.1) (fr_MO_pours (fun k j hk => hW k j hk)  h) (fun q8 h_q8 => ?_)
        exact (fr_MO_floods_L45 (fun k j hk => hk.elim) (fun a0_ a1_ a2_ h9 => ih a0_ a1_ a2_ h9) h_q8)
      · exact (fr_MO_floods_L45 (fun k j hk => hk.elim) (fun a0_ a1_ a2_ h9 => ih a0_ a1_ a2_ h9) h)
def W_MO_floods : Nat → Int → Prop := fun k j => k = 211
theorem fr_MO_floods {x1 : Int} {W : Nat → Int → Prop} {M0 : Mem} (hW : ∀ k j, (W_MO_floods) k j → W k j)  {M : Mem} (h : Fr W M0 M) : Post (fun r => Fr W M0 r) (t_MO_floods M x1) := by
  unfold t_MO_floods
  refine post_guard (fun c_1 => ?_)
  refine post_guard (fun c_2 => ?_)
  refine post_let (fun M3 e_M3 => ?_)
  have h_M3 : Fr W M0 M3 := by rw [e_M3]; exact Fr.setL h (hW _ _ rfl)
  exact (fr_MO_floods_L17 (fun k j hk => hW k j hk)  _ _ _ _ h_M3)
def W_MO_vote : Nat → Int → Prop := fun k j => (k = 191 ∧ (j = 0 ∨ j = 43)) ∨ k = 207 ∨ k = 208 ∨ k = 209 ∨ k = 210 ∨ k = 211 ∨ k = 212 ∨ k = 213 ∨ k = 214 ∨ k = 215
theorem fr_MO_vote {x1 : Int} {x2 : Int} {W : Nat → Int → Prop} {M0 : Mem} (hW : ∀ k j, (W_MO_vote) k j → W k j)  {M : Mem} (h : Fr W M0 M) : Post (fun r => Fr W M0 r.1) (t_MO_vote M x1 x2) := by
  unfold t_MO_vote
  refine post_let (fun M1 e_M1 => ?_)
  have h_M1 : Fr W M0 M1 := by rw [e_M1]; exact Fr.setI h (hW _ _ (Or.inl ⟨rfl, (Or.inl rfl)⟩))
  refine post_let (fun q2 _ => ?_)
  refine post_ite (fun c_1 => ?_) (fun c_1 => ?_)
  · exact post_some h_M1
  · refine post_let (fun q5 _ => ?_)
    refine post_ite (fun c_2 => ?_) (fun c_2 => ?_)
    · exact post_some h_M1
    · refine post_guard (fun c_3 => ?_)
      refine post_ite (fun c_4 => ?_) (fun c_4 => ?_)
      · exact post_some h_M1
      · refine post_bind (Q := fun r => Fr W M0 r) (fr_MO_keepNow (fun k j hk => hW k j (Or.elim hk (fun h => (Or.inl ⟨(h).1, (Or.inr (h).2)⟩)) (fun h => (Or.elim h (fun h => (Or.inr (Or.inl h))) (fun h => (Or.elim h (fun h => (Or.inr (Or.inr (Or.inl h)))) (fun h => (Or.elim h (fun h => (Or.inr (Or.inr (Or.inr (Or.inl h))))) (fun h => (Or.elim h (fun h => (Or.inr (Or.inr (Or.inr (Or.inr (Or.inl h)))))) (fun h => (Or.elim h (fun h => (Or.inr (Or.inr (Or.inr (Or.inr (Or.inr (Or.inl h))))))) (fun h => (Or.elim h (fun h => (Or.inr (Or.inr (Or.inr (Or.inr (Or.inr (Or.inr (Or.inl h)))))))) (fun h => (Or.elim h (fun h => (Or.inr (Or.inr (Or.inr (Or.inr (Or.inr (Or.inr (Or.inr (Or.inl h))))))))) (fun h => (Or.elim h (fun h => (Or.inr (Or.inr (Or.inr (Or.inr (Or.inr (Or.inr (Or.inr (Or.inr (Or.inl h)))))))))) (fun h => (Or.inr (Or.inr (Or.inr (Or.inr (Or.inr (Or.inr (Or.inr (Or.inr (Or.inr h))))))))))))))))))))))))))))  h_M1) (fun q11 h_q11 => ?_)
        refine post_guard (fun c_5 => ?_)
        refine post_let (fun M14 e_M14 => ?_)
        have h_M14 : Fr W M0 M14 := by rw [e_M14]; exact Fr.setI h_q11 (hW _ _ (Or.inr (Or.inr (Or.inr (Or.inr (Or.inr (Or.inr (Or.inl rfl))))))))
        refine post_bind (Q := fun r => Fr W M0 r) (fr_MO_floods (fun k j hk => hW k j (Or.inr (Or.inr (Or.inr (Or.inr (Or.inr (Or.inl hk)))))))  h_M14) (fun q15 h_q15 => ?_)
        exact post_some h_q15
def W_MO_net_L33 : Nat → Int → Prop := fun k j => (k = 191 ∧ (j = 43)) ∨ k = 207 ∨ k = 208 ∨ k = 209 ∨ k = 210 ∨ k = 211 ∨ k = 212 ∨ k = 213 ∨ k = 214 ∨ k = 215
theorem fr_MO_net_L33 {x1 : Int} {x2 : Int} {v3_ : Int} {W : Nat → Int → Prop} {M0 : Mem} (hW : ∀ k j, (W_MO_net_L33) k j → W k j)  {M : Mem} (h : Fr W M0 M) : Post (fun r => Fr W M0 r.1) (t_MO_net_L33 x1 x2 M v3_) := by
  unfold t_MO_net_L33
  refine post_ite (fun c_1 => ?_) (fun c_1 => ?_)
  · exact post_some h
  · refine post_bind (Q := fun r => Fr W M0 r) (fr_MO_keepNow (fun k j hk => hW k j (Or.elim hk (fun h => (Or.inl ⟨(h).1, (h).2⟩)) (fun h => (Or.elim h (fun h => (Or.inr (Or.inl h))) (fun h => (Or.elim h (fun h => (Or.inr (Or.inr (Or.inl h)))) (fun h => (Or.elim h (fun h => (Or.inr (Or.inr (Or.inr (Or.inl h))))) (fun h => (Or.elim h (fun h => (Or.inr (Or.inr (Or.inr (Or.inr (Or.inl h)))))) (fun h => (Or.elim h (fun h => (Or.inr (Or.inr (Or.inr (Or.inr (Or.inr (Or.inl h))))))) (fun h => (Or.elim h (fun h => (Or.inr (Or.inr (Or.inr (Or.inr (Or.inr (Or.inr (Or.inl h)))))))) (fun h => (Or.elim h (fun h => (Or.inr (Or.inr (Or.inr (Or.inr (Or.inr (Or.inr (Or.inr (Or.inl h))))))))) (fun h => (Or.elim h (fun h => (Or.inr (Or.inr (Or.inr (Or.inr (Or.inr (Or.inr (Or.inr (Or.inr (Or.inl h)))))))))) (fun h => (Or.inr (Or.inr (Or.inr (Or.inr (Or.inr (Or.inr (Or.inr (Or.inr (Or.inr h))))))))))))))))))))))))))))  h) (fun q7 h_q7 => ?_)
    refine post_let (fun M9 e_M9 => ?_)
    have h_M9 : Fr W M0 M9 := by rw [e_M9]; exact Fr.setL h_q7 (hW _ _ (Or.inr (Or.inr (Or.inr (Or.inr (Or.inl rfl))))))
    exact post_some h_M9
def W_MO_net : Nat → Int → Prop := fun k j => (k = 191 ∧ (j = 0 ∨ j = 43)) ∨ k = 207 ∨ k = 208 ∨ k = 209 ∨ k = 210 ∨ k = 211 ∨ k = 212 ∨ k = 213 ∨ k = 214 ∨ k = 215
theorem fr_MO_net {x1 : Int} {x2 : Int} {W : Nat → Int → Prop} {M0 : Mem} (hW : ∀ k j, (W_MO_net) k j → W k j)  {M : Mem} (h : Fr W M0 M) : Post (fun r => Fr W M0 r.1) (t_MO_net M x1 x2) := by
  unfold t_MO_net
  refine post_let (fun M1 e_M1 => ?_)
  have h_M1 : Fr W M0 M1 := by rw [e_M1]; exact Fr.setI h (hW _ _ (Or.inl ⟨rfl, (Or.inl rfl)⟩))
  refine post_bindv (fun q2 => ?_)
  refine post_ite (fun c_1 => ?_) (fun c_1 => ?_)
  · exact post_some h_M1
  · refine post_ite (fun c_2 => ?_) (fun c_2 => ?_)
    · exact (fr_MO_net_L33 (fun k j hk => hW k j (Or.elim hk (fun h => (Or.inl ⟨(h).1, (Or.inr (h).2)⟩)) (fun h => (Or.elim h (fun h => (Or.inr (Or.inl h))) (fun h => (Or.elim h (fun h => (Or.inr (Or.inr (Or.inl h)))) (fun h => (Or.elim h (fun h => (Or.inr (Or.inr (Or.inr (Or.inl h))))) (fun h => (Or.elim h (fun h => (Or.inr (Or.inr (Or.inr (Or.inr (Or.inl h)))))) (fun h => (Or.elim h (fun h => (Or.inr (Or.inr (Or.inr (Or.inr (Or.inr (Or.inl h))))))) (fun h => (Or.elim h (fun h => (Or.inr (Or.inr (Or.inr (Or.inr (Or.inr (Or.inr (Or.inl h)))))))) (fun h => (Or.elim h (fun h => (Or.inr (Or.inr (Or.inr (Or.inr (Or.inr (Or.inr (Or.inr (Or.inl h))))))))) (fun h => (Or.elim h (fun h => (Or.inr (Or.inr (Or.inr (Or.inr (Or.inr (Or.inr (Or.inr (Or.inr (Or.inl h)))))))))) (fun h => (Or.inr (Or.inr (Or.inr (Or.inr (Or.inr (Or.inr (Or.inr (Or.inr (Or.inr h))))))))))))))))))))))))))))  h_M1)
    · exact (fr_MO_net_L33 (fun k j hk => hW k j (Or.elim hk (fun h => (Or.inl ⟨(h).1, (Or.inr (h).2)⟩)) (fun h => (Or.elim h (fun h => (Or.inr (Or.inl h))) (fun h => (Or.elim h (fun h => (Or.inr (Or.inr (Or.inl h)))) (fun h => (Or.elim h (fun h => (Or.inr (Or.inr (Or.inr (Or.inl h))))) (fun h => (Or.elim h (fun h => (Or.inr (Or.inr (Or.inr (Or.inr (Or.inl h)))))) (fun h => (Or.elim h (fun h => (Or.inr (Or.inr (Or.inr (Or.inr (Or.inr (Or.inl h))))))) (fun h => (Or.elim h (fun h => (Or.inr (Or.inr (Or.inr (Or.inr (Or.inr (Or.inr (Or.inl h)))))))) (fun h => (Or.elim h (fun h => (Or.inr (Or.inr (Or.inr (Or.inr (Or.inr (Or.inr (Or.inr (Or.inl h))))))))) (fun h => (Or.elim h (fun h => (Or.inr (Or.inr (Or.inr (Or.inr (Or.inr (Or.inr (Or.inr (Or.inr (Or.inl h)))))))))) (fun h => (Or.inr (Or.inr (Or.inr (Or.inr (Or.inr (Or.inr (Or.inr (Or.inr (Or.inr h))))))))))))))))))))))))))))  h_M1)
def W_MO_lay : Nat → Int → Prop := fun k j => (k = 191 ∧ (j = 0 ∨ j = 43)) ∨ k = 207 ∨ k = 208 ∨ k = 209 ∨ k = 210 ∨ k = 211 ∨ k = 212 ∨ k = 213 ∨ k = 214 ∨ k = 215
theorem fr_MO_lay {x1 : Int} {x2 : Int} {W : Nat → Int → Prop} {M0 : Mem} (hW : ∀ k j, (W_MO_lay) k j → W k j)  {M : Mem} (h : Fr W M0 M) : Post (fun r => Fr W M0 r.1) (t_MO_lay M x1 x2) := by
  unfold t_MO_lay
  refine post_let (fun M1 e_M1 => ?_)
  have h_M1 : Fr W M0 M1 := by rw [e_M1]; exact Fr.setI h (hW _ _ (Or.inl ⟨rfl, (Or.inl rfl)⟩))
  refine post_let (fun q2 _ => ?_)
  refine post_ite (fun c_1 => ?_) (fun c_1 => ?_)
  · exact post_some h_M1
  · refine post_bindv (fun q5 => ?_)
    refine post_ite (fun c_2 => ?_) (fun c_2 => ?_)
    · exact post_some h_M1
    · refine post_bindv (fun q8 => ?_)
      refine post_ite (fun c_3 => ?_) (fun c_3 => ?_)
      · refine post_bind (Q := fun r => Fr W M0 r) (fr_MO_keepNow (fun k j hk => hW k j (Or.elim hk (fun h => (Or.inl ⟨(h).1, (Or.inr (h).2)⟩)) (fun h => (Or.elim h (fun h => (Or.inr (Or.inl h))) (fun h => (Or.elim h (fun h => (Or.inr (Or.inr (Or.inl h)))) (fun h => (Or.elim h (fun h => (Or.inr (Or.inr (Or.inr (Or.inl h))))) (fun h => (Or.elim h (fun h => (Or.inr (Or.inr (Or.inr (Or.inr (Or.inl h)))))) (fun h => (Or.elim h (fun h => (Or.inr (Or.inr (Or.inr (Or.inr (Or.inr (Or.inl h))))))) (fun h => (Or.elim h (fun h => (Or.inr (Or.inr (Or.inr (Or.inr (Or.inr (Or.inr (Or.inl h)))))))) (fun h => (Or.elim h (fun h => (Or.inr (Or.inr (Or.inr (Or.inr (Or.inr (Or.inr (Or.inr (Or.inl h))))))))) (fun h => (Or.elim h (fun h => (Or.inr (Or.inr (Or.inr (Or.inr (Or.inr (Or.inr (Or.inr (Or.inr (Or.inl h)))))))))) (fun h => (Or.inr (Or.inr (Or.inr (Or.inr (Or.inr (Or.inr (Or.inr (Or.inr (Or.inr h))))))))))))))))))))))))))))  h_M1) (fun q11 h_q11 => ?_)
        refine post_guard (fun c_4 => ?_)
        refine post_let (fun M14 e_M14 => ?_)
        have h_M14 : Fr W M0 M14 := by rw [e_M14]; exact Fr.setI h_q11 (hW _ _ (Or.inr (Or.inr (Or.inr (Or.inr (Or.inr (Or.inr (Or.inr (Or.inl rfl)))))))))
        exact post_some h_M14
      · exact post_some h_M1
def W_MO_pour_L58 : Nat → Int → Prop := fun k j => False
theorem fr_MO_pour_L58 {x1 : Int} {x2 : Int} {bk37 : Mem → Int → Int → Option (Mem × Int)} {v3_ : Int} {v4_ : Int} {v5_ : Int} {W : Nat → Int → Prop} {M0 : Mem} (hW : ∀ k j, (W_MO_pour_L58) k j → W k j) (hbk37 : ∀ (a0_ : Mem) (a1_ : Int) (a2_ : Int), Fr W M0 a0_ → Post (fun r => Fr W M0 r.1) (bk37 a0_ a1_ a2_)) {M : Mem} (h : Fr W M0 M) : Post (fun r => Fr W M0 r.1) (t_MO_pour_L58 x1 x2 bk37 M v3_ v4_ v5_) := by
  unfold t_MO_pour_L58
  exact hbk37 _ _ _ h
def W_MO_pour_L37 : Nat → Int → Prop := fun k j => (k = 191 ∧ (j = 43)) ∨ k = 207 ∨ k = 208 ∨ k = 209 ∨ k = 210 ∨ k = 211 ∨ k = 212 ∨ k = 213 ∨ k = 214 ∨ k = 215
theorem fr_MO_pour_L37 {x1 : Int} {x2 : Int} {W : Nat → Int → Prop} {M0 : Mem} (hW : ∀ k j, (W_MO_pour_L37) k j → W k j)  : ∀ (fu : Nat) (M : Mem) (v3_ : Int) (v4_ : Int), Fr W M0 M → Post (fun r => Fr W M0 r.1) (t_MO_pour_L37 x1 x2 fu M v3_ v4_) := by
  intro fu
  induction fu with
  | zero => intro M v3_ v4_ h; exact post_none
  | succ fu ih =>
    intro M v3_ v4_ h
    rw [t_MO_pour_L37]
    refine post_ite (fun c_1 => ?_) (fun c_1 => ?_)
    · refine post_ite (fun c_2 => ?_) (fun c_2 => ?_)
      · exact post_some h
      · refine post_bind (Q := fun r => Fr W M0 r) (fr_MO_keepNow (fun k j hk => hW k j (Or.elim hk (fun h => (Or.inl ⟨(h).1, (h).2⟩)) (fun h => (Or.elim h (fun h => (Or.inr (Or.inl h))) (fun h => (Or.elim h (fun h => (Or.inr (Or.inr (Or.inl h)))) (fun h => (Or.elim h (fun h => (Or.inr (Or.inr (Or.inr (Or.inl h))))) (fun h => (Or.elim h (fun h => (Or.inr (Or.inr (Or.inr (Or.inr (Or.inl h)))))) (fun h => (Or.elim h (fun h => (Or.inr (Or.inr (Or.inr (Or.inr (Or.inr (Or.inl h))))))) (fun h => (Or.elim h (fun h => (Or.inr (Or.inr (Or.inr (Or.inr (Or.inr (Or.inr (Or.inl h)))))))) (fun h => (Or.elim h (fun h => (Or.inr (Or.inr (Or.inr (Or.inr (Or.inr (Or.inr (Or.inr (Or.inl h))))))))) (fun h => (Or.elim h (fun h => (Or.inr (Or.inr (Or.inr (Or.inr (Or.inr (Or.inr (Or.inr (Or.inr (Or.inl h)))))))))) (fun h => (Or.inr (Or.inr (Or.inr (Or.inr (Or.inr (Or.inr (Or.inr (Or.inr (Or.inr h))))))))))))))))))))))))))))  h) (fun q11 h_q11 => ?_)
        refine post_let (fun M13 e_M13 => ?_)
        have h_M13 : Fr W M0 M13 := by rw [e_M13]; exact Fr.setL h_q11 (hW _ _ (Or.inr (Or.inr (Or.inr (Or.inr (Or.inr (Or.inl rfl)))))))
        exact post_some h_M13
    · refine post_bind (Q := fun r => Fr W M0 r.1) (fr_MO_pours (fun k j hk => hW k j (Or.inr (Or.inr (Or.inr (Or.inr (Or.inr (Or.inl hk)))))))  h) (fun q14 h_q14 => ?_)
      refine post_ite (fun c_3 => ?_) (fun c_3 => ?_)
      · exact (fr_MO_pour_L58 (fun k j hk => hk.elim) (fun a0_ a1_ a2_ h9 => ih a0_ a1_ a2_ h9) h_q14)
      · exact (fr_MO_pour_L58 (fun k j hk => hk.elim) (fun a0_ a1_ a2_ h9 => ih a0_ a1_ a2_ h9) h_q14)
def W_MO_pour : Nat → Int → Prop := fun k j => (k = 191 ∧ (j = 0 ∨ j = 43)) ∨ k = 207 ∨ k = 208 ∨ k = 209 ∨ k = 210 ∨ k = 211 ∨ k = 212 ∨ k = 213 ∨ k = 214 ∨ k = 215
theorem fr_MO_pour {x1 : Int} {x2 : Int} {W : Nat → Int → Prop} {M0 : Mem} (hW : ∀ k j, (W_MO_pour) k j → W k j)  {M : Mem} (h : Fr W M0 M) : Post (fun r => Fr W M0 r.1) (t_MO_pour M x1 x2) := by
  unfold t_MO_pour
  refine post_let (fun M1 e_M1 => ?_)
  have h_M1 : Fr W M0 M1 := by rw [e_M1]; exact Fr.setI h (hW _ _ (Or.inl ⟨rfl, (Or.inl rfl)⟩))
  refine post_bindv (fun q2 => ?_)
  refine post_ite (fun c_1 => ?_) (fun c_1 => ?_)
  · exact post_some h_M1
  · refine post_ite (fun c_2 => ?_) (fun c_2 => ?_)
    · exact post_some h_M1
    · refine post_ite (fun c_3 => ?_) (fun c_3 => ?_)
      · refine post_bind (Q := fun r => Fr W M0 r) (fr_MO_copies (fun k j hk => hW k j (Or.elim hk (fun h => (Or.inr (Or.inl h))) (fun h => (Or.elim h (fun h => (Or.inr (Or.inr (Or.inl h)))) (fun h => (Or.elim h (fun h => (Or.inr (Or.inr (Or.inr (Or.inl h))))) (fun h => (Or.elim h (fun h => (Or.inr (Or.inr (Or.inr (Or.inr (Or.inl h)))))) (fun h => (Or.elim h (fun h => (Or.inr (Or.inr (Or.inr (Or.inr (Or.inr (Or.inl h))))))) (fun h => (Or.elim h (fun h => (Or.inr (Or.inr (Or.inr (Or.inr (Or.inr (Or.inr (Or.inl h)))))))) (fun h => (Or.elim h (fun h => (Or.inr (Or.inr (Or.inr (Or.inr (Or.inr (Or.inr (Or.inr (Or.inl h))))))))) (fun h => (Or.elim h (fun h => (Or.inr (Or.inr (Or.inr (Or.inr (Or.inr (Or.inr (Or.inr (Or.inr (Or.inl h)))))))))) (fun h => (Or.inr (Or.inr (Or.inr (Or.inr (Or.inr (Or.inr (Or.inr (Or.inr (Or.inr h))))))))))))))))))))))))))  h_M1) (fun q7 h_q7 => ?_)
        exact (fr_MO_pour_L37 (fun k j hk => hW k j (Or.elim hk (fun h => (Or.inl ⟨(h).1, (Or.inr (h).2)⟩)) (fun h => (Or.elim h (fun h => (Or.inr (Or.inl h))) (fun h => (Or.elim h (fun h => (Or.inr (Or.inr (Or.inl h)))) (fun h => (Or.elim h (fun h => (Or.inr (Or.inr (Or.inr (Or.inl h))))) (fun h => (Or.elim h (fun h => (Or.inr (Or.inr (Or.inr (Or.inr (Or.inl h)))))) (fun h => (Or.elim h (fun h => (Or.inr (Or.inr (Or.inr (Or.inr (Or.inr (Or.inl h))))))) (fun h => (Or.elim h (fun h => (Or.inr (Or.inr (Or.inr (Or.inr (Or.inr (Or.inr (Or.inl h)))))))) (fun h => (Or.elim h (fun h => (Or.inr (Or.inr (Or.inr (Or.inr (Or.inr (Or.inr (Or.inr (Or.inl h))))))))) (fun h => (Or.elim h (fun h => (Or.inr (Or.inr (Or.inr (Or.inr (Or.inr (Or.inr (Or.inr (Or.inr (Or.inl h)))))))))) (fun h => (Or.inr (Or.inr (Or.inr (Or.inr (Or.inr (Or.inr (Or.inr (Or.inr (Or.inr h))))))))))))))))))))))))))))  _ _ _ _ h_q7)
      · exact post_some h_M1
def W_MO_drain : Nat → Int → Prop := fun k j => (k = 191 ∧ (j = 0 ∨ j = 43)) ∨ k = 207 ∨ k = 208 ∨ k = 209 ∨ k = 210 ∨ k = 211 ∨ k = 212 ∨ k = 213 ∨ k = 214 ∨ k = 215
theorem fr_MO_drain  {W : Nat → Int → Prop} {M0 : Mem} (hW : ∀ k j, (W_MO_drain) k j → W k j)  {M : Mem} (h : Fr W M0 M) : Post (fun r => Fr W M0 r.1) (t_MO_drain M) := by
  unfold t_MO_drain
  refine post_let (fun M1 e_M1 => ?_)
  have h_M1 : Fr W M0 M1 := by rw [e_M1]; exact Fr.setI h (hW _ _ (Or.inl ⟨rfl, (Or.inl rfl)⟩))
  refine post_ite (fun c_1 => ?_) (fun c_1 => ?_)
  · exact post_some h_M1
  · refine post_bind (Q := fun r => Fr W M0 r) (fr_MO_keepNow (fun k j hk => hW k j (Or.elim hk (fun h => (Or.inl ⟨(h).1, (Or.inr (h).2)⟩)) (fun h => (Or.elim h (fun h => (Or.inr (Or.inl h))) (fun h => (Or.elim h (fun h => (Or.inr (Or.inr (Or.inl h)))) (fun h => (Or.elim h (fun h => (Or.inr (Or.inr (Or.inr (Or.inl h))))) (fun h => (Or.elim h (fun h => (Or.inr (Or.inr (Or.inr (Or.inr (Or.inl h)))))) (fun h => (Or.elim h (fun h => (Or.inr (Or.inr (Or.inr (Or.inr (Or.inr (Or.inl h))))))) (fun h => (Or.elim h (fun h => (Or.inr (Or.inr (Or.inr (Or.inr (Or.inr (Or.inr (Or.inl h)))))))) (fun h => (Or.elim h (fun h => (Or.inr (Or.inr (Or.inr (Or.inr (Or.inr (Or.inr (Or.inr (Or.inl h))))))))) (fun h => (Or.elim h (fun h => (Or.inr (Or.inr (Or.inr (Or.inr (Or.inr (Or.inr (Or.inr (Or.inr (Or.inl h)))))))))) (fun h => (Or.inr (Or.inr (Or.inr (Or.inr (Or.inr (Or.inr (Or.inr (Or.inr (Or.inr h))))))))))))))))))))))))))))  h_M1) (fun q3 h_q3 => ?_)
    refine post_bindv (fun q5 => ?_)
    refine post_let (fun M7 e_M7 => ?_)
    have h_M7 : Fr W M0 M7 := by rw [e_M7]; exact Fr.setL h_q3 (hW _ _ (Or.inr (Or.inr (Or.inr (Or.inr (Or.inr (Or.inl rfl)))))))
    exact post_some h_M7
def W_MO_flood : Nat → Int → Prop := fun k j => (k = 191 ∧ (j = 0)) ∨ k = 207 ∨ k = 208 ∨ k = 209 ∨ k = 210 ∨ k = 211 ∨ k = 212 ∨ k = 213 ∨ k = 214 ∨ k = 215
theorem fr_MO_flood {x1 : Int} {x2 : Int} {W : Nat → Int → Prop} {M0 : Mem} (hW : ∀ k j, (W_MO_flood) k j → W k j)  {M : Mem} (h : Fr W M0 M) : Post (fun r => Fr W M0 r.1) (t_MO_flood M x1 x2) := by
  unfold t_MO_flood
  refine post_let (fun M1 e_M1 => ?_)
  have h_M1 : Fr W M0 M1 := by rw [e_M1]; exact Fr.setI h (hW _ _ (Or.inl ⟨rfl, rfl⟩))
  refine post_let (fun q2 _ => ?_)
  refine post_ite (fun c_1 => ?_) (fun c_1 => ?_)
  · exact post_some h_M1
  · refine post_let (fun q5 _ => ?_)
    refine post_ite (fun c_2 => ?_) (fun c_2 => ?_)
    · exact post_some h_M1
    · refine post_bind (Q := fun r => Fr W M0 r) (fr_MO_copies (fun k j hk => hW k j (Or.elim hk (fun h => (Or.inr (Or.inl h))) (fun h => (Or.elim h (fun h => (Or.inr (Or.inr (Or.inl h)))) (fun h => (Or.elim h (fun h => (Or.inr (Or.inr (Or.inr (Or.inl h))))) (fun h => (Or.elim h (fun h => (Or.inr (Or.inr (Or.inr (Or.inr (Or.inl h)))))) (fun h => (Or.elim h (fun h => (Or.inr (Or.inr (Or.inr (Or.inr (Or.inr (Or.inl h))))))) (fun h => (Or.elim h (fun h => (Or.inr (Or.inr (Or.inr (Or.inr (Or.inr (Or.inr (Or.inl h)))))))) (fun h => (Or.elim h (fun h => (Or.inr (Or.inr (Or.inr (Or.inr (Or.inr (Or.inr (Or.inr (Or.inl h))))))))) (fun h => (Or.elim h (fun h => (Or.inr (Or.inr (Or.inr (Or.inr (Or.inr (Or.inr (Or.inr (Or.inr (Or.inl h)))))))))) (fun h => (Or.inr (Or.inr (Or.inr (Or.inr (Or.inr (Or.inr (Or.inr (Or.inr (Or.inr h))))))))))))))))))))))))))  h_M1) (fun q8 h_q8 => ?_)
      refine post_guard (fun c_3 => ?_)
      refine post_let (fun M11 e_M11 => ?_)
      have h_M11 : Fr W M0 M11 := by rw [e_M11]; exact Fr.setI h_q8 (hW _ _ (Or.inr (Or.inr (Or.inr (Or.inr (Or.inr (Or.inr (Or.inl rfl))))))))
      refine post_bind (Q := fun r => Fr W M0 r) (fr_MO_floods (fun k j hk => hW k j (Or.inr (Or.inr (Or.inr (Or.inr (Or.inr (Or.inl hk)))))))  h_M11) (fun q12 h_q12 => ?_)
      exact post_some h_q12
def W_MO_layWalk_L25 : Nat → Int → Prop := fun k j => k = 222
theorem fr_MO_layWalk_L25 {x1 : Int} {bk2 : Mem → Int → Option (Mem)} {v2_ : Int} {v4_ : Int} {v5_ : Int} {W : Nat → Int → Prop} {M0 : Mem} (hW : ∀ k j, (W_MO_layWalk_L25) k j → W k j) (hbk2 : ∀ (a0_ : Mem) (a1_ : Int), Fr W M0 a0_ → Post (fun r => Fr W M0 r) (bk2 a0_ a1_)) {M : Mem} (h : Fr W M0 M) : Post (fun r => Fr W M0 r) (t_MO_layWalk_L25 x1 bk2 M v2_ v4_ v5_) := by
  unfold t_MO_layWalk_L25
  refine post_guard (fun c_1 => ?_)
  refine post_let (fun M5 e_M5 => ?_)
  have h_M5 : Fr W M0 M5 := by rw [e_M5]; exact Fr.setI h (hW _ _ rfl)
  exact hbk2 _ _ h_M5
def W_MO_layWalk_L116 : Nat → Int → Prop := fun k j => False
theorem fr_MO_layWalk_L116 {x1 : Int} {bk34 : Mem → Int → Option (Mem)} {bk42 : Mem → Int → Int → Option (Mem)} {bk53 : Mem → Int → Int → Int → Option (Mem)} {v1_ : Int} {v2_ : Int} {v3_ : Int} {W : Nat → Int → Prop} {M0 : Mem} (hW : ∀ k j, (W_MO_layWalk_L116) k j → W k j) (hbk34 : ∀ (a0_ : Mem) (a1_ : Int), Fr W M0 a0_ → Post (fun r => Fr W M0 r) (bk34 a0_ a1_)) (hbk42 : ∀ (a0_ : Mem) (a1_ : Int) (a2_ : Int), Fr W M0 a0_ → Post (fun r => Fr W M0 r) (bk42 a0_ a1_ a2_)) (hbk53 : ∀ (a0_ : Mem) (a1_ : Int) (a2_ : Int) (a3_ : Int), Fr W M0 a0_ → Post (fun r => Fr W M0 r) (bk53 a0_ a1_ a2_ a3_)) {M : Mem} (h : Fr W M0 M) : Post (fun r => Fr W M0 r) (t_MO_layWalk_L116 x1 bk34 bk42 bk53 M v1_ v2_ v3_) := by
  unfold t_MO_layWalk_L116
  exact hbk53 _ _ _ _ h
def W_MO_layWalk_L53 : Nat → Int → Prop := fun k j => k = 222
theorem fr_MO_layWalk_L53 {x1 : Int} {bk34 : Mem → Int → Option (Mem)} {bk42 : Mem → Int → Int → Option (Mem)} {W : Nat → Int → Prop} {M0 : Mem} (hW : ∀ k j, (W_MO_layWalk_L53) k j → W k j) (hbk34 : ∀ (a0_ : Mem) (a1_ : Int), Fr W M0 a0_ → Post (fun r => Fr W M0 r) (bk34 a0_ a1_)) (hbk42 : ∀ (a0_ : Mem) (a1_ : Int) (a2_ : Int), Fr W M0 a0_ → Post (fun r => Fr W M0 r) (bk42 a0_ a1_ a2_)) : ∀ (fu : Nat) (M : Mem) (v1_ : Int) (v2_ : Int) (v3_ : Int), Fr W M0 M → Post (fun r => Fr W M0 r) (t_MO_layWalk_L53 x1 bk34 bk42 fu M v1_ v2_ v3_) := by
  intro fu
  induction fu with
  | zero => intro M v1_ v2_ v3_ h; exact post_none
  | succ fu ih =>
    intro M v1_ v2_ v3_ h
    rw [t_MO_layWalk_L53]
    refine post_ite (fun c_1 => ?_) (fun c_1 => ?_)
    · exact hbk42 _ _ _ h
    · refine post_bindv (fun q10 => ?_)
      refine post_bindv (fun q12 => ?_)
      refine post_ite (fun c_2 => ?_) (fun c_2 => ?_)
      · exact (fr_MO_layWalk_L116 (fun k j hk => hk.elim) hbk34 hbk42 (fun a0_ a1_ a2_ a3_ h9 => ih a0_ a1_ a2_ a3_ h9) h)
      · refine post_guard (fun c_3 => ?_)
        refine post_guard (fun c_4 => ?_)
        refine post_ite (fun c_5 => ?_) (fun c_5 => ?_)
        · refine post_guard (fun c_6 => ?_)
          refine post_guard (fun c_7 => ?_)
          refine post_let (fun M23 e_M23 => ?_)
          have h_M23 : Fr W M0 M23 := by rw [e_M23]; exact Fr.setI h (hW _ _ rfl)
          exact (fr_MO_layWalk_L116 (fun k j hk => hk.elim) hbk34 hbk42 (fun a0_ a1_ a2_ a3_ h9 => ih a0_ a1_ a2_ a3_ h9) h_M23)
        · exact (fr_MO_layWalk_L116 (fun k j hk => hk.elim) hbk34 hbk42 (fun a0_ a1_ a2_ a3_ h9 => ih a0_ a1_ a2_ a3_ h9) h)
def W_MO_layWalk_L42 : Nat → Int → Prop := fun k j => k = 222
theorem fr_MO_layWalk_L42 {x1 : Int} {bk34 : Mem → Int → Option (Mem)} {W : Nat → Int → Prop} {M0 : Mem} (hW : ∀ k j, (W_MO_layWalk_L42) k j → W k j) (hbk34 : ∀ (a0_ : Mem) (a1_ : Int), Fr W M0 a0_ → Post (fun r => Fr W M0 r) (bk34 a0_ a1_)) : ∀ (fu : Nat) (M : Mem) (v1_ : Int) (v2_ : Int), Fr W M0 M → Post (fun r => Fr W M0 r) (t_MO_layWalk_L42 x1 bk34 fu M v1_ v2_) := by
  intro fu
  induction fu with
  | zero => intro M v1_ v2_ h; exact post_none
  | succ fu ih =>
    intro M v1_ v2_ h
    rw [t_MO_layWalk_L42]
    refine post_let (fun q6 _ => ?_)
    refine post_ite (fun c_1 => ?_) (fun c_1 => ?_)
    · exact hbk34 _ _ h
    · exact (fr_MO_layWalk_L53 (fun k j hk => hW k j hk) hbk34 (fun a0_ a1_ a2_ h9 => ih a0_ a1_ a2_ h9) _ _ _ _ _ h)
def W_MO_layWalk_L34 : Nat → Int → Prop := fun k j => k = 222
theorem fr_MO_layWalk_L34 {x1 : Int} {W : Nat → Int → Prop} {M0 : Mem} (hW : ∀ k j, (W_MO_layWalk_L34) k j → W k j)  : ∀ (fu : Nat) (M : Mem) (v1_ : Int), Fr W M0 M → Post (fun r => Fr W M0 r) (t_MO_layWalk_L34 x1 fu M v1_) := by
  intro fu
  induction fu with
  | zero => intro M v1_ h; exact post_none
  | succ fu ih =>
    intro M v1_ h
    rw [t_MO_layWalk_L34]
    refine post_ite (fun c_1 => ?_) (fun c_1 => ?_)
    · exact post_some h
    · exact (fr_MO_layWalk_L42 (fun k j hk => hW k j hk) (fun a0_ a1_ h9 => ih a0_ a1_ h9) _ _ _ _ h)
def W_MO_layWalk_L2 : Nat → Int → Prop := fun k j => k = 222
theorem fr_MO_layWalk_L2 {x1 : Int} {W : Nat → Int → Prop} {M0 : Mem} (hW : ∀ k j, (W_MO_layWalk_L2) k j → W k j)  : ∀ (fu : Nat) (M : Mem) (v2_ : Int), Fr W M0 M → Post (fun r => Fr W M0 r) (t_MO_layWalk_L2 x1 fu M v2_) := by
  intro fu
  induction fu with
  | zero => intro M v2_ h; exact post_none
  | succ fu ih =>
    intro M v2_ h
    rw [t_MO_layWalk_L2]
    refine post_ite (fun c_1 => ?_) (fun c_1 => ?_)
    · exact (fr_MO_layWalk_L34 (fun k j hk => hW k j hk)  _ _ _ h)
    · refine post_ite (fun c_2 => ?_) (fun c_2 => ?_)
      · exact (fr_MO_layWalk_L25 (fun k j hk => hW k j hk) (fun a0_ a1_ h9 => ih a0_ a1_ h9) h)
      · exact (fr_MO_layWalk_L25 (fun k j hk => hW k j hk) (fun a0_ a1_ h9 => ih a0_ a1_ h9) h)
def W_MO_layWalk : Nat → Int → Prop := fun k j => k = 222
theorem fr_MO_layWalk {x1 : Int} {W : Nat → Int → Prop} {M0 : Mem} (hW : ∀ k j, (W_MO_layWalk) k j → W k j)  {M : Mem} (h : Fr W M0 M) : Post (fun r => Fr W M0 r) (t_MO_layWalk M x1) := by
  unfold t_MO_layWalk
  exact (fr_MO_layWalk_L2 (fun k j hk => hW k j hk)  _ _ _ h)
def W_MO_walk : Nat → Int → Prop := fun k j => (k = 191 ∧ (j = 0)) ∨ k = 222
theorem fr_MO_walk {x1 : Int} {x2 : Int} {W : Nat → Int → Prop} {M0 : Mem} (hW : ∀ k j, (W_MO_walk) k j → W k j)  {M : Mem} (h : Fr W M0 M) : Post (fun r => Fr W M0 r.1) (t_MO_walk M x1 x2) := by
  unfold t_MO_walk
  refine post_let (fun M1 e_M1 => ?_)
  have h_M1 : Fr W M0 M1 := by rw [e_M1]; exact Fr.setI h (hW _ _ (Or.inl ⟨rfl, rfl⟩))
  refine post_bindv (fun q2 => ?_)
  refine post_ite (fun c_1 => ?_) (fun c_1 => ?_)
  · exact post_some h_M1
  · refine post_bind (Q := fun r => Fr W M0 r) (fr_MO_layWalk (fun k j hk => hW k j (Or.inr hk))  h_M1) (fun q5 h_q5 => ?_)
    refine post_guard (fun c_2 => ?_)
    refine post_ite (fun c_3 => ?_) (fun c_3 => ?_)
    · refine post_guard (fun c_4 => ?_)
      exact post_some h_q5
    · exact post_some h_q5
def W_MO_step_L107 : Nat → Int → Prop := fun k j => False
theorem fr_MO_step_L107 {x1 : Int} {x2 : Int} {x3 : Int} {bk56 : Mem → Int → Int → Option (Mem × Int)} {bk65 : Mem → Int → Int → Int → Option (Mem × Int)} {v2_ : Int} {v3_ : Int} {v4_ : Int} {W : Nat → Int → Prop} {M0 : Mem} (hW : ∀ k j, (W_MO_step_L107) k j → W k j) (hbk56 : ∀ (a0_ : Mem) (a1_ : Int) (a2_ : Int), Fr W M0 a0_ → Post (fun r => Fr W M0 r.1) (bk56 a0_ a1_ a2_)) (hbk65 : ∀ (a0_ : Mem) (a1_ : Int) (a2_ : Int) (a3_ : Int), Fr W M0 a0_ → Post (fun r => Fr W M0 r.1) (bk65 a0_ a1_ a2_ a3_)) {M : Mem} (h : Fr W M0 M) : Post (fun r => Fr W M0 r.1) (t_MO_step_L107 x1 x2 x3 bk56 bk65 M v2_ v3_ v4_) := by
  unfold t_MO_step_L107
  exact hbk65 _ _ _ _ h
def W_MO_step_L65 : Nat → Int → Prop := fun k j => False
theorem fr_MO_step_L65 {x1 : Int} {x2 : Int} {x3 : Int} {bk56 : Mem → Int → Int → Option (Mem × Int)} {W : Nat → Int → Prop} {M0 : Mem} (hW : ∀ k j, (W_MO_step_L65) k j → W k j) (hbk56 : ∀ (a0_ : Mem) (a1_ : Int) (a2_ : Int), Fr W M0 a0_ → Post (fun r => Fr W M0 r.1) (bk56 a0_ a1_ a2_)) : ∀ (fu : Nat) (M : Mem) (v2_ : Int) (v3_ : Int) (v4_ : Int), Fr W M0 M → Post (fun r => Fr W M0 r.1) (t_MO_step_L65 x1 x2 x3 bk56 fu M v2_ v3_ v4_) := by
  intro fu
  induction fu with
  | zero => intro M v2_ v3_ v4_ h; exact post_none
  | succ fu ih =>
    intro M v2_ v3_ v4_ h
    rw [t_MO_step_L65]
    refine post_bindv (fun q15 => ?_)
    refine post_bindv (fun q17 => ?_)
    refine post_ite (fun c_1 => ?_) (fun c_1 => ?_)
    · exact (fr_MO_step_L107 (fun k j hk => hk.elim) hbk56 (fun a0_ a1_ a2_ a3_ h9 => ih a0_ a1_ a2_ a3_ h9) h)
    · refine post_bindv (fun q20 => ?_)
      refine post_guard (fun c_2 => ?_)
      refine post_guard (fun c_3 => ?_)
      refine post_ite (fun c_4 => ?_) (fun c_4 => ?_)
      · refine post_bindv (fun q27 => ?_)
        exact hbk56 _ _ _ h
      · exact (fr_MO_step_L107 (fun k j hk => hk.elim) hbk56 (fun a0_ a1_ a2_ a3_ h9 => ih a0_ a1_ a2_ a3_ h9) h)
def W_MO_step_L56 : Nat → Int → Prop := fun k j => False
theorem fr_MO_step_L56 {x1 : Int} {x2 : Int} {x3 : Int} {W : Nat → Int → Prop} {M0 : Mem} (hW : ∀ k j, (W_MO_step_L56) k j → W k j)  : ∀ (fu : Nat) (M : Mem) (v2_ : Int) (v3_ : Int), Fr W M0 M → Post (fun r => Fr W M0 r.1) (t_MO_step_L56 x1 x2 x3 fu M v2_ v3_) := by
  intro fu
  induction fu with
  | zero => intro M v2_ v3_ h; exact post_none
  | succ fu ih =>
    intro M v2_ v3_ h
    rw [t_MO_step_L56]
    refine post_ite (fun c_1 => ?_) (fun c_1 => ?_)
    · exact post_some h
    · exact (fr_MO_step_L65 (fun k j hk => hk.elim) (fun a0_ a1_ a2_ h9 => ih a0_ a1_ a2_ h9) _ _ _ _ _ h)
def W_MO_step : Nat → Int → Prop := fun k j => (k = 191 ∧ (j = 0)) ∨ k = 222
theorem fr_MO_step {x1 : Int} {x2 : Int} {x3 : Int} {W : Nat → Int → Prop} {M0 : Mem} (hW : ∀ k j, (W_MO_step) k j → W k j)  {M : Mem} (h : Fr W M0 M) : Post (fun r => Fr W M0 r.1) (t_MO_step M x1 x2 x3) := by
  unfold t_MO_step
  refine post_let (fun M1 e_M1 => ?_)
  have h_M1 : Fr W M0 M1 := by rw [e_M1]; exact Fr.setI h (hW _ _ (Or.inl ⟨rfl, rfl⟩))
  refine post_bindv (fun q2 => ?_)
  refine post_ite (fun c_1 => ?_) (fun c_1 => ?_)
  · exact post_some h_M1
  · refine post_ite (fun c_2 => ?_) (fun c_2 => ?_)
    · refine post_bind (Q := fun r => Fr W M0 r) (fr_MO_layWalk (fun k j hk => hW k j (Or.inr hk))  h_M1) (fun q6 h_q6 => ?_)
      refine post_guard (fun c_3 => ?_)
      refine post_ite (fun c_4 => ?_) (fun c_4 => ?_)
      · exact post_some h_q6
      · refine post_guard (fun c_5 => ?_)
        refine post_ite (fun c_6 => ?_) (fun c_6 => ?_)
        · exact (fr_MO_step_L56 (fun k j hk => hk.elim)  _ _ _ _ h_q6)
        · exact post_some h_q6
    · exact post_some h_M1
def W_MO_pushOf : Nat → Int → Prop := fun k j => (k = 191 ∧ (j = 54)) ∨ k = 220 ∨ k = 221
theorem fr_MO_pushOf {x1 : Int} {x2 : Int} {W : Nat → Int → Prop} {M0 : Mem} (hW : ∀ k j, (W_MO_pushOf) k j → W k j)  {M : Mem} (h : Fr W M0 M) : Post (fun r => Fr W M0 r.1) (t_MO_pushOf M x1 x2) := by
  unfold t_MO_pushOf
  refine post_bindv (fun q1 => ?_)
  refine post_bindv (fun q3 => ?_)
  refine post_ite (fun c_1 => ?_) (fun c_1 => ?_)
  · exact post_some h
  · refine post_bind (Q := fun r => Fr W M0 r) (fr_MO_callsPush (fun k j hk => hW k j (Or.inr (Or.inl hk)))  h) (fun q6 h_q6 => ?_)
    refine post_bind (Q := fun r => Fr W M0 r.1) (fr_MO_within (fun k j hk => hW k j (Or.elim hk (fun h => (Or.inl ⟨(h).1, (h).2⟩)) (fun h => (Or.inr (Or.inr h)))))  h_q6) (fun q8 h_q8 => ?_)
    exact post_some h_q8
def W_MO_layPush_L43 : Nat → Int → Prop := fun k j => k = 222
theorem fr_MO_layPush_L43 {x1 : Int} {bk2 : Mem → Int → Option (Mem)} {v2_ : Int} {v4_ : Int} {v5_ : Int} {W : Nat → Int → Prop} {M0 : Mem} (hW : ∀ k j, (W_MO_layPush_L43) k j → W k j) (hbk2 : ∀ (a0_ : Mem) (a1_ : Int), Fr W M0 a0_ → Post (fun r => Fr W M0 r) (bk2 a0_ a1_)) {M : Mem} (h : Fr W M0 M) : Post (fun r => Fr W M0 r) (t_MO_layPush_L43 x1 bk2 M v2_ v4_ v5_) := by
  unfold t_MO_layPush_L43
  refine post_guard (fun c_1 => ?_)
  refine post_let (fun M11 e_M11 => ?_)
  have h_M11 : Fr W M0 M11 := by rw [e_M11]; exact Fr.setI h (hW _ _ rfl)
  exact hbk2 _ _ h_M11
def W_MO_layPush_L25 : Nat → Int → Prop := fun k j => k = 222 ∨ k = 223
theorem fr_MO_layPush_L25 {x1 : Int} {bk2 : Mem → Int → Option (Mem)} {v2_ : Int} {v4_ : Int} {v5_ : Int} {W : Nat → Int → Prop} {M0 : Mem} (hW : ∀ k j, (W_MO_layPush_L25) k j → W k j) (hbk2 : ∀ (a0_ : Mem) (a1_ : Int), Fr W M0 a0_ → Post (fun r => Fr W M0 r) (bk2 a0_ a1_)) {M : Mem} (h : Fr W M0 M) : Post (fun r => Fr W M0 r) (t_MO_layPush_L25 x1 bk2 M v2_ v4_ v5_) := by
  unfold t_MO_layPush_L25
  refine post_guard (fun c_1 => ?_)
  refine post_let (fun M5 e_M5 => ?_)
  have h_M5 : Fr W M0 M5 := by rw [e_M5]; exact Fr.setI h (hW _ _ (Or.inr rfl))
  refine post_ite (fun c_2 => ?_) (fun c_2 => ?_)
  · exact (fr_MO_layPush_L43 (fun k j hk => hW k j (Or.inl hk)) hbk2 h_M5)
  · exact (fr_MO_layPush_L43 (fun k j hk => hW k j (Or.inl hk)) hbk2 h_M5)
def W_MO_layPush_L212 : Nat → Int → Prop := fun k j => False
theorem fr_MO_layPush_L212 {x1 : Int} {bk52 : Mem → Int → Option (Mem)} {bk60 : Mem → Int → Int → Option (Mem)} {bk71 : Mem → Int → Int → Int → Option (Mem)} {v1_ : Int} {v2_ : Int} {v3_ : Int} {W : Nat → Int → Prop} {M0 : Mem} (hW : ∀ k j, (W_MO_layPush_L212) k j → W k j) (hbk52 : ∀ (a0_ : Mem) (a1_ : Int), Fr W M0 a0_ → Post (fun r => Fr W M0 r) (bk52 a0_ a1_)) (hbk60 : ∀ (a0_ : Mem) (a1_ : Int) (a2_ : Int), Fr W M0 a0_ → Post (fun r => Fr W M0 r) (bk60 a0_ a1_ a2_)) (hbk71 : ∀ (a0_ : Mem) (a1_ : Int) (a2_ : Int) (a3_ : Int), Fr W M0 a0_ → Post (fun r => Fr W M0 r) (bk71 a0_ a1_ a2_ a3_)) {M : Mem} (h : Fr W M0 M) : Post (fun r => Fr W M0 r) (t_MO_layPush_L212 x1 bk52 bk60 bk71 M v1_ v2_ v3_) := by
  unfold t_MO_layPush_L212
  exact hbk71 _ _ _ _ h
def W_MO_layPush_L187 : Nat → Int → Prop := fun k j => k = 222 ∨ k = 223
theorem fr_MO_layPush_L187 {x1 : Int} {bk52 : Mem → Int → Option (Mem)} {bk60 : Mem → Int → Int → Option (Mem)} {bk71 : Mem → Int → Int → Int → Option (Mem)} {v1_ : Int} {v2_ : Int} {v3_ : Int} {v4_ : Int} {W : Nat → Int → Prop} {M0 : Mem} (hW : ∀ k j, (W_MO_layPush_L187) k j → W k j) (hbk52 : ∀ (a0_ : Mem) (a1_ : Int), Fr W M0 a0_ → Post (fun r => Fr W M0 r) (bk52 a0_ a1_)) (hbk60 : ∀ (a0_ : Mem) (a1_ : Int) (a2_ : Int), Fr W M0 a0_ → Post (fun r => Fr W M0 r) (bk60 a0_ a1_ a2_)) (hbk71 : ∀ (a0_ : Mem) (a1_ : Int) (a2_ : Int) (a3_ : Int), Fr W M0 a0_ → Post (fun r => Fr W M0 r) (bk71 a0_ a1_ a2_ a3_)) {M : Mem} (h : Fr W M0 M) : Post (fun r => Fr W M0 r) (t_MO_layPush_L187 x1 bk52 bk60 bk71 M v1_ v2_ v3_ v4_) := by
  unfold t_MO_layPush_L187
  refine post_guard (fun c_1 => ?_)
  refine post_let (fun M41 e_M41 => ?_)
  have h_M41 : Fr W M0 M41 := by rw [e_M41]; exact Fr.setI h (hW _ _ (Or.inr rfl))
  refine post_guard (fun c_2 => ?_)
  refine post_guard (fun c_3 => ?_)
  refine post_let (fun M45 e_M45 => ?_)
  have h_M45 : Fr W M0 M45 := by rw [e_M45]; exact Fr.setI h_M41 (hW _ _ (Or.inl rfl))
  exact (fr_MO_layPush_L212 (fun k j hk => hk.elim) hbk52 hbk60 hbk71 h_M45)
def W_MO_layPush_L218 : Nat → Int → Prop := fun k j => False
theorem fr_MO_layPush_L218 {x1 : Int} {bk52 : Mem → Int → Option (Mem)} {bk60 : Mem → Int → Int → Option (Mem)} {v1_ : Int} {v2_ : Int} {W : Nat → Int → Prop} {M0 : Mem} (hW : ∀ k j, (W_MO_layPush_L218) k j → W k j) (hbk52 : ∀ (a0_ : Mem) (a1_ : Int), Fr W M0 a0_ → Post (fun r => Fr W M0 r) (bk52 a0_ a1_)) (hbk60 : ∀ (a0_ : Mem) (a1_ : Int) (a2_ : Int), Fr W M0 a0_ → Post (fun r => Fr W M0 r) (bk60 a0_ a1_ a2_)) {M : Mem} (h : Fr W M0 M) : Post (fun r => Fr W M0 r) (t_MO_layPush_L218 x1 bk52 bk60 M v1_ v2_) := by
  unfold t_MO_layPush_L218
  exact hbk60 _ _ _ h
def W_MO_layPush_L71 : Nat → Int → Prop := fun k j => (k = 191 ∧ (j = 54)) ∨ k = 220 ∨ k = 221 ∨ k = 222 ∨ k = 223
theorem fr_MO_layPush_L71 {x1 : Int} {bk52 : Mem → Int → Option (Mem)} {bk60 : Mem → Int → Int → Option (Mem)} {W : Nat → Int → Prop} {M0 : Mem} (hW : ∀ k j, (W_MO_layPush_L71) k j → W k j) (hbk52 : ∀ (a0_ : Mem) (a1_ : Int), Fr W M0 a0_ → Post (fun r => Fr W M0 r) (bk52 a0_ a1_)) (hbk60 : ∀ (a0_ : Mem) (a1_ : Int) (a2_ : Int), Fr W M0 a0_ → Post (fun r => Fr W M0 r) (bk60 a0_ a1_ a2_)) : ∀ (fu : Nat) (M : Mem) (v1_ : Int) (v2_ : Int) (v3_ : Int), Fr W M0 M → Post (fun r => Fr W M0 r) (t_MO_layPush_L71 x1 bk52 bk60 fu M v1_ v2_ v3_) := by
  intro fu
  induction fu with
  | zero => intro M v1_ v2_ v3_ h; exact post_none
  | succ fu ih =>
    intro M v1_ v2_ v3_ h
    rw [t_MO_layPush_L71]
    refine post_ite (fun c_1 => ?_) (fun c_1 => ?_)
    · exact (fr_MO_layPush_L218 (fun k j hk => hk.elim) hbk52 hbk60 h)
    · refine post_guard (fun c_2 => ?_)
      refine post_ite (fun c_3 => ?_) (fun c_3 => ?_)
      · refine post_bindv (fun q16 => ?_)
        refine post_ite (fun c_4 => ?_) (fun c_4 => ?_)
        · exact (fr_MO_layPush_L212 (fun k j hk => hk.elim) hbk52 hbk60 (fun a0_ a1_ a2_ a3_ h9 => ih a0_ a1_ a2_ a3_ h9) h)
        · refine post_guard (fun c_5 => ?_)
          refine post_ite (fun c_6 => ?_) (fun c_6 => ?_)
          · refine post_guard (fun c_7 => ?_)
            refine post_ite (fun c_8 => ?_) (fun c_8 => ?_)
            · refine post_guard (fun c_9 => ?_)
              refine post_bind (Q := fun r => Fr W M0 r.1) (fr_MO_pushOf (fun k j hk => hW k j (Or.elim hk (fun h => (Or.inl ⟨(h).1, (h).2⟩)) (fun h => (Or.elim h (fun h => (Or.inr (Or.inl h))) (fun h => (Or.inr (Or.inr (Or.inl h))))))))  h) (fun q27 h_q27 => ?_)
              refine post_guard (fun c_10 => ?_)
              refine post_ite (fun c_11 => ?_) (fun c_11 => ?_)
              · exact (fr_MO_layPush_L212 (fun k j hk => hk.elim) hbk52 hbk60 (fun a0_ a1_ a2_ a3_ h9 => ih a0_ a1_ a2_ a3_ h9) h_q27)
              · refine post_guard (fun c_12 => ?_)
                refine post_ite (fun c_13 => ?_) (fun c_13 => ?_)
                · refine post_guard (fun c_14 => ?_)
                  refine post_guard (fun c_15 => ?_)
                  refine post_ite (fun c_16 => ?_) (fun c_16 => ?_)
                  · exact (fr_MO_layPush_L187 (fun k j hk => hW k j (Or.elim hk (fun h => (Or.inr (Or.inr (Or.inr (Or.inl h))))) (fun h => (Or.inr (Or.inr (Or.inr (Or.inr h))))))) hbk52 hbk60 (fun a0_ a1_ a2_ a3_ h9 => ih a0_ a1_ a2_ a3_ h9) h_q27)
                  · exact (fr_MO_layPush_L212 (fun k j hk => hk.elim) hbk52 hbk60 (fun a0_ a1_ a2_ a3_ h9 => ih a0_ a1_ a2_ a3_ h9) h_q27)
                · exact (fr_MO_layPush_L187 (fun k j hk => hW k j (Or.elim hk (fun h => (Or.inr (Or.inr (Or.inr (Or.inl h))))) (fun h => (Or.inr (Or.inr (Or.inr (Or.inr h))))))) hbk52 hbk60 (fun a0_ a1_ a2_ a3_ h9 => ih a0_ a1_ a2_ a3_ h9) h_q27)
            · exact (fr_MO_layPush_L212 (fun k j hk => hk.elim) hbk52 hbk60 (fun a0_ a1_ a2_ a3_ h9 => ih a0_ a1_ a2_ a3_ h9) h)
          · exact (fr_MO_layPush_L212 (fun k j hk => hk.elim) hbk52 hbk60 (fun a0_ a1_ a2_ a3_ h9 => ih a0_ a1_ a2_ a3_ h9) h)
      · exact (fr_MO_layPush_L218 (fun k j hk => hk.elim) hbk52 hbk60 h)
def W_MO_layPush_L60 : Nat → Int → Prop := fun k j => (k = 191 ∧ (j = 54)) ∨ k = 220 ∨ k = 221 ∨ k = 222 ∨ k = 223
theorem fr_MO_layPush_L60 {x1 : Int} {bk52 : Mem → Int → Option (Mem)} {W : Nat → Int → Prop} {M0 : Mem} (hW : ∀ k j, (W_MO_layPush_L60) k j → W k j) (hbk52 : ∀ (a0_ : Mem) (a1_ : Int), Fr W M0 a0_ → Post (fun r => Fr W M0 r) (bk52 a0_ a1_)) : ∀ (fu : Nat) (M : Mem) (v1_ : Int) (v2_ : Int), Fr W M0 M → Post (fun r => Fr W M0 r) (t_MO_layPush_L60 x1 bk52 fu M v1_ v2_) := by
  intro fu
  induction fu with
  | zero => intro M v1_ v2_ h; exact post_none
  | succ fu ih =>
    intro M v1_ v2_ h
    rw [t_MO_layPush_L60]
    refine post_let (fun q7 _ => ?_)
    refine post_ite (fun c_1 => ?_) (fun c_1 => ?_)
    · exact hbk52 _ _ h
    · exact (fr_MO_layPush_L71 (fun k j hk => hW k j (Or.elim hk (fun h => (Or.inl ⟨(h).1, (h).2⟩)) (fun h => (Or.elim h (fun h => (Or.inr (Or.inl h))) (fun h => (Or.elim h (fun h => (Or.inr (Or.inr (Or.inl h)))) (fun h => (Or.elim h (fun h => (Or.inr (Or.inr (Or.inr (Or.inl h))))) (fun h => (Or.inr (Or.inr (Or.inr (Or.inr h))))))))))))) hbk52 (fun a0_ a1_ a2_ h9 => ih a0_ a1_ a2_ h9) _ _ _ _ _ h)
def W_MO_layPush_L52 : Nat → Int → Prop := fun k j => (k = 191 ∧ (j = 54)) ∨ k = 220 ∨ k = 221 ∨ k = 222 ∨ k = 223
theorem fr_MO_layPush_L52 {x1 : Int} {W : Nat → Int → Prop} {M0 : Mem} (hW : ∀ k j, (W_MO_layPush_L52) k j → W k j)  : ∀ (fu : Nat) (M : Mem) (v1_ : Int), Fr W M0 M → Post (fun r => Fr W M0 r) (t_MO_layPush_L52 x1 fu M v1_) := by
  intro fu
  induction fu with
  | zero => intro M v1_ h; exact post_none
  | succ fu ih =>
    intro M v1_ h
    rw [t_MO_layPush_L52]
    refine post_ite (fun c_1 => ?_) (fun c_1 => ?_)
    · exact post_some h
    · exact (fr_MO_layPush_L60 (fun k j hk => hW k j (Or.elim hk (fun h => (Or.inl ⟨(h).1, (h).2⟩)) (fun h => (Or.elim h (fun h => (Or.inr (Or.inl h))) (fun h => (Or.elim h (fun h => (Or.inr (Or.inr (Or.inl h)))) (fun h => (Or.elim h (fun h => (Or.inr (Or.inr (Or.inr (Or.inl h))))) (fun h => (Or.inr (Or.inr (Or.inr (Or.inr h))))))))))))) (fun a0_ a1_ h9 => ih a0_ a1_ h9) _ _ _ _ h)
def W_MO_layPush_L2 : Nat → Int → Prop := fun k j => (k = 191 ∧ (j = 54)) ∨ k = 220 ∨ k = 221 ∨ k = 222 ∨ k = 223
theorem fr_MO_layPush_L2 {x1 : Int} {W : Nat → Int → Prop} {M0 : Mem} (hW : ∀ k j, (W_MO_layPush_L2) k j → W k j)  : ∀ (fu : Nat) (M : Mem) (v2_ : Int), Fr W M0 M → Post (fun r => Fr W M0 r) (t_MO_layPush_L2 x1 fu M v2_) := by
  intro fu
  induction fu with
  | zero => intro M v2_ h; exact post_none
  | succ fu ih =>
    intro M v2_ h
    rw [t_MO_layPush_L2]
    refine post_ite (fun c_1 => ?_) (fun c_1 => ?_)
    · exact (fr_MO_layPush_L52 (fun k j hk => hW k j (Or.elim hk (fun h => (Or.inl ⟨(h).1, (h).2⟩)) (fun h => (Or.elim h (fun h => (Or.inr (Or.inl h))) (fun h => (Or.elim h (fun h => (Or.inr (Or.inr (Or.inl h)))) (fun h => (Or.elim h (fun h => (Or.inr (Or.inr (Or.inr (Or.inl h))))) (fun h => (Or.inr (Or.inr (Or.inr (Or.inr h)))))))))))))  _ _ _ h)
    · refine post_ite (fun c_2 => ?_) (fun c_2 => ?_)
      · exact (fr_MO_layPush_L25 (fun k j hk => hW k j (Or.elim hk (fun h => (Or.inr (Or.inr (Or.inr (Or.inl h))))) (fun h => (Or.inr (Or.inr (Or.inr (Or.inr h))))))) (fun a0_ a1_ h9 => ih a0_ a1_ h9) h)
      · exact (fr_MO_layPush_L25 (fun k j hk => hW k j (Or.elim hk (fun h => (Or.inr (Or.inr (Or.inr (Or.inl h))))) (fun h => (Or.inr (Or.inr (Or.inr (Or.inr h))))))) (fun a0_ a1_ h9 => ih a0_ a1_ h9) h)
def W_MO_layPush : Nat → Int → Prop := fun k j => (k = 191 ∧ (j = 54)) ∨ k = 220 ∨ k = 221 ∨ k = 222 ∨ k = 223
theorem fr_MO_layPush {x1 : Int} {W : Nat → Int → Prop} {M0 : Mem} (hW : ∀ k j, (W_MO_layPush) k j → W k j)  {M : Mem} (h : Fr W M0 M) : Post (fun r => Fr W M0 r) (t_MO_layPush M x1) := by
  unfold t_MO_layPush
  exact (fr_MO_layPush_L2 (fun k j hk => hW k j (Or.elim hk (fun h => (Or.inl ⟨(h).1, (h).2⟩)) (fun h => (Or.elim h (fun h => (Or.inr (Or.inl h))) (fun h => (Or.elim h (fun h => (Or.inr (Or.inr (Or.inl h)))) (fun h => (Or.elim h (fun h => (Or.inr (Or.inr (Or.inr (Or.inl h))))) (fun h => (Or.inr (Or.inr (Or.inr (Or.inr h)))))))))))))  _ _ _ h)
def W_MO_push : Nat → Int → Prop := fun k j => (k = 191 ∧ (j = 0 ∨ j = 54)) ∨ k = 220 ∨ k = 221 ∨ k = 222 ∨ k = 223
theorem fr_MO_push {x1 : Int} {x2 : Int} {x3 : Int} {W : Nat → Int → Prop} {M0 : Mem} (hW : ∀ k j, (W_MO_push) k j → W k j)  {M : Mem} (h : Fr W M0 M) : Post (fun r => Fr W M0 r.1) (t_MO_push M x1 x2 x3) := by
  unfold t_MO_push
  refine post_let (fun M1 e_M1 => ?_)
  have h_M1 : Fr W M0 M1 := by rw [e_M1]; exact Fr.setI h (hW _ _ (Or.inl ⟨rfl, (Or.inl rfl)⟩))
  refine post_bindv (fun q2 => ?_)
  refine post_ite (fun c_1 => ?_) (fun c_1 => ?_)
  · exact post_some h_M1
  · refine post_bindv (fun q5 => ?_)
    refine post_ite (fun c_2 => ?_) (fun c_2 => ?_)
    · exact post_some h_M1
    · refine post_ite (fun c_3 => ?_) (fun c_3 => ?_)
      · exact post_some h_M1
      · refine post_ite (fun c_4 => ?_) (fun c_4 => ?_)
        · refine post_bind (Q := fun r => Fr W M0 r) (fr_MO_layPush (fun k j hk => hW k j (Or.elim hk (fun h => (Or.inl ⟨(h).1, (Or.inr (h).2)⟩)) (fun h => (Or.elim h (fun h => (Or.inr (Or.inl h))) (fun h => (Or.elim h (fun h => (Or.inr (Or.inr (Or.inl h)))) (fun h => (Or.elim h (fun h => (Or.inr (Or.inr (Or.inr (Or.inl h))))) (fun h => (Or.inr (Or.inr (Or.inr (Or.inr h)))))))))))))  h_M1) (fun q10 h_q10 => ?_)
          refine post_guard (fun c_5 => ?_)
          refine post_ite (fun c_6 => ?_) (fun c_6 => ?_)
          · refine post_ite (fun c_7 => ?_) (fun c_7 => ?_)
            · refine post_guard (fun c_8 => ?_)
              exact post_some h_q10
            · refine post_guard (fun c_9 => ?_)
              exact post_some h_q10
          · exact post_some h_q10
        · exact post_some h_M1
def W_MO_isPushed : Nat → Int → Prop := fun k j => (k = 191 ∧ (j = 54)) ∨ k = 220 ∨ k = 221
theorem fr_MO_isPushed {x1 : Int} {x2 : Int} {W : Nat → Int → Prop} {M0 : Mem} (hW : ∀ k j, (W_MO_isPushed) k j → W k j)  {M : Mem} (h : Fr W M0 M) : Post (fun r => Fr W M0 r.1) (t_MO_isPushed M x1 x2) := by
  unfold t_MO_isPushed
  refine post_bindv (fun q1 => ?_)
  refine post_ite (fun c_1 => ?_) (fun c_1 => ?_)
  · exact post_some h
  · refine post_guard (fun c_2 => ?_)
    refine post_ite (fun c_3 => ?_) (fun c_3 => ?_)
    · refine post_guard (fun c_4 => ?_)
      refine post_guard (fun c_5 => ?_)
      refine post_ite (fun c_6 => ?_) (fun c_6 => ?_)
      · refine post_guard (fun c_7 => ?_)
        refine post_bind (Q := fun r => Fr W M0 r.1) (fr_MO_pushOf (fun k j hk => hW k j (Or.elim hk (fun h => (Or.inl ⟨(h).1, (h).2⟩)) (fun h => (Or.elim h (fun h => (Or.inr (Or.inl h))) (fun h => (Or.inr (Or.inr h)))))))  h) (fun q14 h_q14 => ?_)
        refine post_guard (fun c_8 => ?_)
        refine post_ite (fun c_9 => ?_) (fun c_9 => ?_)
        · exact post_some h_q14
        · exact post_some h_q14
      · exact post_some h
    · exact post_some h
def W_MO_pushed_L72 : Nat → Int → Prop := fun k j => (k = 191 ∧ (j = 54)) ∨ k = 220 ∨ k = 221
theorem fr_MO_pushed_L72 {x1 : Int} {x2 : Int} {x3 : Int} {bk63 : Mem → Int → Int → Option (Mem × Int)} {W : Nat → Int → Prop} {M0 : Mem} (hW : ∀ k j, (W_MO_pushed_L72) k j → W k j) (hbk63 : ∀ (a0_ : Mem) (a1_ : Int) (a2_ : Int), Fr W M0 a0_ → Post (fun r => Fr W M0 r.1) (bk63 a0_ a1_ a2_)) : ∀ (fu : Nat) (M : Mem) (v2_ : Int) (v3_ : Int) (v4_ : Int), Fr W M0 M → Post (fun r => Fr W M0 r.1) (t_MO_pushed_L72 x1 x2 x3 bk63 fu M v2_ v3_ v4_) := by
  intro fu
  induction fu with
  | zero => intro M v2_ v3_ v4_ h; exact post_none
  | succ fu ih =>
    intro M v2_ v3_ v4_ h
    rw [t_MO_pushed_L72]
    refine post_bind (Q := fun r => Fr W M0 r.1) (fr_MO_isPushed (fun k j hk => hW k j (Or.elim hk (fun h => (Or.inl ⟨(h).1, (h).2⟩)) (fun h => (Or.elim h (fun h => (Or.inr (Or.inl h))) (fun h => (Or.inr (Or.inr h)))))))  h) (fun q18 h_q18 => ?_)
    refine post_ite (fun c_1 => ?_) (fun c_1 => ?_)
    · exact (ih _ _ _ _ h_q18)
    · refine post_bindv (fun q21 => ?_)
      exact hbk63 _ _ _ h_q18
def W_MO_pushed_L63 : Nat → Int → Prop := fun k j => (k = 191 ∧ (j = 54)) ∨ k = 220 ∨ k = 221
theorem fr_MO_pushed_L63 {x1 : Int} {x2 : Int} {x3 : Int} {W : Nat → Int → Prop} {M0 : Mem} (hW : ∀ k j, (W_MO_pushed_L63) k j → W k j)  : ∀ (fu : Nat) (M : Mem) (v2_ : Int) (v3_ : Int), Fr W M0 M → Post (fun r => Fr W M0 r.1) (t_MO_pushed_L63 x1 x2 x3 fu M v2_ v3_) := by
  intro fu
  induction fu with
  | zero => intro M v2_ v3_ h; exact post_none
  | succ fu ih =>
    intro M v2_ v3_ h
    rw [t_MO_pushed_L63]
    refine post_ite (fun c_1 => ?_) (fun c_1 => ?_)
    · exact post_some h
    · exact (fr_MO_pushed_L72 (fun k j hk => hW k j (Or.elim hk (fun h => (Or.inl ⟨(h).1, (h).2⟩)) (fun h => (Or.elim h (fun h => (Or.inr (Or.inl h))) (fun h => (Or.inr (Or.inr h))))))) (fun a0_ a1_ a2_ h9 => ih a0_ a1_ a2_ h9) _ _ _ _ _ h)
def W_MO_pushed : Nat → Int → Prop := fun k j => (k = 191 ∧ (j = 0 ∨ j = 54)) ∨ k = 220 ∨ k = 221 ∨ k = 222 ∨ k = 223
theorem fr_MO_pushed {x1 : Int} {x2 : Int} {x3 : Int} {W : Nat → Int → Prop} {M0 : Mem} (hW : ∀ k j, (W_MO_pushed) k j → W k j)  {M : Mem} (h : Fr W M0 M) : Post (fun r => Fr W M0 r.1) (t_MO_pushed M x1 x2 x3) := by
  unfold t_MO_pushed
  refine post_let (fun M1 e_M1 => ?_)
  have h_M1 : Fr W M0 M1 := by rw [e_M1]; exact Fr.setI h (hW _ _ (Or.inl ⟨rfl, (Or.inl rfl)⟩))
  refine post_bindv (fun q2 => ?_)
  refine post_ite (fun c_1 => ?_) (fun c_1 => ?_)
  · exact post_some h_M1
  · refine post_bindv (fun q5 => ?_)
    refine post_ite (fun c_2 => ?_) (fun c_2 => ?_)
    · exact post_some h_M1
    · refine post_ite (fun c_3 => ?_) (fun c_3 => ?_)
      · refine post_bind (Q := fun r => Fr W M0 r) (fr_MO_layPush (fun k j hk => hW k j (Or.elim hk (fun h => (Or.inl ⟨(h).1, (Or.inr (h).2)⟩)) (fun h => (Or.elim h (fun h => (Or.inr (Or.inl h))) (fun h => (Or.elim h (fun h => (Or.inr (Or.inr (Or.inl h)))) (fun h => (Or.elim h (fun h => (Or.inr (Or.inr (Or.inr (Or.inl h))))) (fun h => (Or.inr (Or.inr (Or.inr (Or.inr h)))))))))))))  h_M1) (fun q9 h_q9 => ?_)
        refine post_guard (fun c_4 => ?_)
        refine post_ite (fun c_5 => ?_) (fun c_5 => ?_)
        · exact post_some h_q9
        · refine post_guard (fun c_6 => ?_)
          refine post_ite (fun c_7 => ?_) (fun c_7 => ?_)
          · exact (fr_MO_pushed_L63 (fun k j hk => hW k j (Or.elim hk (fun h => (Or.inl ⟨(h).1, (Or.inr (h).2)⟩)) (fun h => (Or.elim h (fun h => (Or.inr (Or.inl h))) (fun h => (Or.inr (Or.inr (Or.inl h))))))))  _ _ _ _ h_q9)
          · exact post_some h_q9
      · exact post_some h_M1
def W_MO_war_L100 : Nat → Int → Prop := fun k j => False
theorem fr_MO_war_L100 {x1 : Int} {x2 : Int} {bk33 : Mem → Int → Int → Option (Mem × Int)} {v3_ : Int} {v4_ : Int} {W : Nat → Int → Prop} {M0 : Mem} (hW : ∀ k j, (W_MO_war_L100) k j → W k j) (hbk33 : ∀ (a0_ : Mem) (a1_ : Int) (a2_ : Int), Fr W M0 a0_ → Post (fun r => Fr W M0 r.1) (bk33 a0_ a1_ a2_)) {M : Mem} (h : Fr W M0 M) : Post (fun r => Fr W M0 r.1) (t_MO_war_L100 x1 x2 bk33 M v3_ v4_) := by
  unfold t_MO_war_L100
  exact hbk33 _ _ _ h
def W_MO_war_L98 : Nat → Int → Prop := fun k j => False
theorem fr_MO_war_L98 {x1 : Int} {x2 : Int} {bk33 : Mem → Int → Int → Option (Mem × Int)} {v3_ : Int} {v4_ : Int} {v5_ : Int} {W : Nat → Int → Prop} {M0 : Mem} (hW : ∀ k j, (W_MO_war_L98) k j → W k j) (hbk33 : ∀ (a0_ : Mem) (a1_ : Int) (a2_ : Int), Fr W M0 a0_ → Post (fun r => Fr W M0 r.1) (bk33 a0_ a1_ a2_)) {M : Mem} (h : Fr W M0 M) : Post (fun r => Fr W M0 r.1) (t_MO_war_L98 x1 x2 bk33 M v3_ v4_ v5_) := by
  unfold t_MO_war_L98
  exact (fr_MO_war_L100 (fun k j hk => hk.elim) hbk33 h)
def W_MO_war_L97 : Nat → Int → Prop := fun k j => False
theorem fr_MO_war_L97 {x1 : Int} {x2 : Int} {bk33 : Mem → Int → Int → Option (Mem × Int)} {v3_ : Int} {v4_ : Int} {W : Nat → Int → Prop} {M0 : Mem} (hW : ∀ k j, (W_MO_war_L97) k j → W k j) (hbk33 : ∀ (a0_ : Mem) (a1_ : Int) (a2_ : Int), Fr W M0 a0_ → Post (fun r => Fr W M0 r.1) (bk33 a0_ a1_ a2_)) {M : Mem} (h : Fr W M0 M) : Post (fun r => Fr W M0 r.1) (t_MO_war_L97 x1 x2 bk33 M v3_ v4_) := by
  unfold t_MO_war_L97
  exact (fr_MO_war_L98 (fun k j hk => hk.elim) hbk33 h)
def W_MO_war_L33 : Nat → Int → Prop := fun k j => (k = 191 ∧ (j = 46 ∨ j = 47 ∨ j = 48 ∨ j = 49 ∨ j = 50)) ∨ k = 219
theorem fr_MO_war_L33 {x1 : Int} {x2 : Int} {W : Nat → Int → Prop} {M0 : Mem} (hW : ∀ k j, (W_MO_war_L33) k j → W k j)  : ∀ (fu : Nat) (M : Mem) (v3_ : Int) (v4_ : Int), Fr W M0 M → Post (fun r => Fr W M0 r.1) (t_MO_war_L33 x1 x2 fu M v3_ v4_) := by
  intro fu
  induction fu with
  | zero => intro M v3_ v4_ h; exact post_none
  | succ fu ih =>
    intro M v3_ v4_ h
    rw [t_MO_war_L33]
    refine post_let (fun q9 _ => ?_)
    refine post_ite (fun c_1 => ?_) (fun c_1 => ?_)
    · exact post_some h
    · refine post_guard (fun c_2 => ?_)
      refine post_ite (fun c_3 => ?_) (fun c_3 => ?_)
      · refine post_guard (fun c_4 => ?_)
        refine post_ite (fun c_5 => ?_) (fun c_5 => ?_)
        · refine post_bind (Q := fun r => Fr W M0 r) (fr_MO_goesFrom (fun k j hk => hW k j (Or.elim hk (fun h => (Or.inl ⟨(h).1, (Or.elim (h).2 (fun h => (Or.inl h)) (fun h => (Or.elim h (fun h => (Or.inr (Or.inl h))) (fun h => (Or.elim h (fun h => (Or.inr (Or.inr (Or.inl h)))) (fun h => (Or.elim h (fun h => (Or.inr (Or.inr (Or.inr (Or.inl h))))) (fun h => (Or.inr (Or.inr (Or.inr (Or.inr h))))))))))))⟩)) (fun h => (Or.inr h))))  h) (fun q18 h_q18 => ?_)
          refine post_ite (fun c_6 => ?_) (fun c_6 => ?_)
          · exact (fr_MO_war_L97 (fun k j hk => hk.elim) (fun a0_ a1_ a2_ h9 => ih a0_ a1_ a2_ h9) h_q18)
          · refine post_ite (fun c_7 => ?_) (fun c_7 => ?_)
            · exact (fr_MO_war_L98 (fun k j hk => hk.elim) (fun a0_ a1_ a2_ h9 => ih a0_ a1_ a2_ h9) h_q18)
            · exact (fr_MO_war_L97 (fun k j hk => hk.elim) (fun a0_ a1_ a2_ h9 => ih a0_ a1_ a2_ h9) h_q18)
        · exact (fr_MO_war_L100 (fun k j hk => hk.elim) (fun a0_ a1_ a2_ h9 => ih a0_ a1_ a2_ h9) h)
      · exact (fr_MO_war_L100 (fun k j hk => hk.elim) (fun a0_ a1_ a2_ h9 => ih a0_ a1_ a2_ h9) h)
def W_MO_war : Nat → Int → Prop := fun k j => (k = 191 ∧ (j = 0 ∨ j = 46 ∨ j = 47 ∨ j = 48 ∨ j = 49 ∨ j = 50)) ∨ k = 219
theorem fr_MO_war {x1 : Int} {x2 : Int} {W : Nat → Int → Prop} {M0 : Mem} (hW : ∀ k j, (W_MO_war) k j → W k j)  {M : Mem} (h : Fr W M0 M) : Post (fun r => Fr W M0 r.1) (t_MO_war M x1 x2) := by
  unfold t_MO_war
  refine post_let (fun M1 e_M1 => ?_)
  have h_M1 : Fr W M0 M1 := by rw [e_M1]; exact Fr.setI h (hW _ _ (Or.inl ⟨rfl, (Or.inl rfl)⟩))
  refine post_let (fun q2 _ => ?_)
  refine post_ite (fun c_1 => ?_) (fun c_1 => ?_)
  · exact post_some h_M1
  · refine post_let (fun q5 _ => ?_)
    refine post_ite (fun c_2 => ?_) (fun c_2 => ?_)
    · exact post_some h_M1
    · refine post_ite (fun c_3 => ?_) (fun c_3 => ?_)
      · exact post_some h_M1
      · exact (fr_MO_war_L33 (fun k j hk => hW k j (Or.elim hk (fun h => (Or.inl ⟨(h).1, (Or.elim (h).2 (fun h => (Or.inr (Or.inl h))) (fun h => (Or.elim h (fun h => (Or.inr (Or.inr (Or.inl h)))) (fun h => (Or.elim h (fun h => (Or.inr (Or.inr (Or.inr (Or.inl h))))) (fun h => (Or.elim h (fun h => (Or.inr (Or.inr (Or.inr (Or.inr (Or.inl h)))))) (fun h => (Or.inr (Or.inr (Or.inr (Or.inr (Or.inr h)))))))))))))⟩)) (fun h => (Or.inr h))))  _ _ _ _ h_M1)
def W_MO_nets_L59 : Nat → Int → Prop := fun k j => False
theorem fr_MO_nets_L59 {bk9 : Mem → Int64 → Int → Option (Mem × Int64)} {v1_ : Int64} {v2_ : Int} {W : Nat → Int → Prop} {M0 : Mem} (hW : ∀ k j, (W_MO_nets_L59) k j → W k j) (hbk9 : ∀ (a0_ : Mem) (a1_ : Int64) (a2_ : Int), Fr W M0 a0_ → Post (fun r => Fr W M0 r.1) (bk9 a0_ a1_ a2_)) {M : Mem} (h : Fr W M0 M) : Post (fun r => Fr W M0 r.1) (t_MO_nets_L59 bk9 M v1_ v2_) := by
  unfold t_MO_nets_L59
  exact hbk9 _ _ _ h
def W_MO_nets_L9 : Nat → Int → Prop := fun k j => False
theorem fr_MO_nets_L9  {W : Nat → Int → Prop} {M0 : Mem} (hW : ∀ k j, (W_MO_nets_L9) k j → W k j)  : ∀ (fu : Nat) (M : Mem) (v1_ : Int64) (v2_ : Int), Fr W M0 M → Post (fun r => Fr W M0 r.1) (t_MO_nets_L9  fu M v1_ v2_) := by
  intro fu
  induction fu with
  | zero => intro M v1_ v2_ h; exact post_none
  | succ fu ih =>
    intro M v1_ v2_ h
    rw [t_MO_nets_L9]
    refine post_let (fun q2 _ => ?_)
    refine post_ite (fun c_1 => ?_) (fun c_1 => ?_)
    · exact post_some h
    · refine post_guard (fun c_2 => ?_)
      refine post_ite (fun c_3 => ?_) (fun c_3 => ?_)
      · refine post_bindv (fun q8 => ?_)
        refine post_ite (fun c_4 => ?_) (fun c_4 => ?_)
        · exact (fr_MO_nets_L59 (fun k j hk => hk.elim) (fun a0_ a1_ a2_ h9 => ih a0_ a1_ a2_ h9) h)
        · refine post_bindv (fun q11 => ?_)
          refine post_ite (fun c_5 => ?_) (fun c_5 => ?_)
          · exact (fr_MO_nets_L59 (fun k j hk => hk.elim) (fun a0_ a1_ a2_ h9 => ih a0_ a1_ a2_ h9) h)
          · exact (fr_MO_nets_L59 (fun k j hk => hk.elim) (fun a0_ a1_ a2_ h9 => ih a0_ a1_ a2_ h9) h)
      · exact (fr_MO_nets_L59 (fun k j hk => hk.elim) (fun a0_ a1_ a2_ h9 => ih a0_ a1_ a2_ h9) h)
def W_MO_nets : Nat → Int → Prop := fun k j => (k = 191 ∧ (j = 0))
theorem fr_MO_nets  {W : Nat → Int → Prop} {M0 : Mem} (hW : ∀ k j, (W_MO_nets) k j → W k j)  {M : Mem} (h : Fr W M0 M) : Post (fun r => Fr W M0 r.1) (t_MO_nets M) := by
  unfold t_MO_nets
  refine post_let (fun M1 e_M1 => ?_)
  have h_M1 : Fr W M0 M1 := by rw [e_M1]; exact Fr.setI h (hW _ _ ⟨rfl, rfl⟩)
  exact (fr_MO_nets_L9 (fun k j hk => hk.elim)  _ _ _ _ h_M1)
def W_MO_longest_L63 : Nat → Int → Prop := fun k j => False
theorem fr_MO_longest_L63 {x1 : Int} {bk9 : Mem → Int → Int → Option (Mem × Int)} {v2_ : Int} {v3_ : Int} {W : Nat → Int → Prop} {M0 : Mem} (hW : ∀ k j, (W_MO_longest_L63) k j → W k j) (hbk9 : ∀ (a0_ : Mem) (a1_ : Int) (a2_ : Int), Fr W M0 a0_ → Post (fun r => Fr W M0 r.1) (bk9 a0_ a1_ a2_)) {M : Mem} (h : Fr W M0 M) : Post (fun r => Fr W M0 r.1) (t_MO_longest_L63 x1 bk9 M v2_ v3_) := by
  unfold t_MO_longest_L63
  exact hbk9 _ _ _ h
def W_MO_longest_L9 : Nat → Int → Prop := fun k j => (k = 191 ∧ (j = 46 ∨ j = 47 ∨ j = 48 ∨ j = 49 ∨ j = 50 ∨ j = 57)) ∨ k = 219
theorem fr_MO_longest_L9 {x1 : Int} {W : Nat → Int → Prop} {M0 : Mem} (hW : ∀ k j, (W_MO_longest_L9) k j → W k j)  : ∀ (fu : Nat) (M : Mem) (v2_ : Int) (v3_ : Int), Fr W M0 M → Post (fun r => Fr W M0 r.1) (t_MO_longest_L9 x1 fu M v2_ v3_) := by
  intro fu
  induction fu with
  | zero => intro M v2_ v3_ h; exact post_none
  | succ fu ih =>
    intro M v2_ v3_ h
    rw [t_MO_longest_L9]
    refine post_let (fun q2 _ => ?_)
    refine post_ite (fun c_1 => ?_) (fun c_1 => ?_)
    · exact post_some h
    · refine post_guard (fun c_2 => ?_)
      refine post_ite (fun c_3 => ?_) (fun c_3 => ?_)
      · refine post_bind (Q := fun r => Fr W M0 r) (fr_MO_goesFrom (fun k j hk => hW k j (Or.elim hk (fun h => (Or.inl ⟨(h).1, (Or.elim (h).2 (fun h => (Or.inl h)) (fun h => (Or.elim h (fun h => (Or.inr (Or.inl h))) (fun h => (Or.elim h (fun h => (Or.inr (Or.inr (Or.inl h)))) (fun h => (Or.elim h (fun h => (Or.inr (Or.inr (Or.inr (Or.inl h))))) (fun h => (Or.inr (Or.inr (Or.inr (Or.inr (Or.inl h)))))))))))))⟩)) (fun h => (Or.inr h))))  h) (fun q8 h_q8 => ?_)
        refine post_ite (fun c_4 => ?_) (fun c_4 => ?_)
        · exact (fr_MO_longest_L63 (fun k j hk => hk.elim) (fun a0_ a1_ a2_ h9 => ih a0_ a1_ a2_ h9) h_q8)
        · refine post_ite (fun c_5 => ?_) (fun c_5 => ?_)
          · refine post_let (fun M15 e_M15 => ?_)
            have h_M15 : Fr W M0 M15 := by rw [e_M15]; exact Fr.setI h_q8 (hW _ _ (Or.inl ⟨rfl, (Or.inr (Or.inr (Or.inr (Or.inr (Or.inr rfl)))))⟩))
            exact (fr_MO_longest_L63 (fun k j hk => hk.elim) (fun a0_ a1_ a2_ h9 => ih a0_ a1_ a2_ h9) h_M15)
          · exact (fr_MO_longest_L63 (fun k j hk => hk.elim) (fun a0_ a1_ a2_ h9 => ih a0_ a1_ a2_ h9) h_q8)
      · exact (fr_MO_longest_L63 (fun k j hk => hk.elim) (fun a0_ a1_ a2_ h9 => ih a0_ a1_ a2_ h9) h)
def W_MO_longest : Nat → Int → Prop := fun k j => (k = 191 ∧ (j = 46 ∨ j = 47 ∨ j = 48 ∨ j = 49 ∨ j = 50 ∨ j = 57)) ∨ k = 219
theorem fr_MO_longest {x1 : Int} {W : Nat → Int → Prop} {M0 : Mem} (hW : ∀ k j, (W_MO_longest) k j → W k j)  {M : Mem} (h : Fr W M0 M) : Post (fun r => Fr W M0 r.1) (t_MO_longest M x1) := by
  unfold t_MO_longest
  refine post_let (fun M1 e_M1 => ?_)
  have h_M1 : Fr W M0 M1 := by rw [e_M1]; exact Fr.setI h (hW _ _ (Or.inl ⟨rfl, (Or.inr (Or.inr (Or.inr (Or.inr (Or.inr rfl)))))⟩))
  exact (fr_MO_longest_L9 (fun k j hk => hW k j (Or.elim hk (fun h => (Or.inl ⟨(h).1, (Or.elim (h).2 (fun h => (Or.inl h)) (fun h => (Or.elim h (fun h => (Or.inr (Or.inl h))) (fun h => (Or.elim h (fun h => (Or.inr (Or.inr (Or.inl h)))) (fun h => (Or.elim h (fun h => (Or.inr (Or.inr (Or.inr (Or.inl h))))) (fun h => (Or.elim h (fun h => (Or.inr (Or.inr (Or.inr (Or.inr (Or.inl h)))))) (fun h => (Or.inr (Or.inr (Or.inr (Or.inr (Or.inr h)))))))))))))))⟩)) (fun h => (Or.inr h))))  _ _ _ _ h_M1)
def W_MO_clock_L120 : Nat → Int → Prop := fun k j => False
theorem fr_MO_clock_L120 {x1 : Int} {bk36 : Mem → Int → Int → Int → Int → Int → Option (Mem × Int)} {bk50 : Mem → Int → Int → Int → Int → Int → Int → Option (Mem × Int)} {v2_ : Int} {v3_ : Int} {v4_ : Int} {v5_ : Int} {v6_ : Int} {v7_ : Int} {W : Nat → Int → Prop} {M0 : Mem} (hW : ∀ k j, (W_MO_clock_L120) k j → W k j) (hbk36 : ∀ (a0_ : Mem) (a1_ : Int) (a2_ : Int) (a3_ : Int) (a4_ : Int) (a5_ : Int), Fr W M0 a0_ → Post (fun r => Fr W M0 r.1) (bk36 a0_ a1_ a2_ a3_ a4_ a5_)) (hbk50 : ∀ (a0_ : Mem) (a1_ : Int) (a2_ : Int) (a3_ : Int) (a4_ : Int) (a5_ : Int) (a6_ : Int), Fr W M0 a0_ → Post (fun r => Fr W M0 r.1) (bk50 a0_ a1_ a2_ a3_ a4_ a5_ a6_)) {M : Mem} (h : Fr W M0 M) : Post (fun r => Fr W M0 r.1) (t_MO_clock_L120 x1 bk36 bk50 M v2_ v3_ v4_ v5_ v6_ v7_) := by
  unfold t_MO_clock_L120
  exact hbk50 _ _ _ _ _ _ _ h
def W_MO_clock_L50 : Nat → Int → Prop := fun k j => (k = 191 ∧ (j = 46 ∨ j = 47 ∨ j = 48 ∨ j = 49 ∨ j = 50 ∨ j = 57)) ∨ k = 207 ∨ k = 208 ∨ k = 209 ∨ k = 210 ∨ k = 211 ∨ k = 212 ∨ k = 213 ∨ k = 214 ∨ k = 215 ∨ k = 219
theorem fr_MO_clock_L50 {x1 : Int} {bk36 : Mem → Int → Int → Int → Int → Int → Option (Mem × Int)} {W : Nat → Int → Prop} {M0 : Mem} (hW : ∀ k j, (W_MO_clock_L50) k j → W k j) (hbk36 : ∀ (a0_ : Mem) (a1_ : Int) (a2_ : Int) (a3_ : Int) (a4_ : Int) (a5_ : Int), Fr W M0 a0_ → Post (fun r => Fr W M0 r.1) (bk36 a0_ a1_ a2_ a3_ a4_ a5_)) : ∀ (fu : Nat) (M : Mem) (v2_ : Int) (v3_ : Int) (v4_ : Int) (v5_ : Int) (v6_ : Int) (v7_ : Int), Fr W M0 M → Post (fun r => Fr W M0 r.1) (t_MO_clock_L50 x1 bk36 fu M v2_ v3_ v4_ v5_ v6_ v7_) := by
  intro fu
  induction fu with
  | zero => intro M v2_ v3_ v4_ v5_ v6_ v7_ h; exact post_none
  | succ fu ih =>
    intro M v2_ v3_ v4_ v5_ v6_ v7_ h
    rw [t_MO_clock_L50]
    refine post_ite (fun c_1 => ?_) (fun c_1 => ?_)
    · exact hbk36 _ _ _ _ _ _ h
    · refine post_guard (fun c_2 => ?_)
      refine post_ite (fun c_3 => ?_) (fun c_3 => ?_)
      · exact (fr_MO_clock_L120 (fun k j hk => hk.elim) hbk36 (fun a0_ a1_ a2_ a3_ a4_ a5_ a6_ h9 => ih a0_ a1_ a2_ a3_ a4_ a5_ a6_ h9) h)
      · refine post_bind (Q := fun r => Fr W M0 r) (fr_MO_copies (fun k j hk => hW k j (Or.elim hk (fun h => (Or.inr (Or.inl h))) (fun h => (Or.elim h (fun h => (Or.inr (Or.inr (Or.inl h)))) (fun h => (Or.elim h (fun h => (Or.inr (Or.inr (Or.inr (Or.inl h))))) (fun h => (Or.elim h (fun h => (Or.inr (Or.inr (Or.inr (Or.inr (Or.inl h)))))) (fun h => (Or.elim h (fun h => (Or.inr (Or.inr (Or.inr (Or.inr (Or.inr (Or.inl h))))))) (fun h => (Or.elim h (fun h => (Or.inr (Or.inr (Or.inr (Or.inr (Or.inr (Or.inr (Or.inl h)))))))) (fun h => (Or.elim h (fun h => (Or.inr (Or.inr (Or.inr (Or.inr (Or.inr (Or.inr (Or.inr (Or.inl h))))))))) (fun h => (Or.elim h (fun h => (Or.inr (Or.inr (Or.inr (Or.inr (Or.inr (Or.inr (Or.inr (Or.inr (Or.inl h)))))))))) (fun h => (Or.inr (Or.inr (Or.inr (Or.inr (Or.inr (Or.inr (Or.inr (Or.inr (Or.inr (Or.inl h)))))))))))))))))))))))))))  h) (fun q16 h_q16 => ?_)
        refine post_guard (fun c_4 => ?_)
        refine post_let (fun M19 e_M19 => ?_)
        have h_M19 : Fr W M0 M19 := by rw [e_M19]; exact Fr.setI h_q16 (hW _ _ (Or.inr (Or.inr (Or.inr (Or.inr (Or.inr (Or.inr (Or.inl rfl))))))))
        refine post_bind (Q := fun r => Fr W M0 r.1) (fr_MO_longest (fun k j hk => hW k j (Or.elim hk (fun h => (Or.inl ⟨(h).1, (Or.elim (h).2 (fun h => (Or.inl h)) (fun h => (Or.elim h (fun h => (Or.inr (Or.inl h))) (fun h => (Or.elim h (fun h => (Or.inr (Or.inr (Or.inl h)))) (fun h => (Or.elim h (fun h => (Or.inr (Or.inr (Or.inr (Or.inl h))))) (fun h => (Or.elim h (fun h => (Or.inr (Or.inr (Or.inr (Or.inr (Or.inl h)))))) (fun h => (Or.inr (Or.inr (Or.inr (Or.inr (Or.inr h)))))))))))))))⟩)) (fun h => (Or.inr (Or.inr (Or.inr (Or.inr (Or.inr (Or.inr (Or.inr (Or.inr (Or.inr (Or.inr h)))))))))))))  h_M19) (fun q20 h_q20 => ?_)
        refine post_ite (fun c_5 => ?_) (fun c_5 => ?_)
        · exact (fr_MO_clock_L120 (fun k j hk => hk.elim) hbk36 (fun a0_ a1_ a2_ a3_ a4_ a5_ a6_ h9 => ih a0_ a1_ a2_ a3_ a4_ a5_ a6_ h9) h_q20)
        · exact (fr_MO_clock_L120 (fun k j hk => hk.elim) hbk36 (fun a0_ a1_ a2_ a3_ a4_ a5_ a6_ h9 => ih a0_ a1_ a2_ a3_ a4_ a5_ a6_ h9) h_q20)
def W_MO_clock_L36 : Nat → Int → Prop := fun k j => (k = 191 ∧ (j = 46 ∨ j = 47 ∨ j = 48 ∨ j = 49 ∨ j = 50 ∨ j = 57)) ∨ k = 207 ∨ k = 208 ∨ k = 209 ∨ k = 210 ∨ k = 211 ∨ k = 212 ∨ k = 213 ∨ k = 214 ∨ k = 215 ∨ k = 219
theorem fr_MO_clock_L36 {x1 : Int} {W : Nat → Int → Prop} {M0 : Mem} (hW : ∀ k j, (W_MO_clock_L36) k j → W k j)  : ∀ (fu : Nat) (M : Mem) (v2_ : Int) (v3_ : Int) (v4_ : Int) (v5_ : Int) (v6_ : Int), Fr W M0 M → Post (fun r => Fr W M0 r.1) (t_MO_clock_L36 x1 fu M v2_ v3_ v4_ v5_ v6_) := by
  intro fu
  induction fu with
  | zero => intro M v2_ v3_ v4_ v5_ v6_ h; exact post_none
  | succ fu ih =>
    intro M v2_ v3_ v4_ v5_ v6_ h
    rw [t_MO_clock_L36]
    refine post_ite (fun c_1 => ?_) (fun c_1 => ?_)
    · refine post_ite (fun c_2 => ?_) (fun c_2 => ?_)
      · exact post_some h
      · refine post_ite (fun c_3 => ?_) (fun c_3 => ?_)
        · exact post_some h
        · refine post_ite (fun c_4 => ?_) (fun c_4 => ?_)
          · exact post_some h
          · exact post_some h
    · exact (fr_MO_clock_L50 (fun k j hk => hW k j (Or.elim hk (fun h => (Or.inl ⟨(h).1, (Or.elim (h).2 (fun h => (Or.inl h)) (fun h => (Or.elim h (fun h => (Or.inr (Or.inl h))) (fun h => (Or.elim h (fun h => (Or.inr (Or.inr (Or.inl h)))) (fun h => (Or.elim h (fun h => (Or.inr (Or.inr (Or.inr (Or.inl h))))) (fun h => (Or.elim h (fun h => (Or.inr (Or.inr (Or.inr (Or.inr (Or.inl h)))))) (fun h => (Or.inr (Or.inr (Or.inr (Or.inr (Or.inr h)))))))))))))))⟩)) (fun h => (Or.elim h (fun h => (Or.inr (Or.inl h))) (fun h => (Or.elim h (fun h => (Or.inr (Or.inr (Or.inl h)))) (fun h => (Or.elim h (fun h => (Or.inr (Or.inr (Or.inr (Or.inl h))))) (fun h => (Or.elim h (fun h => (Or.inr (Or.inr (Or.inr (Or.inr (Or.inl h)))))) (fun h => (Or.elim h (fun h => (Or.inr (Or.inr (Or.inr (Or.inr (Or.inr (Or.inl h))))))) (fun h => (Or.elim h (fun h => (Or.inr (Or.inr (Or.inr (Or.inr (Or.inr (Or.inr (Or.inl h)))))))) (fun h => (Or.elim h (fun h => (Or.inr (Or.inr (Or.inr (Or.inr (Or.inr (Or.inr (Or.inr (Or.inl h))))))))) (fun h => (Or.elim h (fun h => (Or.inr (Or.inr (Or.inr (Or.inr (Or.inr (Or.inr (Or.inr (Or.inr (Or.inl h)))))))))) (fun h => (Or.elim h (fun h => (Or.inr (Or.inr (Or.inr (Or.inr (Or.inr (Or.inr (Or.inr (Or.inr (Or.inr (Or.inl h))))))))))) (fun h => (Or.inr (Or.inr (Or.inr (Or.inr (Or.inr (Or.inr (Or.inr (Or.inr (Or.inr (Or.inr h))))))))))))))))))))))))))))))) (fun a0_ a1_ a2_ a3_ a4_ a5_ h9 => ih a0_ a1_ a2_ a3_ a4_ a5_ h9) _ _ _ _ _ _ _ _ h)
def W_MO_clock : Nat → Int → Prop := fun k j => (k = 191 ∧ (j = 0 ∨ j = 46 ∨ j = 47 ∨ j = 48 ∨ j = 49 ∨ j = 50 ∨ j = 57)) ∨ k = 207 ∨ k = 208 ∨ k = 209 ∨ k = 210 ∨ k = 211 ∨ k = 212 ∨ k = 213 ∨ k = 214 ∨ k = 215 ∨ k = 219
theorem fr_MO_clock {x1 : Int} {W : Nat → Int → Prop} {M0 : Mem} (hW : ∀ k j, (W_MO_clock) k j → W k j)  {M : Mem} (h : Fr W M0 M) : Post (fun r => Fr W M0 r.1) (t_MO_clock M x1) := by
  unfold t_MO_clock
  refine post_let (fun M1 e_M1 => ?_)
  have h_M1 : Fr W M0 M1 := by rw [e_M1]; exact Fr.setI h (hW _ _ (Or.inl ⟨rfl, (Or.inl rfl)⟩))
  refine post_ite (fun c_1 => ?_) (fun c_1 => ?_)
  · exact post_some h_M1
  · refine post_ite (fun c_2 => ?_) (fun c_2 => ?_)
    · refine post_bind (Q := fun r => Fr W M0 r.1) (fr_MO_longest (fun k j hk => hW k j (Or.elim hk (fun h => (Or.inl ⟨(h).1, (Or.elim (h).2 (fun h => (Or.inr (Or.inl h))) (fun h => (Or.elim h (fun h => (Or.inr (Or.inr (Or.inl h)))) (fun h => (Or.elim h (fun h => (Or.inr (Or.inr (Or.inr (Or.inl h))))) (fun h => (Or.elim h (fun h => (Or.inr (Or.inr (Or.inr (Or.inr (Or.inl h)))))) (fun h => (Or.elim h (fun h => (Or.inr (Or.inr (Or.inr (Or.inr (Or.inr (Or.inl h))))))) (fun h => (Or.inr (Or.inr (Or.inr (Or.inr (Or.inr (Or.inr h))))))))))))))))⟩)) (fun h => (Or.inr (Or.inr (Or.inr (Or.inr (Or.inr (Or.inr (Or.inr (Or.inr (Or.inr (Or.inr h)))))))))))))  h_M1) (fun q4 h_q4 => ?_)
      exact (fr_MO_clock_L36 (fun k j hk => hW k j (Or.elim hk (fun h => (Or.inl ⟨(h).1, (Or.elim (h).2 (fun h => (Or.inr (Or.inl h))) (fun h => (Or.elim h (fun h => (Or.inr (Or.inr (Or.inl h)))) (fun h => (Or.elim h (fun h => (Or.inr (Or.inr (Or.inr (Or.inl h))))) (fun h => (Or.elim h (fun h => (Or.inr (Or.inr (Or.inr (Or.inr (Or.inl h)))))) (fun h => (Or.elim h (fun h => (Or.inr (Or.inr (Or.inr (Or.inr (Or.inr (Or.inl h))))))) (fun h => (Or.inr (Or.inr (Or.inr (Or.inr (Or.inr (Or.inr h))))))))))))))))⟩)) (fun h => (Or.elim h (fun h => (Or.inr (Or.inl h))) (fun h => (Or.elim h (fun h => (Or.inr (Or.inr (Or.inl h)))) (fun h => (Or.elim h (fun h => (Or.inr (Or.inr (Or.inr (Or.inl h))))) (fun h => (Or.elim h (fun h => (Or.inr (Or.inr (Or.inr (Or.inr (Or.inl h)))))) (fun h => (Or.elim h (fun h => (Or.inr (Or.inr (Or.inr (Or.inr (Or.inr (Or.inl h))))))) (fun h => (Or.elim h (fun h => (Or.inr (Or.inr (Or.inr (Or.inr (Or.inr (Or.inr (Or.inl h)))))))) (fun h => (Or.elim h (fun h => (Or.inr (Or.inr (Or.inr (Or.inr (Or.inr (Or.inr (Or.inr (Or.inl h))))))))) (fun h => (Or.elim h (fun h => (Or.inr (Or.inr (Or.inr (Or.inr (Or.inr (Or.inr (Or.inr (Or.inr (Or.inl h)))))))))) (fun h => (Or.elim h (fun h => (Or.inr (Or.inr (Or.inr (Or.inr (Or.inr (Or.inr (Or.inr (Or.inr (Or.inr (Or.inl h))))))))))) (fun h => (Or.inr (Or.inr (Or.inr (Or.inr (Or.inr (Or.inr (Or.inr (Or.inr (Or.inr (Or.inr h)))))))))))))))))))))))))))))))  _ _ _ _ _ _ _ h_q4)
    · exact post_some h_M1
def W_MO_layJoys_L51 : Nat → Int → Prop := fun k j => (k = 191 ∧ (j = 46 ∨ j = 47 ∨ j = 48 ∨ j = 49 ∨ j = 50 ∨ j = 54)) ∨ k = 219 ∨ (k = 220 ∧ (j = 0 ∨ j = 1 ∨ j = 2 ∨ j = 3 ∨ j = 4 ∨ j = 5 ∨ j = 6)) ∨ k = 221 ∨ k = 224
theorem fr_MO_layJoys_L51 {bk8 : Mem → Int → Option (Mem)} {W : Nat → Int → Prop} {M0 : Mem} (hW : ∀ k j, (W_MO_layJoys_L51) k j → W k j) (hbk8 : ∀ (a0_ : Mem) (a1_ : Int), Fr W M0 a0_ → Post (fun r => Fr W M0 r) (bk8 a0_ a1_)) : ∀ (fu : Nat) (M : Mem) (v1_ : Int) (v2_ : Int), Fr W M0 M → Post (fun r => Fr W M0 r) (t_MO_layJoys_L51 bk8 fu M v1_ v2_) := by
  intro fu
  induction fu with
  | zero => intro M v1_ v2_ h; exact post_none
  | succ fu ih =>
    intro M v1_ v2_ h
    rw [t_MO_layJoys_L51]
    refine post_ite (fun c_1 => ?_) (fun c_1 => ?_)
    · exact hbk8 _ _ h
    · refine post_bind (Q := fun r => Fr W M0 r.1) (fr_MO_joyOf (fun k j hk => hW k j (Or.elim hk (fun h => (Or.inl ⟨(h).1, (Or.elim (h).2 (fun h => (Or.inl h)) (fun h => (Or.elim h (fun h => (Or.inr (Or.inl h))) (fun h => (Or.elim h (fun h => (Or.inr (Or.inr (Or.inl h)))) (fun h => (Or.elim h (fun h => (Or.inr (Or.inr (Or.inr (Or.inl h))))) (fun h => (Or.elim h (fun h => (Or.inr (Or.inr (Or.inr (Or.inr (Or.inl h)))))) (fun h => (Or.inr (Or.inr (Or.inr (Or.inr (Or.inr h)))))))))))))))⟩)) (fun h => (Or.elim h (fun h => (Or.inr (Or.inl h))) (fun h => (Or.elim h (fun h => (Or.inr (Or.inr (Or.inl ⟨(h).1, (Or.elim (h).2 (fun h => (Or.inl h)) (fun h => (Or.elim h (fun h => (Or.inr (Or.inl h))) (fun h => (Or.elim h (fun h => (Or.inr (Or.inr (Or.inl h)))) (fun h => (Or.elim h (fun h => (Or.inr (Or.inr (Or.inr (Or.inl h))))) (fun h => (Or.elim h (fun h => (Or.inr (Or.inr (Or.inr (Or.inr (Or.inl h)))))) (fun h => (Or.elim h (fun h => (Or.inr (Or.inr (Or.inr (Or.inr (Or.inr (Or.inl h))))))) (fun h => (Or.inr (Or.inr (Or.inr (Or.inr (Or.inr (Or.inr h))))))))))))))))))⟩)))) (fun h => (Or.inr (Or.inr (Or.inr (Or.inl h)))))))))))  h) (fun q12 h_q12 => ?_)
      refine post_guard (fun c_2 => ?_)
      refine post_let (fun M15 e_M15 => ?_)
      have h_M15 : Fr W M0 M15 := by rw [e_M15]; exact Fr.setI h_q12 (hW _ _ (Or.inr (Or.inr (Or.inr (Or.inr rfl)))))
      exact (ih _ _ _ h_M15)
def W_MO_layJoys_L18 : Nat → Int → Prop := fun k j => (k = 191 ∧ (j = 46 ∨ j = 47 ∨ j = 48 ∨ j = 49 ∨ j = 50 ∨ j = 54)) ∨ k = 212 ∨ k = 219 ∨ (k = 220 ∧ (j = 0 ∨ j = 1 ∨ j = 2 ∨ j = 3 ∨ j = 4 ∨ j = 5 ∨ j = 6)) ∨ k = 221 ∨ k = 224
theorem fr_MO_layJoys_L18 {bk8 : Mem → Int → Option (Mem)} {W : Nat → Int → Prop} {M0 : Mem} (hW : ∀ k j, (W_MO_layJoys_L18) k j → W k j) (hbk8 : ∀ (a0_ : Mem) (a1_ : Int), Fr W M0 a0_ → Post (fun r => Fr W M0 r) (bk8 a0_ a1_)) : ∀ (fu : Nat) (M : Mem) (v1_ : Int) (v2_ : Int), Fr W M0 M → Post (fun r => Fr W M0 r) (t_MO_layJoys_L18 bk8 fu M v1_ v2_) := by
  intro fu
  induction fu with
  | zero => intro M v1_ v2_ h; exact post_none
  | succ fu ih =>
    intro M v1_ v2_ h
    rw [t_MO_layJoys_L18]
    refine post_ite (fun c_1 => ?_) (fun c_1 => ?_)
    · exact (fr_MO_layJoys_L51 (fun k j hk => hW k j (Or.elim hk (fun h => (Or.inl ⟨(h).1, (Or.elim (h).2 (fun h => (Or.inl h)) (fun h => (Or.elim h (fun h => (Or.inr (Or.inl h))) (fun h => (Or.elim h (fun h => (Or.inr (Or.inr (Or.inl h)))) (fun h => (Or.elim h (fun h => (Or.inr (Or.inr (Or.inr (Or.inl h))))) (fun h => (Or.elim h (fun h => (Or.inr (Or.inr (Or.inr (Or.inr (Or.inl h)))))) (fun h => (Or.inr (Or.inr (Or.inr (Or.inr (Or.inr h)))))))))))))))⟩)) (fun h => (Or.elim h (fun h => (Or.inr (Or.inr (Or.inl h)))) (fun h => (Or.elim h (fun h => (Or.inr (Or.inr (Or.inr (Or.inl ⟨(h).1, (Or.elim (h).2 (fun h => (Or.inl h)) (fun h => (Or.elim h (fun h => (Or.inr (Or.inl h))) (fun h => (Or.elim h (fun h => (Or.inr (Or.inr (Or.inl h)))) (fun h => (Or.elim h (fun h => (Or.inr (Or.inr (Or.inr (Or.inl h))))) (fun h => (Or.elim h (fun h => (Or.inr (Or.inr (Or.inr (Or.inr (Or.inl h)))))) (fun h => (Or.elim h (fun h => (Or.inr (Or.inr (Or.inr (Or.inr (Or.inr (Or.inl h))))))) (fun h => (Or.inr (Or.inr (Or.inr (Or.inr (Or.inr (Or.inr h))))))))))))))))))⟩))))) (fun h => (Or.elim h (fun h => (Or.inr (Or.inr (Or.inr (Or.inr (Or.inl h)))))) (fun h => (Or.inr (Or.inr (Or.inr (Or.inr (Or.inr h)))))))))))))) hbk8 _ _ _ _ h)
    · refine post_guard (fun c_2 => ?_)
      refine post_let (fun M9 e_M9 => ?_)
      have h_M9 : Fr W M0 M9 := by rw [e_M9]; exact Fr.setI h (hW _ _ (Or.inr (Or.inl rfl)))
      exact (ih _ _ _ h_M9)
def W_MO_layJoys_L8 : Nat → Int → Prop := fun k j => (k = 191 ∧ (j = 46 ∨ j = 47 ∨ j = 48 ∨ j = 49 ∨ j = 50 ∨ j = 54)) ∨ k = 212 ∨ k = 219 ∨ (k = 220 ∧ (j = 0 ∨ j = 1 ∨ j = 2 ∨ j = 3 ∨ j = 4 ∨ j = 5 ∨ j = 6)) ∨ k = 221 ∨ k = 224
theorem fr_MO_layJoys_L8  {W : Nat → Int → Prop} {M0 : Mem} (hW : ∀ k j, (W_MO_layJoys_L8) k j → W k j)  : ∀ (fu : Nat) (M : Mem) (v1_ : Int), Fr W M0 M → Post (fun r => Fr W M0 r) (t_MO_layJoys_L8  fu M v1_) := by
  intro fu
  induction fu with
  | zero => intro M v1_ h; exact post_none
  | succ fu ih =>
    intro M v1_ h
    rw [t_MO_layJoys_L8]
    refine post_let (fun q3 _ => ?_)
    refine post_ite (fun c_1 => ?_) (fun c_1 => ?_)
    · exact post_some h
    · exact (fr_MO_layJoys_L18 (fun k j hk => hW k j (Or.elim hk (fun h => (Or.inl ⟨(h).1, (Or.elim (h).2 (fun h => (Or.inl h)) (fun h => (Or.elim h (fun h => (Or.inr (Or.inl h))) (fun h => (Or.elim h (fun h => (Or.inr (Or.inr (Or.inl h)))) (fun h => (Or.elim h (fun h => (Or.inr (Or.inr (Or.inr (Or.inl h))))) (fun h => (Or.elim h (fun h => (Or.inr (Or.inr (Or.inr (Or.inr (Or.inl h)))))) (fun h => (Or.inr (Or.inr (Or.inr (Or.inr (Or.inr h)))))))))))))))⟩)) (fun h => (Or.elim h (fun h => (Or.inr (Or.inl h))) (fun h => (Or.elim h (fun h => (Or.inr (Or.inr (Or.inl h)))) (fun h => (Or.elim h (fun h => (Or.inr (Or.inr (Or.inr (Or.inl ⟨(h).1, (Or.elim (h).2 (fun h => (Or.inl h)) (fun h => (Or.elim h (fun h => (Or.inr (Or.inl h))) (fun h => (Or.elim h (fun h => (Or.inr (Or.inr (Or.inl h)))) (fun h => (Or.elim h (fun h => (Or.inr (Or.inr (Or.inr (Or.inl h))))) (fun h => (Or.elim h (fun h => (Or.inr (Or.inr (Or.inr (Or.inr (Or.inl h)))))) (fun h => (Or.elim h (fun h => (Or.inr (Or.inr (Or.inr (Or.inr (Or.inr (Or.inl h))))))) (fun h => (Or.inr (Or.inr (Or.inr (Or.inr (Or.inr (Or.inr h))))))))))))))))))⟩))))) (fun h => (Or.elim h (fun h => (Or.inr (Or.inr (Or.inr (Or.inr (Or.inl h)))))) (fun h => (Or.inr (Or.inr (Or.inr (Or.inr (Or.inr h)))))))))))))))) (fun a0_ a1_ h9 => ih a0_ a1_ h9) _ _ _ _ h)
def W_MO_layJoys : Nat → Int → Prop := fun k j => (k = 191 ∧ (j = 46 ∨ j = 47 ∨ j = 48 ∨ j = 49 ∨ j = 50 ∨ j = 54)) ∨ k = 207 ∨ k = 208 ∨ k = 209 ∨ k = 210 ∨ k = 211 ∨ k = 212 ∨ k = 213 ∨ k = 214 ∨ k = 215 ∨ k = 219 ∨ (k = 220 ∧ (j = 0 ∨ j = 1 ∨ j = 2 ∨ j = 3 ∨ j = 4 ∨ j = 5 ∨ j = 6)) ∨ k = 221 ∨ k = 224
theorem fr_MO_layJoys  {W : Nat → Int → Prop} {M0 : Mem} (hW : ∀ k j, (W_MO_layJoys) k j → W k j)  {M : Mem} (h : Fr W M0 M) : Post (fun r => Fr W M0 r) (t_MO_layJoys M) := by
  unfold t_MO_layJoys
  refine post_bind (Q := fun r => Fr W M0 r) (fr_MO_copies (fun k j hk => hW k j (Or.elim hk (fun h => (Or.inr (Or.inl h))) (fun h => (Or.elim h (fun h => (Or.inr (Or.inr (Or.inl h)))) (fun h => (Or.elim h (fun h => (Or.inr (Or.inr (Or.inr (Or.inl h))))) (fun h => (Or.elim h (fun h => (Or.inr (Or.inr (Or.inr (Or.inr (Or.inl h)))))) (fun h => (Or.elim h (fun h => (Or.inr (Or.inr (Or.inr (Or.inr (Or.inr (Or.inl h))))))) (fun h => (Or.elim h (fun h => (Or.inr (Or.inr (Or.inr (Or.inr (Or.inr (Or.inr (Or.inl h)))))))) (fun h => (Or.elim h (fun h => (Or.inr (Or.inr (Or.inr (Or.inr (Or.inr (Or.inr (Or.inr (Or.inl h))))))))) (fun h => (Or.elim h (fun h => (Or.inr (Or.inr (Or.inr (Or.inr (Or.inr (Or.inr (Or.inr (Or.inr (Or.inl h)))))))))) (fun h => (Or.inr (Or.inr (Or.inr (Or.inr (Or.inr (Or.inr (Or.inr (Or.inr (Or.inr (Or.inl h)))))))))))))))))))))))))))  h) (fun q1 h_q1 => ?_)
  exact (fr_MO_layJoys_L8 (fun k j hk => hW k j (Or.elim hk (fun h => (Or.inl ⟨(h).1, (Or.elim (h).2 (fun h => (Or.inl h)) (fun h => (Or.elim h (fun h => (Or.inr (Or.inl h))) (fun h => (Or.elim h (fun h => (Or.inr (Or.inr (Or.inl h)))) (fun h => (Or.elim h (fun h => (Or.inr (Or.inr (Or.inr (Or.inl h))))) (fun h => (Or.elim h (fun h => (Or.inr (Or.inr (Or.inr (Or.inr (Or.inl h)))))) (fun h => (Or.inr (Or.inr (Or.inr (Or.inr (Or.inr h)))))))))))))))⟩)) (fun h => (Or.elim h (fun h => (Or.inr (Or.inr (Or.inr (Or.inr (Or.inr (Or.inr (Or.inl h)))))))) (fun h => (Or.elim h (fun h => (Or.inr (Or.inr (Or.inr (Or.inr (Or.inr (Or.inr (Or.inr (Or.inr (Or.inr (Or.inr (Or.inl h)))))))))))) (fun h => (Or.elim h (fun h => (Or.inr (Or.inr (Or.inr (Or.inr (Or.inr (Or.inr (Or.inr (Or.inr (Or.inr (Or.inr (Or.inr (Or.inl ⟨(h).1, (Or.elim (h).2 (fun h => (Or.inl h)) (fun h => (Or.elim h (fun h => (Or.inr (Or.inl h))) (fun h => (Or.elim h (fun h => (Or.inr (Or.inr (Or.inl h)))) (fun h => (Or.elim h (fun h => (Or.inr (Or.inr (Or.inr (Or.inl h))))) (fun h => (Or.elim h (fun h => (Or.inr (Or.inr (Or.inr (Or.inr (Or.inl h)))))) (fun h => (Or.elim h (fun h => (Or.inr (Or.inr (Or.inr (Or.inr (Or.inr (Or.inl h))))))) (fun h => (Or.inr (Or.inr (Or.inr (Or.inr (Or.inr (Or.inr h))))))))))))))))))⟩))))))))))))) (fun h => (Or.elim h (fun h => (Or.inr (Or.inr (Or.inr (Or.inr (Or.inr (Or.inr (Or.inr (Or.inr (Or.inr (Or.inr (Or.inr (Or.inr (Or.inl h)))))))))))))) (fun h => (Or.inr (Or.inr (Or.inr (Or.inr (Or.inr (Or.inr (Or.inr (Or.inr (Or.inr (Or.inr (Or.inr (Or.inr (Or.inr h))))))))))))))))))))))))  _ _ _ h_q1)
def W_MO_stayOf_L37 : Nat → Int → Prop := fun k j => False
theorem fr_MO_stayOf_L37 {x1 : Int} {bk8 : Mem → Int → Int → Option (Mem × Int)} {v2_ : Int} {v3_ : Int} {W : Nat → Int → Prop} {M0 : Mem} (hW : ∀ k j, (W_MO_stayOf_L37) k j → W k j) (hbk8 : ∀ (a0_ : Mem) (a1_ : Int) (a2_ : Int), Fr W M0 a0_ → Post (fun r => Fr W M0 r.1) (bk8 a0_ a1_ a2_)) {M : Mem} (h : Fr W M0 M) : Post (fun r => Fr W M0 r.1) (t_MO_stayOf_L37 x1 bk8 M v2_ v3_) := by
  unfold t_MO_stayOf_L37
  exact hbk8 _ _ _ h
def W_MO_stayOf_L8 : Nat → Int → Prop := fun k j => False
theorem fr_MO_stayOf_L8 {x1 : Int} {W : Nat → Int → Prop} {M0 : Mem} (hW : ∀ k j, (W_MO_stayOf_L8) k j → W k j)  : ∀ (fu : Nat) (M : Mem) (v2_ : Int) (v3_ : Int), Fr W M0 M → Post (fun r => Fr W M0 r.1) (t_MO_stayOf_L8 x1 fu M v2_ v3_) := by
  intro fu
  induction fu with
  | zero => intro M v2_ v3_ h; exact post_none
  | succ fu ih =>
    intro M v2_ v3_ h
    rw [t_MO_stayOf_L8]
    refine post_let (fun q3 _ => ?_)
    refine post_ite (fun c_1 => ?_) (fun c_1 => ?_)
    · refine post_ite (fun c_2 => ?_) (fun c_2 => ?_)
      · exact post_some h
      · exact post_some h
    · refine post_bindv (fun q7 => ?_)
      refine post_ite (fun c_3 => ?_) (fun c_3 => ?_)
      · exact (fr_MO_stayOf_L37 (fun k j hk => hk.elim) (fun a0_ a1_ a2_ h9 => ih a0_ a1_ a2_ h9) h)
      · refine post_ite (fun c_4 => ?_) (fun c_4 => ?_)
        · exact post_some h
        · exact (fr_MO_stayOf_L37 (fun k j hk => hk.elim) (fun a0_ a1_ a2_ h9 => ih a0_ a1_ a2_ h9) h)
def W_MO_stayOf : Nat → Int → Prop := fun k j => (k = 191 ∧ (j = 46 ∨ j = 47 ∨ j = 48 ∨ j = 49 ∨ j = 50 ∨ j = 54)) ∨ k = 207 ∨ k = 208 ∨ k = 209 ∨ k = 210 ∨ k = 211 ∨ k = 212 ∨ k = 213 ∨ k = 214 ∨ k = 215 ∨ k = 219 ∨ (k = 220 ∧ (j = 0 ∨ j = 1 ∨ j = 2 ∨ j = 3 ∨ j = 4 ∨ j = 5 ∨ j = 6)) ∨ k = 221 ∨ k = 224
theorem fr_MO_stayOf {x1 : Int} {W : Nat → Int → Prop} {M0 : Mem} (hW : ∀ k j, (W_MO_stayOf) k j → W k j)  {M : Mem} (h : Fr W M0 M) : Post (fun r => Fr W M0 r.1) (t_MO_stayOf M x1) := by
  unfold t_MO_stayOf
  refine post_bind (Q := fun r => Fr W M0 r) (fr_MO_layJoys (fun k j hk => hW k j (Or.elim hk (fun h => (Or.inl ⟨(h).1, (Or.elim (h).2 (fun h => (Or.inl h)) (fun h => (Or.elim h (fun h => (Or.inr (Or.inl h))) (fun h => (Or.elim h (fun h => (Or.inr (Or.inr (Or.inl h)))) (fun h => (Or.elim h (fun h => (Or.inr (Or.inr (Or.inr (Or.inl h))))) (fun h => (Or.elim h (fun h => (Or.inr (Or.inr (Or.inr (Or.inr (Or.inl h)))))) (fun h => (Or.inr (Or.inr (Or.inr (Or.inr (Or.inr h)))))))))))))))⟩)) (fun h => (Or.elim h (fun h => (Or.inr (Or.inl h))) (fun h => (Or.elim h (fun h => (Or.inr (Or.inr (Or.inl h)))) (fun h => (Or.elim h (fun h => (Or.inr (Or.inr (Or.inr (Or.inl h))))) (fun h => (Or.elim h (fun h => (Or.inr (Or.inr (Or.inr (Or.inr (Or.inl h)))))) (fun h => (Or.elim h (fun h => (Or.inr (Or.inr (Or.inr (Or.inr (Or.inr (Or.inl h))))))) (fun h => (Or.elim h (fun h => (Or.inr (Or.inr (Or.inr (Or.inr (Or.inr (Or.inr (Or.inl h)))))))) (fun h => (Or.elim h (fun h => (Or.inr (Or.inr (Or.inr (Or.inr (Or.inr (Or.inr (Or.inr (Or.inl h))))))))) (fun h => (Or.elim h (fun h => (Or.inr (Or.inr (Or.inr (Or.inr (Or.inr (Or.inr (Or.inr (Or.inr (Or.inl h)))))))))) (fun h => (Or.elim h (fun h => (Or.inr (Or.inr (Or.inr (Or.inr (Or.inr (Or.inr (Or.inr (Or.inr (Or.inr (Or.inl h))))))))))) (fun h => (Or.elim h (fun h => (Or.inr (Or.inr (Or.inr (Or.inr (Or.inr (Or.inr (Or.inr (Or.inr (Or.inr (Or.inr (Or.inl h)))))))))))) (fun h => (Or.elim h (fun h => (Or.inr (Or.inr (Or.inr (Or.inr (Or.inr (Or.inr (Or.inr (Or.inr (Or.inr (Or.inr (Or.inr (Or.inl ⟨(h).1, (Or.elim (h).2 (fun h => (Or.inl h)) (fun h => (Or.elim h (fun h => (Or.inr (Or.inl h))) (fun h => (Or.elim h (fun h => (Or.inr (Or.inr (Or.inl h)))) (fun h => (Or.elim h (fun h => (Or.inr (Or.inr (Or.inr (Or.inl h))))) (fun h => (Or.elim h (fun h => (Or.inr (Or.inr (Or.inr (Or.inr (Or.inl h)))))) (fun h => (Or.elim h (fun h => (Or.inr (Or.inr (Or.inr (Or.inr (Or.inr (Or.inl h))))))) (fun h => (Or.inr (Or.inr (Or.inr (Or.inr (Or.inr (Or.inr h))))))))))))))))))⟩))))))))))))) (fun h => (Or.elim h (fun h => (Or.inr (Or.inr (Or.inr (Or.inr (Or.inr (Or.inr (Or.inr (Or.inr (Or.inr (Or.inr (Or.inr (Or.inr (Or.inl h)))))))))))))) (fun h => (Or.inr (Or.inr (Or.inr (Or.inr (Or.inr (Or.inr (Or.inr (Or.inr (Or.inr (Or.inr (Or.inr (Or.inr (Or.inr h))))))))))))))))))))))))))))))))))))))))  h) (fun q1 h_q1 => ?_)
  exact (fr_MO_stayOf_L8 (fun k j hk => hk.elim)  _ _ _ _ h_q1)
def W_MO_stays : Nat → Int → Prop := fun k j => (k = 191 ∧ (j = 0 ∨ j = 46 ∨ j = 47 ∨ j = 48 ∨ j = 49 ∨ j = 50 ∨ j = 54)) ∨ k = 207 ∨ k = 208 ∨ k = 209 ∨ k = 210 ∨ k = 211 ∨ k = 212 ∨ k = 213 ∨ k = 214 ∨ k = 215 ∨ k = 219 ∨ (k = 220 ∧ (j = 0 ∨ j = 1 ∨ j = 2 ∨ j = 3 ∨ j = 4 ∨ j = 5 ∨ j = 6)) ∨ k = 221 ∨ k = 224
theorem fr_MO_stays  {W : Nat → Int → Prop} {M0 : Mem} (hW : ∀ k j, (W_MO_stays) k j → W k j)  {M : Mem} (h : Fr W M0 M) : Post (fun r => Fr W M0 r.1) (t_MO_stays M) := by
  unfold t_MO_stays
  refine post_let (fun M1 e_M1 => ?_)
  have h_M1 : Fr W M0 M1 := by rw [e_M1]; exact Fr.setI h (hW _ _ (Or.inl ⟨rfl, (Or.inl rfl)⟩))
  refine post_bind (Q := fun r => Fr W M0 r.1) (fr_MO_stayOf (fun k j hk => hW k j (Or.elim hk (fun h => (Or.inl ⟨(h).1, (Or.elim (h).2 (fun h => (Or.inr (Or.inl h))) (fun h => (Or.elim h (fun h => (Or.inr (Or.inr (Or.inl h)))) (fun h => (Or.elim h (fun h => (Or.inr (Or.inr (Or.inr (Or.inl h))))) (fun h => (Or.elim h (fun h => (Or.inr (Or.inr (Or.inr (Or.inr (Or.inl h)))))) (fun h => (Or.elim h (fun h => (Or.inr (Or.inr (Or.inr (Or.inr (Or.inr (Or.inl h))))))) (fun h => (Or.inr (Or.inr (Or.inr (Or.inr (Or.inr (Or.inr h))))))))))))))))⟩)) (fun h => (Or.elim h (fun h => (Or.inr (Or.inl h))) (fun h => (Or.elim h (fun h => (Or.inr (Or.inr (Or.inl h)))) (fun h => (Or.elim h (fun h => (Or.inr (Or.inr (Or.inr (Or.inl h))))) (fun h => (Or.elim h (fun h => (Or.inr (Or.inr (Or.inr (Or.inr (Or.inl h)))))) (fun h => (Or.elim h (fun h => (Or.inr (Or.inr (Or.inr (Or.inr (Or.inr (Or.inl h))))))) (fun h => (Or.elim h (fun h => (Or.inr (Or.inr (Or.inr (Or.inr (Or.inr (Or.inr (Or.inl h)))))))) (fun h => (Or.elim h (fun h => (Or.inr (Or.inr (Or.inr (Or.inr (Or.inr (Or.inr (Or.inr (Or.inl h))))))))) (fun h => (Or.elim h (fun h => (Or.inr (Or.inr (Or.inr (Or.inr (Or.inr (Or.inr (Or.inr (Or.inr (Or.inl h)))))))))) (fun h => (Or.elim h (fun h => (Or.inr (Or.inr (Or.inr (Or.inr (Or.inr (Or.inr (Or.inr (Or.inr (Or.inr (Or.inl h))))))))))) (fun h => (Or.elim h (fun h => (Or.inr (Or.inr (Or.inr (Or.inr (Or.inr (Or.inr (Or.inr (Or.inr (Or.inr (Or.inr (Or.inl h)))))))))))) (fun h => (Or.elim h (fun h => (Or.inr (Or.inr (Or.inr (Or.inr (Or.inr (Or.inr (Or.inr (Or.inr (Or.inr (Or.inr (Or.inr (Or.inl ⟨(h).1, (Or.elim (h).2 (fun h => (Or.inl h)) (fun h => (Or.elim h (fun h => (Or.inr (Or.inl h))) (fun h => (Or.elim h (fun h => (Or.inr (Or.inr (Or.inl h)))) (fun h => (Or.elim h (fun h => (Or.inr (Or.inr (Or.inr (Or.inl h))))) (fun h => (Or.elim h (fun h => (Or.inr (Or.inr (Or.inr (Or.inr (Or.inl h)))))) (fun h => (Or.elim h (fun h => (Or.inr (Or.inr (Or.inr (Or.inr (Or.inr (Or.inl h))))))) (fun h => (Or.inr (Or.inr (Or.inr (Or.inr (Or.inr (Or.inr h))))))))))))))))))⟩))))))))))))) (fun h => (Or.elim h (fun h => (Or.inr (Or.inr (Or.inr (Or.inr (Or.inr (Or.inr (Or.inr (Or.inr (Or.inr (Or.inr (Or.inr (Or.inr (Or.inl h)))))))))))))) (fun h => (Or.inr (Or.inr (Or.inr (Or.inr (Or.inr (Or.inr (Or.inr (Or.inr (Or.inr (Or.inr (Or.inr (Or.inr (Or.inr h))))))))))))))))))))))))))))))))))))))))  h_M1) (fun q2 h_q2 => ?_)
  exact post_some h_q2
def W_MO_stay : Nat → Int → Prop := fun k j => (k = 191 ∧ (j = 0 ∨ j = 46 ∨ j = 47 ∨ j = 48 ∨ j = 49 ∨ j = 50 ∨ j = 54)) ∨ k = 207 ∨ k = 208 ∨ k = 209 ∨ k = 210 ∨ k = 211 ∨ k = 212 ∨ k = 213 ∨ k = 214 ∨ k = 215 ∨ k = 219 ∨ (k = 220 ∧ (j = 0 ∨ j = 1 ∨ j = 2 ∨ j = 3 ∨ j = 4 ∨ j = 5 ∨ j = 6)) ∨ k = 221 ∨ k = 224
theorem fr_MO_stay {x1 : Int} {W : Nat → Int → Prop} {M0 : Mem} (hW : ∀ k j, (W_MO_stay) k j → W k j)  {M : Mem} (h : Fr W M0 M) : Post (fun r => Fr W M0 r.1) (t_MO_stay M x1) := by
  unfold t_MO_stay
  refine post_let (fun M1 e_M1 => ?_)
  have h_M1 : Fr W M0 M1 := by rw [e_M1]; exact Fr.setI h (hW _ _ (Or.inl ⟨rfl, (Or.inl rfl)⟩))
  refine post_ite (fun c_1 => ?_) (fun c_1 => ?_)
  · refine post_bind (Q := fun r => Fr W M0 r.1) (fr_MO_stayOf (fun k j hk => hW k j (Or.elim hk (fun h => (Or.inl ⟨(h).1, (Or.elim (h).2 (fun h => (Or.inr (Or.inl h))) (fun h => (Or.elim h (fun h => (Or.inr (Or.inr (Or.inl h)))) (fun h => (Or.elim h (fun h => (Or.inr (Or.inr (Or.inr (Or.inl h))))) (fun h => (Or.elim h (fun h => (Or.inr (Or.inr (Or.inr (Or.inr (Or.inl h)))))) (fun h => (Or.elim h (fun h => (Or.inr (Or.inr (Or.inr (Or.inr (Or.inr (Or.inl h))))))) (fun h => (Or.inr (Or.inr (Or.inr (Or.inr (Or.inr (Or.inr h))))))))))))))))⟩)) (fun h => (Or.elim h (fun h => (Or.inr (Or.inl h))) (fun h => (Or.elim h (fun h => (Or.inr (Or.inr (Or.inl h)))) (fun h => (Or.elim h (fun h => (Or.inr (Or.inr (Or.inr (Or.inl h))))) (fun h => (Or.elim h (fun h => (Or.inr (Or.inr (Or.inr (Or.inr (Or.inl h)))))) (fun h => (Or.elim h (fun h => (Or.inr (Or.inr (Or.inr (Or.inr (Or.inr (Or.inl h))))))) (fun h => (Or.elim h (fun h => (Or.inr (Or.inr (Or.inr (Or.inr (Or.inr (Or.inr (Or.inl h)))))))) (fun h => (Or.elim h (fun h => (Or.inr (Or.inr (Or.inr (Or.inr (Or.inr (Or.inr (Or.inr (Or.inl h))))))))) (fun h => (Or.elim h (fun h => (Or.inr (Or.inr (Or.inr (Or.inr (Or.inr (Or.inr (Or.inr (Or.inr (Or.inl h)))))))))) (fun h => (Or.elim h (fun h => (Or.inr (Or.inr (Or.inr (Or.inr (Or.inr (Or.inr (Or.inr (Or.inr (Or.inr (Or.inl h))))))))))) (fun h => (Or.elim h (fun h => (Or.inr (Or.inr (Or.inr (Or.inr (Or.inr (Or.inr (Or.inr (Or.inr (Or.inr (Or.inr (Or.inl h)))))))))))) (fun h => (Or.elim h (fun h => (Or.inr (Or.inr (Or.inr (Or.inr (Or.inr (Or.inr (Or.inr (Or.inr (Or.inr (Or.inr (Or.inr (Or.inl ⟨(h).1, (Or.elim (h).2 (fun h => (Or.inl h)) (fun h => (Or.elim h (fun h => (Or.inr (Or.inl h))) (fun h => (Or.elim h (fun h => (Or.inr (Or.inr (Or.inl h)))) (fun h => (Or.elim h (fun h => (Or.inr (Or.inr (Or.inr (Or.inl h))))) (fun h => (Or.elim h (fun h => (Or.inr (Or.inr (Or.inr (Or.inr (Or.inl h)))))) (fun h => (Or.elim h (fun h => (Or.inr (Or.inr (Or.inr (Or.inr (Or.inr (Or.inl h))))))) (fun h => (Or.inr (Or.inr (Or.inr (Or.inr (Or.inr (Or.inr h))))))))))))))))))⟩))))))))))))) (fun h => (Or.elim h (fun h => (Or.inr (Or.inr (Or.inr (Or.inr (Or.inr (Or.inr (Or.inr (Or.inr (Or.inr (Or.inr (Or.inr (Or.inr (Or.inl h)))))))))))))) (fun h => (Or.inr (Or.inr (Or.inr (Or.inr (Or.inr (Or.inr (Or.inr (Or.inr (Or.inr (Or.inr (Or.inr (Or.inr (Or.inr h))))))))))))))))))))))))))))))))))))))))  h_M1) (fun q3 h_q3 => ?_)
    exact post_some h_q3
  · exact post_some h_M1
def W_MO_treaty_L120 : Nat → Int → Prop := fun k j => False
theorem fr_MO_treaty_L120 {x1 : Int} {bk57 : Mem → Int → Int → Int → Option (Mem × Int)} {bk80 : Mem → Int → Int → Int → Int → Int → Int → Option (Mem × Int)} {v2_ : Int} {v3_ : Int} {v4_ : Int} {v5_ : Int} {v6_ : Int} {v7_ : Int} {v8_ : Int} {W : Nat → Int → Prop} {M0 : Mem} (hW : ∀ k j, (W_MO_treaty_L120) k j → W k j) (hbk57 : ∀ (a0_ : Mem) (a1_ : Int) (a2_ : Int) (a3_ : Int), Fr W M0 a0_ → Post (fun r => Fr W M0 r.1) (bk57 a0_ a1_ a2_ a3_)) (hbk80 : ∀ (a0_ : Mem) (a1_ : Int) (a2_ : Int) (a3_ : Int) (a4_ : Int) (a5_ : Int) (a6_ : Int), Fr W M0 a0_ → Post (fun r => Fr W M0 r.1) (bk80 a0_ a1_ a2_ a3_ a4_ a5_ a6_)) {M : Mem} (h : Fr W M0 M) : Post (fun r => Fr W M0 r.1) (t_MO_treaty_L120 x1 bk57 bk80 M v2_ v3_ v4_ v5_ v6_ v7_ v8_) := by
  unfold t_MO_treaty_L120
  refine post_guard (fun c_1 => ?_)
  exact hbk80 _ _ _ _ _ _ _ h
def W_MO_treaty_L171 : Nat → Int → Prop := fun k j => False
theorem fr_MO_treaty_L171 {x1 : Int} {bk57 : Mem → Int → Int → Int → Option (Mem × Int)} {v2_ : Int} {v3_ : Int} {v4_ : Int} {W : Nat → Int → Prop} {M0 : Mem} (hW : ∀ k j, (W_MO_treaty_L171) k j → W k j) (hbk57 : ∀ (a0_ : Mem) (a1_ : Int) (a2_ : Int) (a3_ : Int), Fr W M0 a0_ → Post (fun r => Fr W M0 r.1) (bk57 a0_ a1_ a2_ a3_)) {M : Mem} (h : Fr W M0 M) : Post (fun r => Fr W M0 r.1) (t_MO_treaty_L171 x1 bk57 M v2_ v3_ v4_) := by
  unfold t_MO_treaty_L171
  exact hbk57 _ _ _ _ h
def W_MO_treaty_L165 : Nat → Int → Prop := fun k j => False
theorem fr_MO_treaty_L165 {x1 : Int} {bk57 : Mem → Int → Int → Int → Option (Mem × Int)} {v2_ : Int} {v3_ : Int} {W : Nat → Int → Prop} {M0 : Mem} (hW : ∀ k j, (W_MO_treaty_L165) k j → W k j) (hbk57 : ∀ (a0_ : Mem) (a1_ : Int) (a2_ : Int) (a3_ : Int), Fr W M0 a0_ → Post (fun r => Fr W M0 r.1) (bk57 a0_ a1_ a2_ a3_)) {M : Mem} (h : Fr W M0 M) : Post (fun r => Fr W M0 r.1) (t_MO_treaty_L165 x1 bk57 M v2_ v3_) := by
  unfold t_MO_treaty_L165
  exact (fr_MO_treaty_L171 (fun k j hk => hk.elim) hbk57 h)
def W_MO_treaty_L80 : Nat → Int → Prop := fun k j => False
theorem fr_MO_treaty_L80 {x1 : Int} {bk57 : Mem → Int → Int → Int → Option (Mem × Int)} {W : Nat → Int → Prop} {M0 : Mem} (hW : ∀ k j, (W_MO_treaty_L80) k j → W k j) (hbk57 : ∀ (a0_ : Mem) (a1_ : Int) (a2_ : Int) (a3_ : Int), Fr W M0 a0_ → Post (fun r => Fr W M0 r.1) (bk57 a0_ a1_ a2_ a3_)) : ∀ (fu : Nat) (M : Mem) (v2_ : Int) (v3_ : Int) (v4_ : Int) (v5_ : Int) (v6_ : Int) (v7_ : Int), Fr W M0 M → Post (fun r => Fr W M0 r.1) (t_MO_treaty_L80 x1 bk57 fu M v2_ v3_ v4_ v5_ v6_ v7_) := by
  intro fu
  induction fu with
  | zero => intro M v2_ v3_ v4_ v5_ v6_ v7_ h; exact post_none
  | succ fu ih =>
    intro M v2_ v3_ v4_ v5_ v6_ v7_ h
    rw [t_MO_treaty_L80]
    refine post_ite (fun c_1 => ?_) (fun c_1 => ?_)
    · refine post_ite (fun c_2 => ?_) (fun c_2 => ?_)
      · exact (fr_MO_treaty_L171 (fun k j hk => hk.elim) hbk57 h)
      · refine post_ite (fun c_3 => ?_) (fun c_3 => ?_)
        · exact (fr_MO_treaty_L165 (fun k j hk => hk.elim) hbk57 h)
        · refine post_ite (fun c_4 => ?_) (fun c_4 => ?_)
          · exact (fr_MO_treaty_L165 (fun k j hk => hk.elim) hbk57 h)
          · exact (fr_MO_treaty_L171 (fun k j hk => hk.elim) hbk57 h)
    · refine post_guard (fun c_5 => ?_)
      refine post_guard (fun c_6 => ?_)
      refine post_ite (fun c_7 => ?_) (fun c_7 => ?_)
      · exact (fr_MO_treaty_L120 (fun k j hk => hk.elim) hbk57 (fun a0_ a1_ a2_ a3_ a4_ a5_ a6_ h9 => ih a0_ a1_ a2_ a3_ a4_ a5_ a6_ h9) h)
      · exact (fr_MO_treaty_L120 (fun k j hk => hk.elim) hbk57 (fun a0_ a1_ a2_ a3_ a4_ a5_ a6_ h9 => ih a0_ a1_ a2_ a3_ a4_ a5_ a6_ h9) h)
def W_MO_treaty_L57 : Nat → Int → Prop := fun k j => False
theorem fr_MO_treaty_L57 {x1 : Int} {W : Nat → Int → Prop} {M0 : Mem} (hW : ∀ k j, (W_MO_treaty_L57) k j → W k j)  : ∀ (fu : Nat) (M : Mem) (v2_ : Int) (v3_ : Int) (v4_ : Int), Fr W M0 M → Post (fun r => Fr W M0 r.1) (t_MO_treaty_L57 x1 fu M v2_ v3_ v4_) := by
  intro fu
  induction fu with
  | zero => intro M v2_ v3_ v4_ h; exact post_none
  | succ fu ih =>
    intro M v2_ v3_ v4_ h
    rw [t_MO_treaty_L57]
    refine post_let (fun q12 _ => ?_)
    refine post_ite (fun c_1 => ?_) (fun c_1 => ?_)
    · refine post_ite (fun c_2 => ?_) (fun c_2 => ?_)
      · exact post_some h
      · refine post_ite (fun c_3 => ?_) (fun c_3 => ?_)
        · exact post_some h
        · exact post_some h
    · refine post_bindv (fun q17 => ?_)
      exact (fr_MO_treaty_L80 (fun k j hk => hk.elim) (fun a0_ a1_ a2_ a3_ h9 => ih a0_ a1_ a2_ a3_ h9) _ _ _ _ _ _ _ _ h)
def W_MO_treaty_L18 : Nat → Int → Prop := fun k j => (k = 191 ∧ (j = 46 ∨ j = 47 ∨ j = 48 ∨ j = 49 ∨ j = 50 ∨ j = 54)) ∨ k = 207 ∨ k = 208 ∨ k = 209 ∨ k = 210 ∨ k = 211 ∨ k = 212 ∨ k = 213 ∨ k = 214 ∨ k = 215 ∨ k = 219 ∨ (k = 220 ∧ (j = 0 ∨ j = 1 ∨ j = 2 ∨ j = 3 ∨ j = 4 ∨ j = 5 ∨ j = 6)) ∨ k = 221 ∨ k = 224 ∨ k = 225
theorem fr_MO_treaty_L18 {x1 : Int} {W : Nat → Int → Prop} {M0 : Mem} (hW : ∀ k j, (W_MO_treaty_L18) k j → W k j)  : ∀ (fu : Nat) (M : Mem) (v2_ : Int), Fr W M0 M → Post (fun r => Fr W M0 r.1) (t_MO_treaty_L18 x1 fu M v2_) := by
  intro fu
  induction fu with
  | zero => intro M v2_ h; exact post_none
  | succ fu ih =>
    intro M v2_ h
    rw [t_MO_treaty_L18]
    refine post_ite (fun c_1 => ?_) (fun c_1 => ?_)
    · refine post_bind (Q := fun r => Fr W M0 r) (fr_MO_layJoys (fun k j hk => hW k j (Or.elim hk (fun h => (Or.inl ⟨(h).1, (Or.elim (h).2 (fun h => (Or.inl h)) (fun h => (Or.elim h (fun h => (Or.inr (Or.inl h))) (fun h => (Or.elim h (fun h => (Or.inr (Or.inr (Or.inl h)))) (fun h => (Or.elim h (fun h => (Or.inr (Or.inr (Or.inr (Or.inl h))))) (fun h => (Or.elim h (fun h => (Or.inr (Or.inr (Or.inr (Or.inr (Or.inl h)))))) (fun h => (Or.inr (Or.inr (Or.inr (Or.inr (Or.inr h)))))))))))))))⟩)) (fun h => (Or.elim h (fun h => (Or.inr (Or.inl h))) (fun h => (Or.elim h (fun h => (Or.inr (Or.inr (Or.inl h)))) (fun h => (Or.elim h (fun h => (Or.inr (Or.inr (Or.inr (Or.inl h))))) (fun h => (Or.elim h (fun h => (Or.inr (Or.inr (Or.inr (Or.inr (Or.inl h)))))) (fun h => (Or.elim h (fun h => (Or.inr (Or.inr (Or.inr (Or.inr (Or.inr (Or.inl h))))))) (fun h => (Or.elim h (fun h => (Or.inr (Or.inr (Or.inr (Or.inr (Or.inr (Or.inr (Or.inl h)))))))) (fun h => (Or.elim h (fun h => (Or.inr (Or.inr (Or.inr (Or.inr (Or.inr (Or.inr (Or.inr (Or.inl h))))))))) (fun h => (Or.elim h (fun h => (Or.inr (Or.inr (Or.inr (Or.inr (Or.inr (Or.inr (Or.inr (Or.inr (Or.inl h)))))))))) (fun h => (Or.elim h (fun h => (Or.inr (Or.inr (Or.inr (Or.inr (Or.inr (Or.inr (Or.inr (Or.inr (Or.inr (Or.inl h))))))))))) (fun h => (Or.elim h (fun h => (Or.inr (Or.inr (Or.inr (Or.inr (Or.inr (Or.inr (Or.inr (Or.inr (Or.inr (Or.inr (Or.inl h)))))))))))) (fun h => (Or.elim h (fun h => (Or.inr (Or.inr (Or.inr (Or.inr (Or.inr (Or.inr (Or.inr (Or.inr (Or.inr (Or.inr (Or.inr (Or.inl ⟨(h).1, (Or.elim (h).2 (fun h => (Or.inl h)) (fun h => (Or.elim h (fun h => (Or.inr (Or.inl h))) (fun h => (Or.elim h (fun h => (Or.inr (Or.inr (Or.inl h)))) (fun h => (Or.elim h (fun h => (Or.inr (Or.inr (Or.inr (Or.inl h))))) (fun h => (Or.elim h (fun h => (Or.inr (Or.inr (Or.inr (Or.inr (Or.inl h)))))) (fun h => (Or.elim h (fun h => (Or.inr (Or.inr (Or.inr (Or.inr (Or.inr (Or.inl h))))))) (fun h => (Or.inr (Or.inr (Or.inr (Or.inr (Or.inr (Or.inr h))))))))))))))))))⟩))))))))))))) (fun h => (Or.elim h (fun h => (Or.inr (Or.inr (Or.inr (Or.inr (Or.inr (Or.inr (Or.inr (Or.inr (Or.inr (Or.inr (Or.inr (Or.inr (Or.inl h)))))))))))))) (fun h => (Or.inr (Or.inr (Or.inr (Or.inr (Or.inr (Or.inr (Or.inr (Or.inr (Or.inr (Or.inr (Or.inr (Or.inr (Or.inr (Or.inl h)))))))))))))))))))))))))))))))))))))))))  h) (fun q6 h_q6 => ?_)
      exact (fr_MO_treaty_L57 (fun k j hk => hk.elim)  _ _ _ _ _ h_q6)
    · refine post_bind (Q := fun r => Fr W M0 r.1) (fr_MO_joyOf (fun k j hk => hW k j (Or.elim hk (fun h => (Or.inl ⟨(h).1, (Or.elim (h).2 (fun h => (Or.inl h)) (fun h => (Or.elim h (fun h => (Or.inr (Or.inl h))) (fun h => (Or.elim h (fun h => (Or.inr (Or.inr (Or.inl h)))) (fun h => (Or.elim h (fun h => (Or.inr (Or.inr (Or.inr (Or.inl h))))) (fun h => (Or.elim h (fun h => (Or.inr (Or.inr (Or.inr (Or.inr (Or.inl h)))))) (fun h => (Or.inr (Or.inr (Or.inr (Or.inr (Or.inr h)))))))))))))))⟩)) (fun h => (Or.elim h (fun h => (Or.inr (Or.inr (Or.inr (Or.inr (Or.inr (Or.inr (Or.inr (Or.inr (Or.inr (Or.inr (Or.inl h)))))))))))) (fun h => (Or.elim h (fun h => (Or.inr (Or.inr (Or.inr (Or.inr (Or.inr (Or.inr (Or.inr (Or.inr (Or.inr (Or.inr (Or.inr (Or.inl ⟨(h).1, (Or.elim (h).2 (fun h => (Or.inl h)) (fun h => (Or.elim h (fun h => (Or.inr (Or.inl h))) (fun h => (Or.elim h (fun h => (Or.inr (Or.inr (Or.inl h)))) (fun h => (Or.elim h (fun h => (Or.inr (Or.inr (Or.inr (Or.inl h))))) (fun h => (Or.elim h (fun h => (Or.inr (Or.inr (Or.inr (Or.inr (Or.inl h)))))) (fun h => (Or.elim h (fun h => (Or.inr (Or.inr (Or.inr (Or.inr (Or.inr (Or.inl h))))))) (fun h => (Or.inr (Or.inr (Or.inr (Or.inr (Or.inr (Or.inr h))))))))))))))))))⟩))))))))))))) (fun h => (Or.inr (Or.inr (Or.inr (Or.inr (Or.inr (Or.inr (Or.inr (Or.inr (Or.inr (Or.inr (Or.inr (Or.inr (Or.inl h))))))))))))))))))))  h) (fun q8 h_q8 => ?_)
      refine post_guard (fun c_2 => ?_)
      refine post_let (fun M11 e_M11 => ?_)
      have h_M11 : Fr W M0 M11 := by rw [e_M11]; exact Fr.setI h_q8 (hW _ _ (Or.inr (Or.inr (Or.inr (Or.inr (Or.inr (Or.inr (Or.inr (Or.inr (Or.inr (Or.inr (Or.inr (Or.inr (Or.inr (Or.inr rfl)))))))))))))))
      exact (ih _ _ h_M11)
def W_MO_treaty : Nat → Int → Prop := fun k j => (k = 191 ∧ (j = 0 ∨ j = 46 ∨ j = 47 ∨ j = 48 ∨ j = 49 ∨ j = 50 ∨ j = 54)) ∨ k = 207 ∨ k = 208 ∨ k = 209 ∨ k = 210 ∨ k = 211 ∨ k = 212 ∨ k = 213 ∨ k = 214 ∨ k = 215 ∨ k = 219 ∨ (k = 220 ∧ (j = 0 ∨ j = 1 ∨ j = 2 ∨ j = 3 ∨ j = 4 ∨ j = 5 ∨ j = 6)) ∨ k = 221 ∨ k = 224 ∨ k = 225
theorem fr_MO_treaty {x1 : Int} {W : Nat → Int → Prop} {M0 : Mem} (hW : ∀ k j, (W_MO_treaty) k j → W k j)  {M : Mem} (h : Fr W M0 M) : Post (fun r => Fr W M0 r.1) (t_MO_treaty M x1) := by
  unfold t_MO_treaty
  refine post_let (fun M1 e_M1 => ?_)
  have h_M1 : Fr W M0 M1 := by rw [e_M1]; exact Fr.setI h (hW _ _ (Or.inl ⟨rfl, (Or.inl rfl)⟩))
  refine post_ite (fun c_1 => ?_) (fun c_1 => ?_)
  · exact post_some h_M1
  · refine post_ite (fun c_2 => ?_) (fun c_2 => ?_)
    · exact (fr_MO_treaty_L18 (fun k j hk => hW k j (Or.elim hk (fun h => (Or.inl ⟨(h).1, (Or.elim (h).2 (fun h => (Or.inr (Or.inl h))) (fun h => (Or.elim h (fun h => (Or.inr (Or.inr (Or.inl h)))) (fun h => (Or.elim h (fun h => (Or.inr (Or.inr (Or.inr (Or.inl h))))) (fun h => (Or.elim h (fun h => (Or.inr (Or.inr (Or.inr (Or.inr (Or.inl h)))))) (fun h => (Or.elim h (fun h => (Or.inr (Or.inr (Or.inr (Or.inr (Or.inr (Or.inl h))))))) (fun h => (Or.inr (Or.inr (Or.inr (Or.inr (Or.inr (Or.inr h))))))))))))))))⟩)) (fun h => (Or.elim h (fun h => (Or.inr (Or.inl h))) (fun h => (Or.elim h (fun h => (Or.inr (Or.inr (Or.inl h)))) (fun h => (Or.elim h (fun h => (Or.inr (Or.inr (Or.inr (Or.inl h))))) (fun h => (Or.elim h (fun h => (Or.inr (Or.inr (Or.inr (Or.inr (Or.inl h)))))) (fun h => (Or.elim h (fun h => (Or.inr (Or.inr (Or.inr (Or.inr (Or.inr (Or.inl h))))))) (fun h => (Or.elim h (fun h => (Or.inr (Or.inr (Or.inr (Or.inr (Or.inr (Or.inr (Or.inl h)))))))) (fun h => (Or.elim h (fun h => (Or.inr (Or.inr (Or.inr (Or.inr (Or.inr (Or.inr (Or.inr (Or.inl h))))))))) (fun h => (Or.elim h (fun h => (Or.inr (Or.inr (Or.inr (Or.inr (Or.inr (Or.inr (Or.inr (Or.inr (Or.inl h)))))))))) (fun h => (Or.elim h (fun h => (Or.inr (Or.inr (Or.inr (Or.inr (Or.inr (Or.inr (Or.inr (Or.inr (Or.inr (Or.inl h))))))))))) (fun h => (Or.elim h (fun h => (Or.inr (Or.inr (Or.inr (Or.inr (Or.inr (Or.inr (Or.inr (Or.inr (Or.inr (Or.inr (Or.inl h)))))))))))) (fun h => (Or.elim h (fun h => (Or.inr (Or.inr (Or.inr (Or.inr (Or.inr (Or.inr (Or.inr (Or.inr (Or.inr (Or.inr (Or.inr (Or.inl ⟨(h).1, (Or.elim (h).2 (fun h => (Or.inl h)) (fun h => (Or.elim h (fun h => (Or.inr (Or.inl h))) (fun h => (Or.elim h (fun h => (Or.inr (Or.inr (Or.inl h)))) (fun h => (Or.elim h (fun h => (Or.inr (Or.inr (Or.inr (Or.inl h))))) (fun h => (Or.elim h (fun h => (Or.inr (Or.inr (Or.inr (Or.inr (Or.inl h)))))) (fun h => (Or.elim h (fun h => (Or.inr (Or.inr (Or.inr (Or.inr (Or.inr (Or.inl h))))))) (fun h => (Or.inr (Or.inr (Or.inr (Or.inr (Or.inr (Or.inr h))))))))))))))))))⟩))))))))))))) (fun h => (Or.elim h (fun h => (Or.inr (Or.inr (Or.inr (Or.inr (Or.inr (Or.inr (Or.inr (Or.inr (Or.inr (Or.inr (Or.inr (Or.inr (Or.inl h)))))))))))))) (fun h => (Or.elim h (fun h => (Or.inr (Or.inr (Or.inr (Or.inr (Or.inr (Or.inr (Or.inr (Or.inr (Or.inr (Or.inr (Or.inr (Or.inr (Or.inr (Or.inl h))))))))))))))) (fun h => (Or.inr (Or.inr (Or.inr (Or.inr (Or.inr (Or.inr (Or.inr (Or.inr (Or.inr (Or.inr (Or.inr (Or.inr (Or.inr (Or.inr h)))))))))))))))))))))))))))))))))))))))))))  _ _ _ h_M1)
    · exact post_some h_M1
def W_MO_moves_L37 : Nat → Int → Prop := fun k j => False
theorem fr_MO_moves_L37 {x1 : Int} {x2 : Int} {W : Nat → Int → Prop} {M0 : Mem} (hW : ∀ k j, (W_MO_moves_L37) k j → W k j)  : ∀ (fu : Nat) (M : Mem) (v2_ : Int) (v3_ : Int), Fr W M0 M → Post (fun r => Fr W M0 r.1) (t_MO_moves_L37 x1 x2 fu M v2_ v3_) := by
  intro fu
  induction fu with
  | zero => intro M v2_ v3_ h; exact post_none
  | succ fu ih =>
    intro M v2_ v3_ h
    rw [t_MO_moves_L37]
    refine post_bindv (fun q10 => ?_)
    refine post_ite (fun c_1 => ?_) (fun c_1 => ?_)
    · refine post_ite (fun c_2 => ?_) (fun c_2 => ?_)
      · exact post_some h
      · exact post_some h
    · refine post_ite (fun c_3 => ?_) (fun c_3 => ?_)
      · exact post_some h
      · refine post_bindv (fun q15 => ?_)
        exact (ih _ _ _ h)
def W_MO_moves : Nat → Int → Prop := fun k j => (k = 191 ∧ (j = 0 ∨ j = 46 ∨ j = 47 ∨ j = 48 ∨ j = 49 ∨ j = 50 ∨ j = 54)) ∨ k = 207 ∨ k = 208 ∨ k = 209 ∨ k = 210 ∨ k = 211 ∨ k = 212 ∨ k = 213 ∨ k = 214 ∨ k = 215 ∨ k = 219 ∨ (k = 220 ∧ (j = 0 ∨ j = 1 ∨ j = 2 ∨ j = 3 ∨ j = 4 ∨ j = 5 ∨ j = 6)) ∨ k = 221 ∨ k = 224
theorem fr_MO_moves {x1 : Int} {x2 : Int} {W : Nat → Int → Prop} {M0 : Mem} (hW : ∀ k j, (W_MO_moves) k j → W k j)  {M : Mem} (h : Fr W M0 M) : Post (fun r => Fr W M0 r.1) (t_MO_moves M x1 x2) := by
  unfold t_MO_moves
  refine post_let (fun M1 e_M1 => ?_)
  have h_M1 : Fr W M0 M1 := by rw [e_M1]; exact Fr.setI h (hW _ _ (Or.inl ⟨rfl, (Or.inl rfl)⟩))
  refine post_ite (fun c_1 => ?_) (fun c_1 => ?_)
  · exact post_some h_M1
  · refine post_let (fun q3 _ => ?_)
    refine post_ite (fun c_2 => ?_) (fun c_2 => ?_)
    · exact post_some h_M1
    · refine post_ite (fun c_3 => ?_) (fun c_3 => ?_)
      · exact post_some h_M1
      · refine post_ite (fun c_4 => ?_) (fun c_4 => ?_)
        · refine post_bind (Q := fun r => Fr W M0 r) (fr_MO_layJoys (fun k j hk => hW k j (Or.elim hk (fun h => (Or.inl ⟨(h).1, (Or.elim (h).2 (fun h => (Or.inr (Or.inl h))) (fun h => (Or.elim h (fun h => (Or.inr (Or.inr (Or.inl h)))) (fun h => (Or.elim h (fun h => (Or.inr (Or.inr (Or.inr (Or.inl h))))) (fun h => (Or.elim h (fun h => (Or.inr (Or.inr (Or.inr (Or.inr (Or.inl h)))))) (fun h => (Or.elim h (fun h => (Or.inr (Or.inr (Or.inr (Or.inr (Or.inr (Or.inl h))))))) (fun h => (Or.inr (Or.inr (Or.inr (Or.inr (Or.inr (Or.inr h))))))))))))))))⟩)) (fun h => (Or.elim h (fun h => (Or.inr (Or.inl h))) (fun h => (Or.elim h (fun h => (Or.inr (Or.inr (Or.inl h)))) (fun h => (Or.elim h (fun h => (Or.inr (Or.inr (Or.inr (Or.inl h))))) (fun h => (Or.elim h (fun h => (Or.inr (Or.inr (Or.inr (Or.inr (Or.inl h)))))) (fun h => (Or.elim h (fun h => (Or.inr (Or.inr (Or.inr (Or.inr (Or.inr (Or.inl h))))))) (fun h => (Or.elim h (fun h => (Or.inr (Or.inr (Or.inr (Or.inr (Or.inr (Or.inr (Or.inl h)))))))) (fun h => (Or.elim h (fun h => (Or.inr (Or.inr (Or.inr (Or.inr (Or.inr (Or.inr (Or.inr (Or.inl h))))))))) (fun h => (Or.elim h (fun h => (Or.inr (Or.inr (Or.inr (Or.inr (Or.inr (Or.inr (Or.inr (Or.inr (Or.inl h)))))))))) (fun h => (Or.elim h (fun h => (Or.inr (Or.inr (Or.inr (Or.inr (Or.inr (Or.inr (Or.inr (Or.inr (Or.inr (Or.inl h))))))))))) (fun h => (Or.elim h (fun h => (Or.inr (Or.inr (Or.inr (Or.inr (Or.inr (Or.inr (Or.inr (Or.inr (Or.inr (Or.inr (Or.inl h)))))))))))) (fun h => (Or.elim h (fun h => (Or.inr (Or.inr (Or.inr (Or.inr (Or.inr (Or.inr (Or.inr (Or.inr (Or.inr (Or.inr (Or.inr (Or.inl ⟨(h).1, (Or.elim (h).2 (fun h => (Or.inl h)) (fun h => (Or.elim h (fun h => (Or.inr (Or.inl h))) (fun h => (Or.elim h (fun h => (Or.inr (Or.inr (Or.inl h)))) (fun h => (Or.elim h (fun h => (Or.inr (Or.inr (Or.inr (Or.inl h))))) (fun h => (Or.elim h (fun h => (Or.inr (Or.inr (Or.inr (Or.inr (Or.inl h)))))) (fun h => (Or.elim h (fun h => (Or.inr (Or.inr (Or.inr (Or.inr (Or.inr (Or.inl h))))))) (fun h => (Or.inr (Or.inr (Or.inr (Or.inr (Or.inr (Or.inr h))))))))))))))))))⟩))))))))))))) (fun h => (Or.elim h (fun h => (Or.inr (Or.inr (Or.inr (Or.inr (Or.inr (Or.inr (Or.inr (Or.inr (Or.inr (Or.inr (Or.inr (Or.inr (Or.inl h)))))))))))))) (fun h => (Or.inr (Or.inr (Or.inr (Or.inr (Or.inr (Or.inr (Or.inr (Or.inr (Or.inr (Or.inr (Or.inr (Or.inr (Or.inr h))))))))))))))))))))))))))))))))))))))))  h_M1) (fun q8 h_q8 => ?_)
          exact (fr_MO_moves_L37 (fun k j hk => hk.elim)  _ _ _ _ h_q8)
        · exact post_some h_M1
def W_MO_note_L26 : Nat → Int → Prop := fun k j => (k = 191 ∧ (j = 60)) ∨ k = 226 ∨ k = 227 ∨ k = 228
theorem fr_MO_note_L26 {x1 : Int} {x2 : Int} {W : Nat → Int → Prop} {M0 : Mem} (hW : ∀ k j, (W_MO_note_L26) k j → W k j)  {M : Mem} (h : Fr W M0 M) : Post (fun r => Fr W M0 r.1) (t_MO_note_L26 x1 x2 M) := by
  unfold t_MO_note_L26
  refine post_ite (fun c_1 => ?_) (fun c_1 => ?_)
  · exact post_some h
  · refine post_guard (fun c_2 => ?_)
    refine post_let (fun M13 e_M13 => ?_)
    have h_M13 : Fr W M0 M13 := by rw [e_M13]; exact Fr.setI h (hW _ _ (Or.inr (Or.inl rfl)))
    refine post_guard (fun c_3 => ?_)
    refine post_let (fun M16 e_M16 => ?_)
    have h_M16 : Fr W M0 M16 := by rw [e_M16]; exact Fr.setI h_M13 (hW _ _ (Or.inr (Or.inr (Or.inl rfl))))
    refine post_guard (fun c_4 => ?_)
    refine post_let (fun M19 e_M19 => ?_)
    have h_M19 : Fr W M0 M19 := by rw [e_M19]; exact Fr.setI h_M16 (hW _ _ (Or.inr (Or.inr (Or.inr rfl))))
    refine post_let (fun M21 e_M21 => ?_)
    have h_M21 : Fr W M0 M21 := by rw [e_M21]; exact Fr.setI h_M19 (hW _ _ (Or.inl ⟨rfl, rfl⟩))
    exact post_some h_M21
def W_MO_note : Nat → Int → Prop := fun k j => (k = 191 ∧ (j = 0 ∨ j = 60)) ∨ k = 226 ∨ k = 227 ∨ k = 228
theorem fr_MO_note {x1 : Int} {x2 : Int} {W : Nat → Int → Prop} {M0 : Mem} (hW : ∀ k j, (W_MO_note) k j → W k j)  {M : Mem} (h : Fr W M0 M) : Post (fun r => Fr W M0 r.1) (t_MO_note M x1 x2) := by
  unfold t_MO_note
  refine post_let (fun M1 e_M1 => ?_)
  have h_M1 : Fr W M0 M1 := by rw [e_M1]; exact Fr.setI h (hW _ _ (Or.inl ⟨rfl, (Or.inl rfl)⟩))
  refine post_bindv (fun q2 => ?_)
  refine post_ite (fun c_1 => ?_) (fun c_1 => ?_)
  · exact post_some h_M1
  · refine post_ite (fun c_2 => ?_) (fun c_2 => ?_)
    · exact (fr_MO_note_L26 (fun k j hk => hW k j (Or.elim hk (fun h => (Or.inl ⟨(h).1, (Or.inr (h).2)⟩)) (fun h => (Or.elim h (fun h => (Or.inr (Or.inl h))) (fun h => (Or.elim h (fun h => (Or.inr (Or.inr (Or.inl h)))) (fun h => (Or.inr (Or.inr (Or.inr h))))))))))  h_M1)
    · refine post_bindv (fun q6 => ?_)
      refine post_ite (fun c_3 => ?_) (fun c_3 => ?_)
      · exact post_some h_M1
      · exact (fr_MO_note_L26 (fun k j hk => hW k j (Or.elim hk (fun h => (Or.inl ⟨(h).1, (Or.inr (h).2)⟩)) (fun h => (Or.elim h (fun h => (Or.inr (Or.inl h))) (fun h => (Or.elim h (fun h => (Or.inr (Or.inr (Or.inl h)))) (fun h => (Or.inr (Or.inr (Or.inr h))))))))))  h_M1)
def W_MO_strike : Nat → Int → Prop := fun k j => (k = 191 ∧ (j = 0 ∨ j = 60)) ∨ k = 226 ∨ k = 228
theorem fr_MO_strike {x1 : Int} {W : Nat → Int → Prop} {M0 : Mem} (hW : ∀ k j, (W_MO_strike) k j → W k j)  {M : Mem} (h : Fr W M0 M) : Post (fun r => Fr W M0 r.1) (t_MO_strike M x1) := by
  unfold t_MO_strike
  refine post_let (fun M1 e_M1 => ?_)
  have h_M1 : Fr W M0 M1 := by rw [e_M1]; exact Fr.setI h (hW _ _ (Or.inl ⟨rfl, (Or.inl rfl)⟩))
  refine post_ite (fun c_1 => ?_) (fun c_1 => ?_)
  · exact post_some h_M1
  · refine post_ite (fun c_2 => ?_) (fun c_2 => ?_)
    · exact post_some h_M1
    · refine post_ite (fun c_3 => ?_) (fun c_3 => ?_)
      · exact post_some h_M1
      · refine post_guard (fun c_4 => ?_)
        refine post_let (fun M9 e_M9 => ?_)
        have h_M9 : Fr W M0 M9 := by rw [e_M9]; exact Fr.setI h_M1 (hW _ _ (Or.inr (Or.inl rfl)))
        refine post_guard (fun c_5 => ?_)
        refine post_let (fun M12 e_M12 => ?_)
        have h_M12 : Fr W M0 M12 := by rw [e_M12]; exact Fr.setI h_M9 (hW _ _ (Or.inr (Or.inr rfl)))
        refine post_let (fun M14 e_M14 => ?_)
        have h_M14 : Fr W M0 M14 := by rw [e_M14]; exact Fr.setI h_M12 (hW _ _ (Or.inl ⟨rfl, (Or.inr rfl)⟩))
        exact post_some h_M14
def W_MO_known : Nat → Int → Prop := fun k j => (k = 191 ∧ (j = 0 ∨ j = 61))
theorem fr_MO_known {x1 : Int} {W : Nat → Int → Prop} {M0 : Mem} (hW : ∀ k j, (W_MO_known) k j → W k j)  {M : Mem} (h : Fr W M0 M) : Fr W M0 (t_MO_known M x1).1 := by
  show Pl (fun r => Fr W M0 r.1) (t_MO_known M x1)
  unfold t_MO_known
  refine pl_let (fun M1 e_M1 => ?_)
  have h_M1 : Fr W M0 M1 := by rw [e_M1]; exact Fr.setI h (hW _ _ ⟨rfl, (Or.inl rfl)⟩)
  refine pl_ite (fun c_1 => ?_) (fun c_1 => ?_)
  · exact h_M1
  · refine pl_ite (fun c_2 => ?_) (fun c_2 => ?_)
    · refine pl_let (fun M5 e_M5 => ?_)
      have h_M5 : Fr W M0 M5 := by rw [e_M5]; exact Fr.setI h_M1 (hW _ _ ⟨rfl, (Or.inr rfl)⟩)
      exact h_M5
    · exact h_M1
def W_MO_fitsBy_L84 : Nat → Int → Prop := fun k j => False
theorem fr_MO_fitsBy_L84 {x1 : Int} {bk2 : Mem → Int → Option (Mem × Int)} {v2_ : Int} {W : Nat → Int → Prop} {M0 : Mem} (hW : ∀ k j, (W_MO_fitsBy_L84) k j → W k j) (hbk2 : ∀ (a0_ : Mem) (a1_ : Int), Fr W M0 a0_ → Post (fun r => Fr W M0 r.1) (bk2 a0_ a1_)) {M : Mem} (h : Fr W M0 M) : Post (fun r => Fr W M0 r.1) (t_MO_fitsBy_L84 x1 bk2 M v2_) := by
  unfold t_MO_fitsBy_L84
  exact hbk2 _ _ h
def W_MO_fitsBy_L2 : Nat → Int → Prop := fun k j => (k = 191 ∧ (j = 46 ∨ j = 47 ∨ j = 48 ∨ j = 49 ∨ j = 50)) ∨ k = 219
theorem fr_MO_fitsBy_L2 {x1 : Int} {W : Nat → Int → Prop} {M0 : Mem} (hW : ∀ k j, (W_MO_fitsBy_L2) k j → W k j)  : ∀ (fu : Nat) (M : Mem) (v2_ : Int), Fr W M0 M → Post (fun r => Fr W M0 r.1) (t_MO_fitsBy_L2 x1 fu M v2_) := by
  intro fu
  induction fu with
  | zero => intro M v2_ h; exact post_none
  | succ fu ih =>
    intro M v2_ h
    rw [t_MO_fitsBy_L2]
    refine post_let (fun q1 _ => ?_)
    refine post_ite (fun c_1 => ?_) (fun c_1 => ?_)
    · exact post_some h
    · refine post_guard (fun c_2 => ?_)
      refine post_ite (fun c_3 => ?_) (fun c_3 => ?_)
      · refine post_guard (fun c_4 => ?_)
        refine post_ite (fun c_5 => ?_) (fun c_5 => ?_)
        · refine post_guard (fun c_6 => ?_)
          refine post_bind (Q := fun r => Fr W M0 r) (fr_MO_goesFrom (fun k j hk => hW k j (Or.elim hk (fun h => (Or.inl ⟨(h).1, (Or.elim (h).2 (fun h => (Or.inl h)) (fun h => (Or.elim h (fun h => (Or.inr (Or.inl h))) (fun h => (Or.elim h (fun h => (Or.inr (Or.inr (Or.inl h)))) (fun h => (Or.elim h (fun h => (Or.inr (Or.inr (Or.inr (Or.inl h))))) (fun h => (Or.inr (Or.inr (Or.inr (Or.inr h))))))))))))⟩)) (fun h => (Or.inr h))))  h) (fun q12 h_q12 => ?_)
          refine post_guard (fun c_7 => ?_)
          refine post_ite (fun c_8 => ?_) (fun c_8 => ?_)
          · refine post_ite (fun c_9 => ?_) (fun c_9 => ?_)
            · exact post_some h_q12
            · exact (fr_MO_fitsBy_L84 (fun k j hk => hk.elim) (fun a0_ a1_ h9 => ih a0_ a1_ h9) h_q12)
          · refine post_ite (fun c_10 => ?_) (fun c_10 => ?_)
            · exact post_some h_q12
            · refine post_guard (fun c_11 => ?_)
              refine post_ite (fun c_12 => ?_) (fun c_12 => ?_)
              · exact (fr_MO_fitsBy_L84 (fun k j hk => hk.elim) (fun a0_ a1_ h9 => ih a0_ a1_ h9) h_q12)
              · exact post_some h_q12
        · exact (fr_MO_fitsBy_L84 (fun k j hk => hk.elim) (fun a0_ a1_ h9 => ih a0_ a1_ h9) h)
      · exact (fr_MO_fitsBy_L84 (fun k j hk => hk.elim) (fun a0_ a1_ h9 => ih a0_ a1_ h9) h)
def W_MO_fitsBy : Nat → Int → Prop := fun k j => (k = 191 ∧ (j = 46 ∨ j = 47 ∨ j = 48 ∨ j = 49 ∨ j = 50)) ∨ k = 219
theorem fr_MO_fitsBy {x1 : Int} {W : Nat → Int → Prop} {M0 : Mem} (hW : ∀ k j, (W_MO_fitsBy) k j → W k j)  {M : Mem} (h : Fr W M0 M) : Post (fun r => Fr W M0 r.1) (t_MO_fitsBy M x1) := by
  unfold t_MO_fitsBy
  exact (fr_MO_fitsBy_L2 (fun k j hk => hW k j (Or.elim hk (fun h => (Or.inl ⟨(h).1, (Or.elim (h).2 (fun h => (Or.inl h)) (fun h => (Or.elim h (fun h => (Or.inr (Or.inl h))) (fun h => (Or.elim h (fun h => (Or.inr (Or.inr (Or.inl h)))) (fun h => (Or.elim h (fun h => (Or.inr (Or.inr (Or.inr (Or.inl h))))) (fun h => (Or.inr (Or.inr (Or.inr (Or.inr h))))))))))))⟩)) (fun h => (Or.inr h))))  _ _ _ h)
def W_MO_layFits_L64 : Nat → Int → Prop := fun k j => False
theorem fr_MO_layFits_L64 {bk30 : Mem → Int → Option (Mem)} {v1_ : Int} {W : Nat → Int → Prop} {M0 : Mem} (hW : ∀ k j, (W_MO_layFits_L64) k j → W k j) (hbk30 : ∀ (a0_ : Mem) (a1_ : Int), Fr W M0 a0_ → Post (fun r => Fr W M0 r) (bk30 a0_ a1_)) {M : Mem} (h : Fr W M0 M) : Post (fun r => Fr W M0 r) (t_MO_layFits_L64 bk30 M v1_) := by
  unfold t_MO_layFits_L64
  exact hbk30 _ _ h
def W_MO_layFits_L219 : Nat → Int → Prop := fun k j => False
theorem fr_MO_layFits_L219 {bk114 : Mem → Int → Int → Option (Mem)} {v1_ : Int} {v2_ : Int} {W : Nat → Int → Prop} {M0 : Mem} (hW : ∀ k j, (W_MO_layFits_L219) k j → W k j) (hbk114 : ∀ (a0_ : Mem) (a1_ : Int) (a2_ : Int), Fr W M0 a0_ → Post (fun r => Fr W M0 r) (bk114 a0_ a1_ a2_)) {M : Mem} (h : Fr W M0 M) : Post (fun r => Fr W M0 r) (t_MO_layFits_L219 bk114 M v1_ v2_) := by
  unfold t_MO_layFits_L219
  exact hbk114 _ _ _ h
def W_MO_layFits_L181 : Nat → Int → Prop := fun k j => k = 230
theorem fr_MO_layFits_L181 {bk114 : Mem → Int → Int → Option (Mem)} {W : Nat → Int → Prop} {M0 : Mem} (hW : ∀ k j, (W_MO_layFits_L181) k j → W k j) (hbk114 : ∀ (a0_ : Mem) (a1_ : Int) (a2_ : Int), Fr W M0 a0_ → Post (fun r => Fr W M0 r) (bk114 a0_ a1_ a2_)) : ∀ (fu : Nat) (M : Mem) (v1_ : Int) (v2_ : Int) (v3_ : Int), Fr W M0 M → Post (fun r => Fr W M0 r) (t_MO_layFits_L181 bk114 fu M v1_ v2_ v3_) := by
  intro fu
  induction fu with
  | zero => intro M v1_ v2_ v3_ h; exact post_none
  | succ fu ih =>
    intro M v1_ v2_ v3_ h
    rw [t_MO_layFits_L181]
    refine post_ite (fun c_1 => ?_) (fun c_1 => ?_)
    · exact (fr_MO_layFits_L219 (fun k j hk => hk.elim) hbk114 h)
    · refine post_guard (fun c_2 => ?_)
      refine post_guard (fun c_3 => ?_)
      refine post_guard (fun c_4 => ?_)
      refine post_let (fun M43 e_M43 => ?_)
      have h_M43 : Fr W M0 M43 := by rw [e_M43]; exact Fr.setI h (hW _ _ rfl)
      exact (ih _ _ _ _ h_M43)
def W_MO_layFits_L124 : Nat → Int → Prop := fun k j => (k = 191 ∧ (j = 46 ∨ j = 47 ∨ j = 48 ∨ j = 49 ∨ j = 50 ∨ j = 66)) ∨ k = 212 ∨ k = 219 ∨ k = 230
theorem fr_MO_layFits_L124 {bk114 : Mem → Int → Int → Option (Mem)} {W : Nat → Int → Prop} {M0 : Mem} (hW : ∀ k j, (W_MO_layFits_L124) k j → W k j) (hbk114 : ∀ (a0_ : Mem) (a1_ : Int) (a2_ : Int), Fr W M0 a0_ → Post (fun r => Fr W M0 r) (bk114 a0_ a1_ a2_)) : ∀ (fu : Nat) (M : Mem) (v1_ : Int) (v2_ : Int) (v3_ : Int) (v4_ : Int), Fr W M0 M → Post (fun r => Fr W M0 r) (t_MO_layFits_L124 bk114 fu M v1_ v2_ v3_ v4_) := by
  intro fu
  induction fu with
  | zero => intro M v1_ v2_ v3_ v4_ h; exact post_none
  | succ fu ih =>
    intro M v1_ v2_ v3_ v4_ h
    rw [t_MO_layFits_L124]
    refine post_ite (fun c_1 => ?_) (fun c_1 => ?_)
    · refine post_bind (Q := fun r => Fr W M0 r.1) (fr_MO_fitsBy (fun k j hk => hW k j (Or.elim hk (fun h => (Or.inl ⟨(h).1, (Or.elim (h).2 (fun h => (Or.inl h)) (fun h => (Or.elim h (fun h => (Or.inr (Or.inl h))) (fun h => (Or.elim h (fun h => (Or.inr (Or.inr (Or.inl h)))) (fun h => (Or.elim h (fun h => (Or.inr (Or.inr (Or.inr (Or.inl h))))) (fun h => (Or.inr (Or.inr (Or.inr (Or.inr (Or.inl h)))))))))))))⟩)) (fun h => (Or.inr (Or.inr (Or.inl h))))))  h) (fun q29 h_q29 => ?_)
      refine post_ite (fun c_2 => ?_) (fun c_2 => ?_)
      · exact (fr_MO_layFits_L219 (fun k j hk => hk.elim) hbk114 h_q29)
      · refine post_let (fun M33 e_M33 => ?_)
        have h_M33 : Fr W M0 M33 := by rw [e_M33]; exact Fr.setI h_q29 (hW _ _ (Or.inl ⟨rfl, (Or.inr (Or.inr (Or.inr (Or.inr (Or.inr rfl)))))⟩))
        exact (fr_MO_layFits_L181 (fun k j hk => hW k j (Or.inr (Or.inr (Or.inr hk)))) hbk114 _ _ _ _ _ h_M33)
    · refine post_guard (fun c_3 => ?_)
      refine post_let (fun M35 e_M35 => ?_)
      have h_M35 : Fr W M0 M35 := by rw [e_M35]; exact Fr.setI h (hW _ _ (Or.inr (Or.inl rfl)))
      exact (ih _ _ _ _ _ h_M35)
def W_MO_layFits_L114 : Nat → Int → Prop := fun k j => (k = 191 ∧ (j = 46 ∨ j = 47 ∨ j = 48 ∨ j = 49 ∨ j = 50 ∨ j = 66)) ∨ k = 212 ∨ k = 219 ∨ k = 230
theorem fr_MO_layFits_L114  {W : Nat → Int → Prop} {M0 : Mem} (hW : ∀ k j, (W_MO_layFits_L114) k j → W k j)  : ∀ (fu : Nat) (M : Mem) (v1_ : Int) (v2_ : Int), Fr W M0 M → Post (fun r => Fr W M0 r) (t_MO_layFits_L114  fu M v1_ v2_) := by
  intro fu
  induction fu with
  | zero => intro M v1_ v2_ h; exact post_none
  | succ fu ih =>
    intro M v1_ v2_ h
    rw [t_MO_layFits_L114]
    refine post_ite (fun c_1 => ?_) (fun c_1 => ?_)
    · exact post_some h
    · exact (fr_MO_layFits_L124 (fun k j hk => hW k j (Or.elim hk (fun h => (Or.inl ⟨(h).1, (Or.elim (h).2 (fun h => (Or.inl h)) (fun h => (Or.elim h (fun h => (Or.inr (Or.inl h))) (fun h => (Or.elim h (fun h => (Or.inr (Or.inr (Or.inl h)))) (fun h => (Or.elim h (fun h => (Or.inr (Or.inr (Or.inr (Or.inl h))))) (fun h => (Or.elim h (fun h => (Or.inr (Or.inr (Or.inr (Or.inr (Or.inl h)))))) (fun h => (Or.inr (Or.inr (Or.inr (Or.inr (Or.inr h)))))))))))))))⟩)) (fun h => (Or.elim h (fun h => (Or.inr (Or.inl h))) (fun h => (Or.elim h (fun h => (Or.inr (Or.inr (Or.inl h)))) (fun h => (Or.inr (Or.inr (Or.inr h)))))))))) (fun a0_ a1_ a2_ h9 => ih a0_ a1_ a2_ h9) _ _ _ _ _ _ h)
def W_MO_layFits_L85 : Nat → Int → Prop := fun k j => (k = 191 ∧ (j = 46 ∨ j = 47 ∨ j = 48 ∨ j = 49 ∨ j = 50 ∨ j = 66)) ∨ k = 212 ∨ k = 219 ∨ k = 230
theorem fr_MO_layFits_L85  {W : Nat → Int → Prop} {M0 : Mem} (hW : ∀ k j, (W_MO_layFits_L85) k j → W k j)  : ∀ (fu : Nat) (M : Mem) (v1_ : Int) (v2_ : Int), Fr W M0 M → Post (fun r => Fr W M0 r) (t_MO_layFits_L85  fu M v1_ v2_) := by
  intro fu
  induction fu with
  | zero => intro M v1_ v2_ h; exact post_none
  | succ fu ih =>
    intro M v1_ v2_ h
    rw [t_MO_layFits_L85]
    refine post_ite (fun c_1 => ?_) (fun c_1 => ?_)
    · exact (fr_MO_layFits_L114 (fun k j hk => hW k j (Or.elim hk (fun h => (Or.inl ⟨(h).1, (Or.elim (h).2 (fun h => (Or.inl h)) (fun h => (Or.elim h (fun h => (Or.inr (Or.inl h))) (fun h => (Or.elim h (fun h => (Or.inr (Or.inr (Or.inl h)))) (fun h => (Or.elim h (fun h => (Or.inr (Or.inr (Or.inr (Or.inl h))))) (fun h => (Or.elim h (fun h => (Or.inr (Or.inr (Or.inr (Or.inr (Or.inl h)))))) (fun h => (Or.inr (Or.inr (Or.inr (Or.inr (Or.inr h)))))))))))))))⟩)) (fun h => (Or.elim h (fun h => (Or.inr (Or.inl h))) (fun h => (Or.elim h (fun h => (Or.inr (Or.inr (Or.inl h)))) (fun h => (Or.inr (Or.inr (Or.inr h))))))))))  _ _ _ _ h)
    · refine post_guard (fun c_2 => ?_)
      refine post_let (fun M25 e_M25 => ?_)
      have h_M25 : Fr W M0 M25 := by rw [e_M25]; exact Fr.setI h (hW _ _ (Or.inr (Or.inr (Or.inr rfl))))
      exact (ih _ _ _ h_M25)
def W_MO_layFits_L30 : Nat → Int → Prop := fun k j => (k = 191 ∧ (j = 46 ∨ j = 47 ∨ j = 48 ∨ j = 49 ∨ j = 50 ∨ j = 66)) ∨ k = 207 ∨ k = 208 ∨ k = 209 ∨ k = 210 ∨ k = 211 ∨ k = 212 ∨ k = 213 ∨ k = 214 ∨ k = 215 ∨ k = 219 ∨ k = 229 ∨ k = 230
theorem fr_MO_layFits_L30  {W : Nat → Int → Prop} {M0 : Mem} (hW : ∀ k j, (W_MO_layFits_L30) k j → W k j)  : ∀ (fu : Nat) (M : Mem) (v1_ : Int), Fr W M0 M → Post (fun r => Fr W M0 r) (t_MO_layFits_L30  fu M v1_) := by
  intro fu
  induction fu with
  | zero => intro M v1_ h; exact post_none
  | succ fu ih =>
    intro M v1_ h
    rw [t_MO_layFits_L30]
    refine post_ite (fun c_1 => ?_) (fun c_1 => ?_)
    · refine post_bind (Q := fun r => Fr W M0 r) (fr_MO_copies (fun k j hk => hW k j (Or.elim hk (fun h => (Or.inr (Or.inl h))) (fun h => (Or.elim h (fun h => (Or.inr (Or.inr (Or.inl h)))) (fun h => (Or.elim h (fun h => (Or.inr (Or.inr (Or.inr (Or.inl h))))) (fun h => (Or.elim h (fun h => (Or.inr (Or.inr (Or.inr (Or.inr (Or.inl h)))))) (fun h => (Or.elim h (fun h => (Or.inr (Or.inr (Or.inr (Or.inr (Or.inr (Or.inl h))))))) (fun h => (Or.elim h (fun h => (Or.inr (Or.inr (Or.inr (Or.inr (Or.inr (Or.inr (Or.inl h)))))))) (fun h => (Or.elim h (fun h => (Or.inr (Or.inr (Or.inr (Or.inr (Or.inr (Or.inr (Or.inr (Or.inl h))))))))) (fun h => (Or.elim h (fun h => (Or.inr (Or.inr (Or.inr (Or.inr (Or.inr (Or.inr (Or.inr (Or.inr (Or.inl h)))))))))) (fun h => (Or.inr (Or.inr (Or.inr (Or.inr (Or.inr (Or.inr (Or.inr (Or.inr (Or.inr (Or.inl h)))))))))))))))))))))))))))  h) (fun q9 h_q9 => ?_)
      refine post_let (fun M11 e_M11 => ?_)
      have h_M11 : Fr W M0 M11 := by rw [e_M11]; exact Fr.setI h_q9 (hW _ _ (Or.inl ⟨rfl, (Or.inr (Or.inr (Or.inr (Or.inr (Or.inr rfl)))))⟩))
      exact (fr_MO_layFits_L85 (fun k j hk => hW k j (Or.elim hk (fun h => (Or.inl ⟨(h).1, (Or.elim (h).2 (fun h => (Or.inl h)) (fun h => (Or.elim h (fun h => (Or.inr (Or.inl h))) (fun h => (Or.elim h (fun h => (Or.inr (Or.inr (Or.inl h)))) (fun h => (Or.elim h (fun h => (Or.inr (Or.inr (Or.inr (Or.inl h))))) (fun h => (Or.elim h (fun h => (Or.inr (Or.inr (Or.inr (Or.inr (Or.inl h)))))) (fun h => (Or.inr (Or.inr (Or.inr (Or.inr (Or.inr h)))))))))))))))⟩)) (fun h => (Or.elim h (fun h => (Or.inr (Or.inr (Or.inr (Or.inr (Or.inr (Or.inr (Or.inl h)))))))) (fun h => (Or.elim h (fun h => (Or.inr (Or.inr (Or.inr (Or.inr (Or.inr (Or.inr (Or.inr (Or.inr (Or.inr (Or.inr (Or.inl h)))))))))))) (fun h => (Or.inr (Or.inr (Or.inr (Or.inr (Or.inr (Or.inr (Or.inr (Or.inr (Or.inr (Or.inr (Or.inr (Or.inr h)))))))))))))))))))  _ _ _ _ h_M11)
    · refine post_guard (fun c_2 => ?_)
      refine post_ite (fun c_3 => ?_) (fun c_3 => ?_)
      · refine post_guard (fun c_4 => ?_)
        refine post_ite (fun c_5 => ?_) (fun c_5 => ?_)
        · exact (fr_MO_layFits_L64 (fun k j hk => hk.elim) (fun a0_ a1_ h9 => ih a0_ a1_ h9) h)
        · refine post_guard (fun c_6 => ?_)
          refine post_guard (fun c_7 => ?_)
          refine post_let (fun M21 e_M21 => ?_)
          have h_M21 : Fr W M0 M21 := by rw [e_M21]; exact Fr.setI h (hW _ _ (Or.inr (Or.inr (Or.inr (Or.inr (Or.inr (Or.inr (Or.inr (Or.inr (Or.inr (Or.inr (Or.inr (Or.inl rfl)))))))))))))
          exact (fr_MO_layFits_L64 (fun k j hk => hk.elim) (fun a0_ a1_ h9 => ih a0_ a1_ h9) h_M21)
      · exact (fr_MO_layFits_L64 (fun k j hk => hk.elim) (fun a0_ a1_ h9 => ih a0_ a1_ h9) h)
def W_MO_layFits_L2 : Nat → Int → Prop := fun k j => (k = 191 ∧ (j = 46 ∨ j = 47 ∨ j = 48 ∨ j = 49 ∨ j = 50 ∨ j = 66)) ∨ k = 207 ∨ k = 208 ∨ k = 209 ∨ k = 210 ∨ k = 211 ∨ k = 212 ∨ k = 213 ∨ k = 214 ∨ k = 215 ∨ k = 219 ∨ k = 229 ∨ k = 230
theorem fr_MO_layFits_L2  {W : Nat → Int → Prop} {M0 : Mem} (hW : ∀ k j, (W_MO_layFits_L2) k j → W k j)  : ∀ (fu : Nat) (M : Mem) (v1_ : Int), Fr W M0 M → Post (fun r => Fr W M0 r) (t_MO_layFits_L2  fu M v1_) := by
  intro fu
  induction fu with
  | zero => intro M v1_ h; exact post_none
  | succ fu ih =>
    intro M v1_ h
    rw [t_MO_layFits_L2]
    refine post_let (fun q1 _ => ?_)
    refine post_ite (fun c_1 => ?_) (fun c_1 => ?_)
    · refine post_let (fun q4 _ => ?_)
      exact (fr_MO_layFits_L30 (fun k j hk => hW k j (Or.elim hk (fun h => (Or.inl ⟨(h).1, (Or.elim (h).2 (fun h => (Or.inl h)) (fun h => (Or.elim h (fun h => (Or.inr (Or.inl h))) (fun h => (Or.elim h (fun h => (Or.inr (Or.inr (Or.inl h)))) (fun h => (Or.elim h (fun h => (Or.inr (Or.inr (Or.inr (Or.inl h))))) (fun h => (Or.elim h (fun h => (Or.inr (Or.inr (Or.inr (Or.inr (Or.inl h)))))) (fun h => (Or.inr (Or.inr (Or.inr (Or.inr (Or.inr h)))))))))))))))⟩)) (fun h => (Or.elim h (fun h => (Or.inr (Or.inl h))) (fun h => (Or.elim h (fun h => (Or.inr (Or.inr (Or.inl h)))) (fun h => (Or.elim h (fun h => (Or.inr (Or.inr (Or.inr (Or.inl h))))) (fun h => (Or.elim h (fun h => (Or.inr (Or.inr (Or.inr (Or.inr (Or.inl h)))))) (fun h => (Or.elim h (fun h => (Or.inr (Or.inr (Or.inr (Or.inr (Or.inr (Or.inl h))))))) (fun h => (Or.elim h (fun h => (Or.inr (Or.inr (Or.inr (Or.inr (Or.inr (Or.inr (Or.inl h)))))))) (fun h => (Or.elim h (fun h => (Or.inr (Or.inr (Or.inr (Or.inr (Or.inr (Or.inr (Or.inr (Or.inl h))))))))) (fun h => (Or.elim h (fun h => (Or.inr (Or.inr (Or.inr (Or.inr (Or.inr (Or.inr (Or.inr (Or.inr (Or.inl h)))))))))) (fun h => (Or.elim h (fun h => (Or.inr (Or.inr (Or.inr (Or.inr (Or.inr (Or.inr (Or.inr (Or.inr (Or.inr (Or.inl h))))))))))) (fun h => (Or.elim h (fun h => (Or.inr (Or.inr (Or.inr (Or.inr (Or.inr (Or.inr (Or.inr (Or.inr (Or.inr (Or.inr (Or.inl h)))))))))))) (fun h => (Or.elim h (fun h => (Or.inr (Or.inr (Or.inr (Or.inr (Or.inr (Or.inr (Or.inr (Or.inr (Or.inr (Or.inr (Or.inr (Or.inl h))))))))))))) (fun h => (Or.inr (Or.inr (Or.inr (Or.inr (Or.inr (Or.inr (Or.inr (Or.inr (Or.inr (Or.inr (Or.inr (Or.inr h)))))))))))))))))))))))))))))))))))))  _ _ _ h)
    · refine post_guard (fun c_2 => ?_)
      refine post_let (fun M7 e_M7 => ?_)
      have h_M7 : Fr W M0 M7 := by rw [e_M7]; exact Fr.setI h (hW _ _ (Or.inr (Or.inr (Or.inr (Or.inr (Or.inr (Or.inr (Or.inr (Or.inr (Or.inr (Or.inr (Or.inr (Or.inl rfl)))))))))))))
      exact (ih _ _ h_M7)
def W_MO_layFits : Nat → Int → Prop := fun k j => (k = 191 ∧ (j = 46 ∨ j = 47 ∨ j = 48 ∨ j = 49 ∨ j = 50 ∨ j = 66)) ∨ k = 207 ∨ k = 208 ∨ k = 209 ∨ k = 210 ∨ k = 211 ∨ k = 212 ∨ k = 213 ∨ k = 214 ∨ k = 215 ∨ k = 219 ∨ k = 229 ∨ k = 230
theorem fr_MO_layFits  {W : Nat → Int → Prop} {M0 : Mem} (hW : ∀ k j, (W_MO_layFits) k j → W k j)  {M : Mem} (h : Fr W M0 M) : Post (fun r => Fr W M0 r) (t_MO_layFits M) := by
  unfold t_MO_layFits
  exact (fr_MO_layFits_L2 (fun k j hk => hW k j (Or.elim hk (fun h => (Or.inl ⟨(h).1, (Or.elim (h).2 (fun h => (Or.inl h)) (fun h => (Or.elim h (fun h => (Or.inr (Or.inl h))) (fun h => (Or.elim h (fun h => (Or.inr (Or.inr (Or.inl h)))) (fun h => (Or.elim h (fun h => (Or.inr (Or.inr (Or.inr (Or.inl h))))) (fun h => (Or.elim h (fun h => (Or.inr (Or.inr (Or.inr (Or.inr (Or.inl h)))))) (fun h => (Or.inr (Or.inr (Or.inr (Or.inr (Or.inr h)))))))))))))))⟩)) (fun h => (Or.elim h (fun h => (Or.inr (Or.inl h))) (fun h => (Or.elim h (fun h => (Or.inr (Or.inr (Or.inl h)))) (fun h => (Or.elim h (fun h => (Or.inr (Or.inr (Or.inr (Or.inl h))))) (fun h => (Or.elim h (fun h => (Or.inr (Or.inr (Or.inr (Or.inr (Or.inl h)))))) (fun h => (Or.elim h (fun h => (Or.inr (Or.inr (Or.inr (Or.inr (Or.inr (Or.inl h))))))) (fun h => (Or.elim h (fun h => (Or.inr (Or.inr (Or.inr (Or.inr (Or.inr (Or.inr (Or.inl h)))))))) (fun h => (Or.elim h (fun h => (Or.inr (Or.inr (Or.inr (Or.inr (Or.inr (Or.inr (Or.inr (Or.inl h))))))))) (fun h => (Or.elim h (fun h => (Or.inr (Or.inr (Or.inr (Or.inr (Or.inr (Or.inr (Or.inr (Or.inr (Or.inl h)))))))))) (fun h => (Or.elim h (fun h => (Or.inr (Or.inr (Or.inr (Or.inr (Or.inr (Or.inr (Or.inr (Or.inr (Or.inr (Or.inl h))))))))))) (fun h => (Or.elim h (fun h => (Or.inr (Or.inr (Or.inr (Or.inr (Or.inr (Or.inr (Or.inr (Or.inr (Or.inr (Or.inr (Or.inl h)))))))))))) (fun h => (Or.elim h (fun h => (Or.inr (Or.inr (Or.inr (Or.inr (Or.inr (Or.inr (Or.inr (Or.inr (Or.inr (Or.inr (Or.inr (Or.inl h))))))))))))) (fun h => (Or.inr (Or.inr (Or.inr (Or.inr (Or.inr (Or.inr (Or.inr (Or.inr (Or.inr (Or.inr (Or.inr (Or.inr h)))))))))))))))))))))))))))))))))))))  _ _ _ h)
def W_MO_fits : Nat → Int → Prop := fun k j => (k = 191 ∧ (j = 0 ∨ j = 46 ∨ j = 47 ∨ j = 48 ∨ j = 49 ∨ j = 50 ∨ j = 66)) ∨ k = 207 ∨ k = 208 ∨ k = 209 ∨ k = 210 ∨ k = 211 ∨ k = 212 ∨ k = 213 ∨ k = 214 ∨ k = 215 ∨ k = 219 ∨ k = 229 ∨ k = 230
theorem fr_MO_fits  {W : Nat → Int → Prop} {M0 : Mem} (hW : ∀ k j, (W_MO_fits) k j → W k j)  {M : Mem} (h : Fr W M0 M) : Post (fun r => Fr W M0 r.1) (t_MO_fits M) := by
  unfold t_MO_fits
  refine post_let (fun M1 e_M1 => ?_)
  have h_M1 : Fr W M0 M1 := by rw [e_M1]; exact Fr.setI h (hW _ _ (Or.inl ⟨rfl, (Or.inl rfl)⟩))
  refine post_bind (Q := fun r => Fr W M0 r) (fr_MO_layFits (fun k j hk => hW k j (Or.elim hk (fun h => (Or.inl ⟨(h).1, (Or.elim (h).2 (fun h => (Or.inr (Or.inl h))) (fun h => (Or.elim h (fun h => (Or.inr (Or.inr (Or.inl h)))) (fun h => (Or.elim h (fun h => (Or.inr (Or.inr (Or.inr (Or.inl h))))) (fun h => (Or.elim h (fun h => (Or.inr (Or.inr (Or.inr (Or.inr (Or.inl h)))))) (fun h => (Or.elim h (fun h => (Or.inr (Or.inr (Or.inr (Or.inr (Or.inr (Or.inl h))))))) (fun h => (Or.inr (Or.inr (Or.inr (Or.inr (Or.inr (Or.inr h))))))))))))))))⟩)) (fun h => (Or.elim h (fun h => (Or.inr (Or.inl h))) (fun h => (Or.elim h (fun h => (Or.inr (Or.inr (Or.inl h)))) (fun h => (Or.elim h (fun h => (Or.inr (Or.inr (Or.inr (Or.inl h))))) (fun h => (Or.elim h (fun h => (Or.inr (Or.inr (Or.inr (Or.inr (Or.inl h)))))) (fun h => (Or.elim h (fun h => (Or.inr (Or.inr (Or.inr (Or.inr (Or.inr (Or.inl h))))))) (fun h => (Or.elim h (fun h => (Or.inr (Or.inr (Or.inr (Or.inr (Or.inr (Or.inr (Or.inl h)))))))) (fun h => (Or.elim h (fun h => (Or.inr (Or.inr (Or.inr (Or.inr (Or.inr (Or.inr (Or.inr (Or.inl h))))))))) (fun h => (Or.elim h (fun h => (Or.inr (Or.inr (Or.inr (Or.inr (Or.inr (Or.inr (Or.inr (Or.inr (Or.inl h)))))))))) (fun h => (Or.elim h (fun h => (Or.inr (Or.inr (Or.inr (Or.inr (Or.inr (Or.inr (Or.inr (Or.inr (Or.inr (Or.inl h))))))))))) (fun h => (Or.elim h (fun h => (Or.inr (Or.inr (Or.inr (Or.inr (Or.inr (Or.inr (Or.inr (Or.inr (Or.inr (Or.inr (Or.inl h)))))))))))) (fun h => (Or.elim h (fun h => (Or.inr (Or.inr (Or.inr (Or.inr (Or.inr (Or.inr (Or.inr (Or.inr (Or.inr (Or.inr (Or.inr (Or.inl h))))))))))))) (fun h => (Or.inr (Or.inr (Or.inr (Or.inr (Or.inr (Or.inr (Or.inr (Or.inr (Or.inr (Or.inr (Or.inr (Or.inr h)))))))))))))))))))))))))))))))))))))  h_M1) (fun q2 h_q2 => ?_)
  exact post_some h_q2
def W_MO_may : Nat → Int → Prop := fun k j => (k = 191 ∧ (j = 0 ∨ j = 46 ∨ j = 47 ∨ j = 48 ∨ j = 49 ∨ j = 50 ∨ j = 66)) ∨ k = 207 ∨ k = 208 ∨ k = 209 ∨ k = 210 ∨ k = 211 ∨ k = 212 ∨ k = 213 ∨ k = 214 ∨ k = 215 ∨ k = 219 ∨ k = 229 ∨ k = 230
theorem fr_MO_may {x1 : Int} {W : Nat → Int → Prop} {M0 : Mem} (hW : ∀ k j, (W_MO_may) k j → W k j)  {M : Mem} (h : Fr W M0 M) : Post (fun r => Fr W M0 r.1) (t_MO_may M x1) := by
  unfold t_MO_may
  refine post_let (fun M1 e_M1 => ?_)
  have h_M1 : Fr W M0 M1 := by rw [e_M1]; exact Fr.setI h (hW _ _ (Or.inl ⟨rfl, (Or.inl rfl)⟩))
  refine post_let (fun q2 _ => ?_)
  refine post_ite (fun c_1 => ?_) (fun c_1 => ?_)
  · exact post_some h_M1
  · refine post_bind (Q := fun r => Fr W M0 r) (fr_MO_layFits (fun k j hk => hW k j (Or.elim hk (fun h => (Or.inl ⟨(h).1, (Or.elim (h).2 (fun h => (Or.inr (Or.inl h))) (fun h => (Or.elim h (fun h => (Or.inr (Or.inr (Or.inl h)))) (fun h => (Or.elim h (fun h => (Or.inr (Or.inr (Or.inr (Or.inl h))))) (fun h => (Or.elim h (fun h => (Or.inr (Or.inr (Or.inr (Or.inr (Or.inl h)))))) (fun h => (Or.elim h (fun h => (Or.inr (Or.inr (Or.inr (Or.inr (Or.inr (Or.inl h))))))) (fun h => (Or.inr (Or.inr (Or.inr (Or.inr (Or.inr (Or.inr h))))))))))))))))⟩)) (fun h => (Or.elim h (fun h => (Or.inr (Or.inl h))) (fun h => (Or.elim h (fun h => (Or.inr (Or.inr (Or.inl h)))) (fun h => (Or.elim h (fun h => (Or.inr (Or.inr (Or.inr (Or.inl h))))) (fun h => (Or.elim h (fun h => (Or.inr (Or.inr (Or.inr (Or.inr (Or.inl h)))))) (fun h => (Or.elim h (fun h => (Or.inr (Or.inr (Or.inr (Or.inr (Or.inr (Or.inl h))))))) (fun h => (Or.elim h (fun h => (Or.inr (Or.inr (Or.inr (Or.inr (Or.inr (Or.inr (Or.inl h)))))))) (fun h => (Or.elim h (fun h => (Or.inr (Or.inr (Or.inr (Or.inr (Or.inr (Or.inr (Or.inr (Or.inl h))))))))) (fun h => (Or.elim h (fun h => (Or.inr (Or.inr (Or.inr (Or.inr (Or.inr (Or.inr (Or.inr (Or.inr (Or.inl h)))))))))) (fun h => (Or.elim h (fun h => (Or.inr (Or.inr (Or.inr (Or.inr (Or.inr (Or.inr (Or.inr (Or.inr (Or.inr (Or.inl h))))))))))) (fun h => (Or.elim h (fun h => (Or.inr (Or.inr (Or.inr (Or.inr (Or.inr (Or.inr (Or.inr (Or.inr (Or.inr (Or.inr (Or.inl h)))))))))))) (fun h => (Or.elim h (fun h => (Or.inr (Or.inr (Or.inr (Or.inr (Or.inr (Or.inr (Or.inr (Or.inr (Or.inr (Or.inr (Or.inr (Or.inl h))))))))))))) (fun h => (Or.inr (Or.inr (Or.inr (Or.inr (Or.inr (Or.inr (Or.inr (Or.inr (Or.inr (Or.inr (Or.inr (Or.inr h)))))))))))))))))))))))))))))))))))))  h_M1) (fun q5 h_q5 => ?_)
    refine post_guard (fun c_2 => ?_)
    exact post_some h_q5
def W_MO_draw : Nat → Int → Prop := fun k j => (k = 209 ∧ (j = 0))
theorem fr_MO_draw {x1 : Int} {W : Nat → Int → Prop} {M0 : Mem} (hW : ∀ k j, (W_MO_draw) k j → W k j)  {M : Mem} (h : Fr W M0 M) : Post (fun r => Fr W M0 r.1) (t_MO_draw M x1) := by
  unfold t_MO_draw
  refine post_let (fun M2 e_M2 => ?_)
  have h_M2 : Fr W M0 M2 := by rw [e_M2]; exact Fr.setI h (hW _ _ ⟨rfl, rfl⟩)
  refine post_ite (fun c_1 => ?_) (fun c_1 => ?_)
  · exact post_none
  · exact post_some h_M2
def W_MO_years_L149 : Nat → Int → Prop := fun k j => (k = 207 ∧ (j = 0))
theorem fr_MO_years_L149 {x1 : Int} {bk41 : Mem → Int → Option (Mem × Int)} {v2_ : Int} {W : Nat → Int → Prop} {M0 : Mem} (hW : ∀ k j, (W_MO_years_L149) k j → W k j) (hbk41 : ∀ (a0_ : Mem) (a1_ : Int), Fr W M0 a0_ → Post (fun r => Fr W M0 r.1) (bk41 a0_ a1_)) {M : Mem} (h : Fr W M0 M) : Post (fun r => Fr W M0 r.1) (t_MO_years_L149 x1 bk41 M v2_) := by
  unfold t_MO_years_L149
  refine post_let (fun M39 e_M39 => ?_)
  have h_M39 : Fr W M0 M39 := by rw [e_M39]; exact Fr.setI h (hW _ _ ⟨rfl, rfl⟩)
  exact hbk41 _ _ h_M39
end
