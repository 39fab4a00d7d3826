section
/-! safe rows -/
theorem sf_Formula_clear {k0 : Nat} {M : Mem} (h_M : IM M)  : (fun r => IM r) (t_Formula_clear M k0) := by
  show Pl (fun r => IM r) (t_Formula_clear M k0)
  unfold t_Formula_clear
  refine pl_let (fun M1 e_M1 => ?_)
  have h_M1 : IM M1 := by rw [e_M1]; exact IM.setI h_M (inr_c rfl)
  clear e_M1
  refine pl_let (fun M2 e_M2 => ?_)
  have h_M2 : IM M2 := by rw [e_M2]; exact IM.setI h_M1 (inr_c rfl)
  clear e_M2
  exact h_M2
theorem sf_Arrays_fill_L5 {r1 N1 : Nat} {x2 : Int} (hN : N1 ≤ 1000000) (hx : InR x2) : ∀ (n fu : Nat) (M : Mem) (v : Int), v + (n : Int) = (N1 : Int) → 0 ≤ v → n < fu → IM M → Ok (fun r => IM r) (t_Arrays_fill_L5 r1 N1 x2 fu M v (N1 : Int)) := by
  intro n
  induction n with
  | zero =>
    intro fu M v h0 h1 h2 hM
    obtain ⟨g, rfl⟩ : ∃ g, fu = g + 1 := ⟨fu - 1, by omega⟩
    rw [t_Arrays_fill_L5, if_pos (by omega)]
    exact ok_some hM
  | succ n ih =>
    intro fu M v h0 h1 h2 hM
    obtain ⟨g, rfl⟩ : ∃ g, fu = g + 1 := ⟨fu - 1, by omega⟩
    rw [t_Arrays_fill_L5, if_neg (by omega), qguard_pos ⟨h1, by omega⟩]
    simp only [qlet]
    rw [w32_id (x := v + 1) (by unfold InR; omega)]
    exact ih g _ (v + 1) (by omega) (by omega) (by omega) (hM.setI hx)
theorem sf_Arrays_fill {r1 N1 : Nat} {x2 : Int} {M : Mem} (hN : N1 ≤ 1000000) (hM : IM M) (hx : InR x2) : Ok (fun r => IM r) (t_Arrays_fill M r1 N1 x2) := sf_Arrays_fill_L5 hN hx N1 FU M 0 (by omega) (by omega) (Nat.lt_of_le_of_lt hN (by decide)) hM
theorem sf_Town_clear {k0 : Nat} {M : Mem}   (h_M : IM M)   : Ok (fun r => IM r) (t_Town_clear M k0) := by
  unfold t_Town_clear
  refine ok_let (fun M1 e_M1 => ?_)
  have h_M1 : IM M1 := by rw [e_M1]; exact IM.setI h_M (inr_c rfl)
  clear e_M1
  refine ok_let (fun M2 e_M2 => ?_)
  have h_M2 : IM M2 := by rw [e_M2]; exact IM.setI h_M1 (inr_c rfl)
  clear e_M2
  refine ok_let (fun M3 e_M3 => ?_)
  have h_M3 : IM M3 := by rw [e_M3]; exact IM.setI h_M2 (inr_c rfl)
  clear e_M3
  refine ok_let (fun M4 e_M4 => ?_)
  have h_M4 : IM M4 := by rw [e_M4]; exact IM.setI h_M3 (inr_c rfl)
  clear e_M4
  refine ok_let (fun M5 e_M5 => ?_)
  have h_M5 : IM M5 := by rw [e_M5]; exact IM.setI h_M4 (inr_c rfl)
  clear e_M5
  refine ok_let (fun M6 e_M6 => ?_)
  have h_M6 : IM M6 := by rw [e_M6]; exact IM.setI h_M5 (inr_c rfl)
  clear e_M6
  refine ok_let (fun M7 e_M7 => ?_)
  have h_M7 : IM M7 := by rw [e_M7]; exact IM.setL h_M6
  clear e_M7
  refine ok_let (fun M8 e_M8 => ?_)
  have h_M8 : IM M8 := by rw [e_M8]; exact IM.setL h_M7
  clear e_M8
  refine ok_let (fun q9 e_q9 => ?_)
  have h_q9 : (fun r => IM r) q9 := by rw [e_q9]; exact (sf_Formula_clear  h_M8  )
  clear e_q9
  refine ok_let (fun q11 e_q11 => ?_)
  have h_q11 : (fun r => IM r) q11 := by rw [e_q11]; exact (sf_Formula_clear  h_q9  )
  clear e_q11
  refine ok_bind (Q := fun r => IM r) (sf_Arrays_fill (by decide) h_q11 (inr_c rfl) ) (fun q13 h_q13 => ?_)
  exact ok_some h_q13
theorem sf_WF_put {r1 : Nat} {N1 : Nat} {x2 : Int} {x3 : Int} {M : Mem} (h_M : IM M) (h_x2 : InR x2) (h_x3 : InR x3) : (fun r => IM r) (t_WF_put M r1 N1 x2 x3) := by
  show Pl (fun r => IM r) (t_WF_put M r1 N1 x2 x3)
  unfold t_WF_put
  refine pl_ite (fun c_1 => ?_) (fun c_1 => ?_)
  · exact h_M
  · refine pl_ite (fun c_2 => ?_) (fun c_2 => ?_)
    · exact h_M
    · refine pl_let (fun M3 e_M3 => ?_)
      have h_M3 : IM M3 := by rw [e_M3]; exact IM.setI h_M h_x3
      clear e_M3
      exact h_M3
theorem sf_WF_look {r1 : Nat} {N1 : Nat} {x2 : Int} {M : Mem} (h_M : IM M) (h_x2 : InR x2) : (fun r => InR r) (t_WF_look M r1 N1 x2) := by
  show Pl (fun r => InR r) (t_WF_look M r1 N1 x2)
  unfold t_WF_look
  refine pl_ite (fun c_1 => ?_) (fun c_1 => ?_)
  · exact (inr_c rfl)
  · refine pl_ite (fun c_2 => ?_) (fun c_2 => ?_)
    · exact (inr_c rfl)
    · exact (h_M _ _)
theorem sf_Town_ownerOf {k0 : Nat} {x1 : Int} {M : Mem} (h_M : IM M) (h_x1 : InR x1) : (fun r => InR r) (t_Town_ownerOf M k0 x1) := by
  show Pl (fun r => InR r) (t_Town_ownerOf M k0 x1)
  unfold t_Town_ownerOf
  refine pl_let (fun q1 e_q1 => ?_)
  have h_q1 : (fun r => InR r) q1 := by rw [e_q1]; exact (sf_WF_look  h_M h_x1 )
  clear e_q1
  exact h_q1
theorem sf_Town_settle_L155 {k0 : Nat} {bk23 : Mem → Int → Option (Mem)} {bk33 : Mem → Int → Int → Option (Mem)} {v1_ : Int} {v2_ : Int} {v3_ : Int} {v5_ : Int} {v6_ : Int} {M : Mem} {d_bk33_0 : Int} {c_bk33 : Int} (hbk33 : ∀ (a0_ : Mem) (a1_ : Int) (a2_ : Int), IM a0_ → InR a1_ → InR a2_ → c_bk33 < a2_ ∧ a1_ = d_bk33_0 → Ok (fun r => IM r) (bk33 a0_ a1_ a2_)) (h_M : IM M) (h_v1_ : InR v1_) (h_v2_ : InR v2_) (h_v3_ : InR v3_) (h_v5_ : InR v5_) (h_v6_ : InR v6_) (g_0 : c_bk33 ≤ v2_ ∧ v2_ ≤ 2147483646) (g_1 : v1_ = d_bk33_0) : Ok (fun r => IM r) (t_Town_settle_L155 k0 bk23 bk33 M v1_ v2_ v3_ v5_ v6_) := by
  unfold t_Town_settle_L155
  have r_v2_ : -2147483648 ≤ v2_ ∧ v2_ ≤ 2147483647 := h_v2_
  refine ok_let (fun q25 e_q25 => ?_)
  have h_q25 : (fun r => IM r) q25 := by rw [e_q25]; exact (sf_WF_put  h_M h_v5_ h_v6_ )
  clear e_q25
  refine ok_let (fun q27 e_q27 => ?_)
  have h_q27 : (fun r => InR r) q27 := by rw [e_q27]; exact (sf_Town_ownerOf  h_q25 h_v3_ )
  clear e_q27
  refine ok_let (fun q29 e_q29 => ?_)
  have h_q29 : (fun r => InR r) q29 := by rw [e_q29]; exact (sf_WF_look  h_q25 h_q27 )
  clear e_q29
  refine ok_let (fun q31 e_q31 => ?_)
  have h_q31 : (fun r => IM r) q31 := by rw [e_q31]; exact (sf_WF_put  h_q25 h_q27 (inr_w32 _) )
  clear e_q31
  have w_1 : (w32 (v2_ + 1)) = v2_ + (1) := w32_id (by unfold InR; omega)
  exact hbk33 _ _ _  h_q31 h_v1_ (inr_w32 _) (by omega)
theorem sf_Town_settle_L132 {k0 : Nat} {bk23 : Mem → Int → Option (Mem)} {bk33 : Mem → Int → Int → Option (Mem)} {v1_ : Int} {v2_ : Int} {v3_ : Int} {v5_ : Int} {v6_ : Int} {M : Mem} {d_bk33_0 : Int} {c_bk33 : Int} (hbk33 : ∀ (a0_ : Mem) (a1_ : Int) (a2_ : Int), IM a0_ → InR a1_ → InR a2_ → c_bk33 < a2_ ∧ a1_ = d_bk33_0 → Ok (fun r => IM r) (bk33 a0_ a1_ a2_)) (h_M : IM M) (h_v1_ : InR v1_) (h_v2_ : InR v2_) (h_v3_ : InR v3_) (h_v5_ : InR v5_) (h_v6_ : InR v6_) (g_0 : c_bk33 ≤ v2_ ∧ v2_ ≤ 2147483646) (g_1 : v1_ = d_bk33_0) : Ok (fun r => IM r) (t_Town_settle_L132 k0 bk23 bk33 M v1_ v2_ v3_ v5_ v6_) := by
  unfold t_Town_settle_L132
  have r_v2_ : -2147483648 ≤ v2_ ∧ v2_ ≤ 2147483647 := h_v2_
  refine ok_let (fun q22 e_q22 => ?_)
  have h_q22 : (fun r => IM r) q22 := by rw [e_q22]; exact (sf_WF_put  h_M h_v5_ h_v6_ )
  clear e_q22
  refine ok_ite (fun c_1 => ?_) (fun c_1 => ?_)
  · exact (sf_Town_settle_L155 (c_bk33 := c_bk33) (d_bk33_0 := d_bk33_0) (fun a0_ a1_ a2_ h0_ h1_ h2_ z_ => hbk33 a0_ a1_ a2_ h0_ h1_ h2_ (by omega)) h_q22 h_v1_ h_v2_ h_v3_ (inr_w32 _) (inr_c rfl) (by omega) (by omega))
  · exact (sf_Town_settle_L155 (c_bk33 := c_bk33) (d_bk33_0 := d_bk33_0) (fun a0_ a1_ a2_ h0_ h1_ h2_ z_ => hbk33 a0_ a1_ a2_ h0_ h1_ h2_ (by omega)) h_q22 h_v1_ h_v2_ h_v3_ (inr_w32 _) (inr_w32 _) (by omega) (by omega))
theorem sf_Town_settle_L100 {k0 : Nat} {bk23 : Mem → Int → Option (Mem)} {bk33 : Mem → Int → Int → Option (Mem)} {v1_ : Int} {v2_ : Int} {v3_ : Int} {v5_ : Int} {v6_ : Int} {M : Mem} {d_bk33_0 : Int} {c_bk33 : Int} (hbk33 : ∀ (a0_ : Mem) (a1_ : Int) (a2_ : Int), IM a0_ → InR a1_ → InR a2_ → c_bk33 < a2_ ∧ a1_ = d_bk33_0 → Ok (fun r => IM r) (bk33 a0_ a1_ a2_)) (h_M : IM M) (h_v1_ : InR v1_) (h_v2_ : InR v2_) (h_v3_ : InR v3_) (h_v5_ : InR v5_) (h_v6_ : InR v6_) (g_0 : c_bk33 ≤ v2_ ∧ v2_ ≤ 2147483646) (g_1 : v1_ = d_bk33_0) : Ok (fun r => IM r) (t_Town_settle_L100 k0 bk23 bk33 M v1_ v2_ v3_ v5_ v6_) := by
  unfold t_Town_settle_L100
  have r_v2_ : -2147483648 ≤ v2_ ∧ v2_ ≤ 2147483647 := h_v2_
  refine ok_let (fun q17 e_q17 => ?_)
  have h_q17 : (fun r => IM r) q17 := by rw [e_q17]; exact (sf_WF_put  h_M h_v5_ h_v6_ )
  clear e_q17
  refine ok_ite (fun c_1 => ?_) (fun c_1 => ?_)
  · exact (sf_Town_settle_L132 (c_bk33 := c_bk33) (d_bk33_0 := d_bk33_0) (fun a0_ a1_ a2_ h0_ h1_ h2_ z_ => hbk33 a0_ a1_ a2_ h0_ h1_ h2_ (by omega)) h_q17 h_v1_ h_v2_ h_v3_ (inr_w32 _) (inr_c rfl) (by omega) (by omega))
  · exact (sf_Town_settle_L132 (c_bk33 := c_bk33) (d_bk33_0 := d_bk33_0) (fun a0_ a1_ a2_ h0_ h1_ h2_ z_ => hbk33 a0_ a1_ a2_ h0_ h1_ h2_ (by omega)) h_q17 h_v1_ h_v2_ h_v3_ (inr_w32 _) (inr_w32 _) (by omega) (by omega))
theorem sf_Town_settle_L71 {k0 : Nat} {bk23 : Mem → Int → Option (Mem)} {bk33 : Mem → Int → Int → Option (Mem)} {v1_ : Int} {v2_ : Int} {v3_ : Int} {v5_ : Int} {v6_ : Int} {M : Mem} {d_bk33_0 : Int} {c_bk33 : Int} (hbk33 : ∀ (a0_ : Mem) (a1_ : Int) (a2_ : Int), IM a0_ → InR a1_ → InR a2_ → c_bk33 < a2_ ∧ a1_ = d_bk33_0 → Ok (fun r => IM r) (bk33 a0_ a1_ a2_)) (h_M : IM M) (h_v1_ : InR v1_) (h_v2_ : InR v2_) (h_v3_ : InR v3_) (h_v5_ : InR v5_) (h_v6_ : InR v6_) (g_0 : c_bk33 ≤ v2_ ∧ v2_ ≤ 2147483646) (g_1 : v1_ = d_bk33_0) : Ok (fun r => IM r) (t_Town_settle_L71 k0 bk23 bk33 M v1_ v2_ v3_ v5_ v6_) := by
  unfold t_Town_settle_L71
  have r_v2_ : -2147483648 ≤ v2_ ∧ v2_ ≤ 2147483647 := h_v2_
  refine ok_let (fun q13 e_q13 => ?_)
  have h_q13 : (fun r => IM r) q13 := by rw [e_q13]; exact (sf_WF_put  h_M h_v5_ h_v6_ )
  clear e_q13
  refine ok_ite (fun c_1 => ?_) (fun c_1 => ?_)
  · exact (sf_Town_settle_L100 (c_bk33 := c_bk33) (d_bk33_0 := d_bk33_0) (fun a0_ a1_ a2_ h0_ h1_ h2_ z_ => hbk33 a0_ a1_ a2_ h0_ h1_ h2_ (by omega)) h_q13 h_v1_ h_v2_ h_v3_ (inr_w32 _) (inr_c rfl) (by omega) (by omega))
  · have f_2 : v2_ ≤ 2147483646 := by have b_ : (w32 ((q13.1 k0 11) - 1)) ≤ 2147483647 := ((inr_w32 _)).2; omega
    exact (sf_Town_settle_L100 (c_bk33 := c_bk33) (d_bk33_0 := d_bk33_0) (fun a0_ a1_ a2_ h0_ h1_ h2_ z_ => hbk33 a0_ a1_ a2_ h0_ h1_ h2_ (by omega)) h_q13 h_v1_ h_v2_ h_v3_ (inr_w32 _) (inr_w32 _) (by omega) (by omega))
theorem sf_Town_settle_L33 {k0 : Nat} {bk23 : Mem → Int → Option (Mem)} {c_bk23 : Int} (hbk23 : ∀ (a0_ : Mem) (a1_ : Int), IM a0_ → InR a1_ → c_bk23 < a1_ → Ok (fun r => IM r) (bk23 a0_ a1_))  : ∀ (fu : Nat) (M : Mem) (v1_ : Int) (v2_ : Int), IM M → InR v1_ → InR v2_ → c_bk23 ≤ v1_ ∧ v1_ ≤ 2147483646 → 2147483648 - v2_ < (fu : Int) → Ok (fun r => IM r) (t_Town_settle_L33 k0 bk23 fu M v1_ v2_) := by
  intro fu
  induction fu with
  | zero => intro M v1_ v2_ h_M h_v1_ h_v2_ g_0 hf; have r_ := (h_v2_ : InR v2_); unfold InR at r_; exact absurd hf (by omega)
  | succ fu ih =>
    intro M v1_ v2_ h_M h_v1_ h_v2_ g_0 hf
    rw [t_Town_settle_L33]
    have r_v1_ : -2147483648 ≤ v1_ ∧ v1_ ≤ 2147483647 := h_v1_
    have r_v2_ : -2147483648 ≤ v2_ ∧ v2_ ≤ 2147483647 := h_v2_
    refine ok_ite (fun c_1 => ?_) (fun c_1 => ?_)
    · have w_2 : (w32 (v1_ + 1)) = v1_ + (1) := w32_id (by unfold InR; omega)
      exact hbk23 _ _  h_M (inr_w32 _) (by omega)
    · have f_3 : v2_ ≤ 2147483646 := by have b_ : (M.1 k0 11) ≤ 2147483647 := ((h_M _ _)).2; omega
      refine ok_ite (fun c_4 => ?_) (fun c_4 => ?_)
      · exact (sf_Town_settle_L71 (c_bk33 := v2_) (d_bk33_0 := v1_) (fun a0_ a1_ a2_ h0_ h1_ h2_ z_ => ih a0_ a1_ a2_ h0_ h1_ h2_ (by omega) (by omega)) h_M h_v1_ h_v2_ (inr_w32 _) (inr_w32 _) (inr_c rfl) (by omega) (by omega))
      · exact (sf_Town_settle_L71 (c_bk33 := v2_) (d_bk33_0 := v1_) (fun a0_ a1_ a2_ h0_ h1_ h2_ z_ => ih a0_ a1_ a2_ h0_ h1_ h2_ (by omega) (by omega)) h_M h_v1_ h_v2_ (inr_w32 _) (inr_w32 _) (inr_w32 _) (by omega) (by omega))
theorem sf_Town_settle_L23 {k0 : Nat}    : ∀ (fu : Nat) (M : Mem) (v1_ : Int), IM M → InR v1_ → 2147483648 - v1_ < (fu : Int) → Ok (fun r => IM r) (t_Town_settle_L23 k0 fu M v1_) := by
  intro fu
  induction fu with
  | zero => intro M v1_ h_M h_v1_ hf; have r_ := (h_v1_ : InR v1_); unfold InR at r_; exact absurd hf (by omega)
  | succ fu ih =>
    intro M v1_ h_M h_v1_ hf
    rw [t_Town_settle_L23]
    have r_v1_ : -2147483648 ≤ v1_ ∧ v1_ ≤ 2147483647 := h_v1_
    refine ok_ite (fun c_1 => ?_) (fun c_1 => ?_)
    · exact ok_some h_M
    · have f_2 : v1_ ≤ 2147483646 := by have b_ : (M.1 k0 12) ≤ 2147483647 := ((h_M _ _)).2; omega
      exact (sf_Town_settle_L33 (c_bk23 := v1_) (fun a0_ a1_ h0_ h1_ z_ => ih a0_ a1_ h0_ h1_ (by omega))  _ _ _ _ h_M h_v1_ (inr_c rfl) (by omega) (fu_up (inr_c rfl)))
theorem sf_Town_settle {k0 : Nat} {M : Mem}   (h_M : IM M)   : Ok (fun r => IM r) (t_Town_settle M k0) := by
  unfold t_Town_settle
  refine ok_let (fun M3 e_M3 => ?_)
  have h_M3 : IM M3 := by rw [e_M3]; exact IM.setI h_M (inr_w32 _)
  clear e_M3
  refine ok_bind (Q := fun r => IM r) (sf_Arrays_fill (by decide) h_M3 (inr_c rfl) ) (fun q4 h_q4 => ?_)
  exact (sf_Town_settle_L23   _ _ _ h_q4 (inr_c rfl) (fu_up (inr_c rfl)))
theorem sf_WF_copyRow {r1 N1 r2 N2 : Nat} {M : Mem} (hM : IM M) : (fun r => IM r) (t_WF_copyRow M r1 N1 r2 N2) := hM.cpy
theorem sf_Scene_begin {k0 : Nat} {k1 : Nat} {M : Mem}   (h_M : IM M)   : Ok (fun r => IM r) (t_Scene_begin M k0 k1) := by
  unfold t_Scene_begin
  refine ok_let (fun q1 e_q1 => ?_)
  have h_q1 : (fun r => IM r) q1 := by rw [e_q1]; exact (sf_WF_copyRow  h_M  )
  clear e_q1
  refine ok_let (fun q3 e_q3 => ?_)
  have h_q3 : (fun r => IM r) q3 := by rw [e_q3]; exact (sf_WF_copyRow  h_q1  )
  clear e_q3
  refine ok_bind (Q := fun r => IM r) (sf_Arrays_fill (by decide) h_q3 (inr_c rfl) ) (fun q5 h_q5 => ?_)
  refine ok_bind (Q := fun r => IM r) (sf_Arrays_fill (by decide) h_q5 (inr_c rfl) ) (fun q7 h_q7 => ?_)
  refine ok_let (fun M9 e_M9 => ?_)
  have h_M9 : IM M9 := by rw [e_M9]; exact IM.setL h_q7
  clear e_M9
  refine ok_let (fun M10 e_M10 => ?_)
  have h_M10 : IM M10 := by rw [e_M10]; exact IM.setL h_M9
  clear e_M10
  refine ok_let (fun M11 e_M11 => ?_)
  have h_M11 : IM M11 := by rw [e_M11]; exact IM.setL h_M10
  clear e_M11
  exact ok_some h_M11
theorem sf_Chronicle_begin {k0 : Nat} {k1 : Nat} {M : Mem} (h_M : IM M)  : (fun r => IM r) (t_Chronicle_begin M k0 k1) := by
  show Pl (fun r => IM r) (t_Chronicle_begin M k0 k1)
  unfold t_Chronicle_begin
  refine pl_let (fun M1 e_M1 => ?_)
  have h_M1 : IM M1 := by rw [e_M1]; exact IM.setI h_M (inr_c rfl)
  clear e_M1
  refine pl_let (fun M2 e_M2 => ?_)
  have h_M2 : IM M2 := by rw [e_M2]; exact IM.setI h_M1 (inr_c rfl)
  clear e_M2
  refine pl_let (fun M4 e_M4 => ?_)
  have h_M4 : IM M4 := by rw [e_M4]; exact IM.setL h_M2
  clear e_M4
  exact h_M4
theorem sf_Past_clear  {M : Mem} (h_M : IM M)  : (fun r => IM r) (t_Past_clear M) := by
  show Pl (fun r => IM r) (t_Past_clear M)
  unfold t_Past_clear
  refine pl_let (fun M1 e_M1 => ?_)
  have h_M1 : IM M1 := by rw [e_M1]; exact IM.setI h_M (inr_c rfl)
  clear e_M1
  exact h_M1
theorem sf_Notes_clear  {M : Mem} (h_M : IM M)  : (fun r => IM r) (t_Notes_clear M) := by
  show Pl (fun r => IM r) (t_Notes_clear M)
  unfold t_Notes_clear
  refine pl_let (fun M1 e_M1 => ?_)
  have h_M1 : IM M1 := by rw [e_M1]; exact IM.setI h_M (inr_c rfl)
  clear e_M1
  refine pl_let (fun M2 e_M2 => ?_)
  have h_M2 : IM M2 := by rw [e_M2]; exact IM.setI h_M1 (inr_c rfl)
  clear e_M2
  exact h_M2
theorem sf_WF_startAnew  {M : Mem}   (h_M : IM M)   : Ok (fun r => IM r) (t_WF_startAnew M) := by
  unfold t_WF_startAnew
  refine ok_bind (Q := fun r => IM r) (sf_Scene_begin  h_M  ) (fun q2 h_q2 => ?_)
  refine ok_let (fun q5 e_q5 => ?_)
  have h_q5 : (fun r => IM r) q5 := by rw [e_q5]; exact (sf_Chronicle_begin  h_q2  )
  clear e_q5
  refine ok_let (fun M7 e_M7 => ?_)
  have h_M7 : IM M7 := by rw [e_M7]; exact IM.setI h_q5 (inr_c rfl)
  clear e_M7
  refine ok_let (fun q8 e_q8 => ?_)
  have h_q8 : (fun r => IM r) q8 := by rw [e_q8]; exact (sf_Past_clear  h_M7  )
  clear e_q8
  refine ok_let (fun q10 e_q10 => ?_)
  have h_q10 : (fun r => IM r) q10 := by rw [e_q10]; exact (sf_Notes_clear  h_q8  )
  clear e_q10
  refine ok_let (fun M12 e_M12 => ?_)
  have h_M12 : IM M12 := by rw [e_M12]; exact IM.setI h_q10 (inr_c rfl)
  clear e_M12
  exact ok_some h_M12
theorem sf_WF_feedFour_L3 {x1 : Int}   (h_x1 : InR x1) : ∀ (fu : Nat) (M : Mem) (v2_ : Int), IM M → InR v2_ → v2_ + 2147483649 < (fu : Int) → Ok (fun r => IM r) (t_WF_feedFour_L3 x1 fu M v2_) := by
  intro fu
  induction fu with
  | zero => intro M v2_ h_M h_v2_ hf; have r_ := (h_v2_ : InR v2_); unfold InR at r_; exact absurd hf (by omega)
  | succ fu ih =>
    intro M v2_ h_M h_v2_ hf
    rw [t_WF_feedFour_L3]
    have r_v2_ : -2147483648 ≤ v2_ ∧ v2_ ≤ 2147483647 := h_v2_
    refine ok_ite (fun c_1 => ?_) (fun c_1 => ?_)
    · exact ok_some h_M
    · have f_2 : 0 ≤ v2_ := by omega
      refine ok_let (fun q3 e_q3 => ?_)
      have h_q3 : (fun r => IM r) q3 := by rw [e_q3]; exact (sf_WF_put  h_M (h_M _ _) (inrq_and) )
      clear e_q3
      refine ok_let (fun M6 e_M6 => ?_)
      have h_M6 : IM M6 := by rw [e_M6]; exact IM.setI h_q3 (inr_w32 _)
      clear e_M6
      have w_3 : (w32 (v2_ + (-8))) = v2_ + (-8) := w32_id (by unfold InR; omega)
      exact (ih _ _ h_M6 (inr_w32 _) (by omega))
theorem sf_WF_feedFour {x1 : Int} {M : Mem}   (h_M : IM M) (h_x1 : InR x1)  : Ok (fun r => IM r) (t_WF_feedFour M x1) := by
  unfold t_WF_feedFour
  exact (sf_WF_feedFour_L3  h_x1 _ _ _ h_M (inr_c rfl) (fu_dn (inr_c rfl)))
theorem sf_WF_feed {x1 : Int} {x2 : Int} {x3 : Int} {x4 : Int} {x5 : Int} {M : Mem}   (h_M : IM M) (h_x1 : InR x1) (h_x2 : InR x2) (h_x3 : InR x3) (h_x4 : InR x4) (h_x5 : InR x5)  : Ok (fun r => IM r.1 ∧ InR r.2) (t_WF_feed M x1 x2 x3 x4 x5) := by
  unfold t_WF_feed
  refine ok_ite (fun c_1 => ?_) (fun c_1 => ?_)
  · refine ok_bind (Q := fun r => IM r) (sf_WF_feedFour  h_M h_x1 ) (fun q3 h_q3 => ?_)
    refine ok_bind (Q := fun r => IM r) (sf_WF_feedFour  h_q3 h_x2 ) (fun q5 h_q5 => ?_)
    refine ok_bind (Q := fun r => IM r) (sf_WF_feedFour  h_q5 h_x3 ) (fun q7 h_q7 => ?_)
    refine ok_bind (Q := fun r => IM r) (sf_WF_feedFour  h_q7 h_x4 ) (fun q9 h_q9 => ?_)
    refine ok_bind (Q := fun r => IM r) (sf_WF_feedFour  h_q9 h_x5 ) (fun q11 h_q11 => ?_)
    exact ok_some ⟨h_q11, (h_q11 _ _)⟩
  · exact ok_some ⟨h_M, (inr_c rfl)⟩
theorem sf_Tokens_isLetter {x1 : Int} {M : Mem} (h_M : IM M) (h_x1 : InR x1) : (fun r => InR r) (t_Tokens_isLetter M x1) := by
  show Pl (fun r => InR r) (t_Tokens_isLetter M x1)
  unfold t_Tokens_isLetter
  refine pl_ite (fun c_1 => ?_) (fun c_1 => ?_)
  · exact (inr_c rfl)
  · refine pl_ite (fun c_2 => ?_) (fun c_2 => ?_)
    · exact (inr_c rfl)
    · exact (inr_c rfl)
theorem sf_Tokens_isWord_L3 {x1 x3 x4 : Int} {r2 N2 : Nat} (h0 : 0 ≤ x1) (h1 : x1 ≤ 126) : ∀ (n fu : Nat) (M : Mem) (v : Int), v + (n : Int) = 126 → 0 ≤ v → n < fu → IM M → Ok (fun r => InR r) (t_Tokens_isWord_L3 x1 r2 N2 x3 x4 fu M v) := by
  intro n
  induction n with
  | zero =>
    intro fu M v g0 g1 g2 hM
    obtain ⟨g, rfl⟩ : ∃ g, fu = g + 1 := ⟨fu - 1, by omega⟩
    rw [t_Tokens_isWord_L3, w32_id (x := x1 + v) (by unfold InR; omega)]
    refine ok_ite (fun c => ok_some (inr_c rfl)) (fun c => ?_)
    rw [if_pos (by omega)]
    exact ok_some (inr_c rfl)
  | succ n ih =>
    intro fu M v g0 g1 g2 hM
    obtain ⟨g, rfl⟩ : ∃ g, fu = g + 1 := ⟨fu - 1, by omega⟩
    rw [t_Tokens_isWord_L3, w32_id (x := x1 + v) (by unfold InR; omega), w32_id (x := v + 1) (by unfold InR; omega)]
    refine ok_ite (fun c => ok_some (inr_c rfl)) (fun c => ?_)
    refine ok_ite (fun c => ok_some (inr_c rfl)) (fun c => ?_)
    refine ok_guard ⟨by omega, by omega⟩ ?_
    refine ok_let (fun q _ => ?_)
    refine ok_ite (fun c => ?_) (fun c => ok_some (inr_c rfl))
    exact ih g _ (v + 1) (by omega) (by omega) (by omega) hM
theorem sf_Tokens_isWord {x1 x3 x4 : Int} {r2 N2 : Nat} {M : Mem} (h0 : 0 ≤ x1) (h1 : x1 ≤ 126) (hM : IM M) : Ok (fun r => InR r) (t_Tokens_isWord M x1 r2 N2 x3 x4) := sf_Tokens_isWord_L3 h0 h1 126 FU M 0 (by omega) (by omega) (fu_big (by omega)) hM
theorem sf_Tokens_wordOf_L8 {x2 x3 : Int} {r1 N1 : Nat} : ∀ (n fu : Nat) (M : Mem) (v3 v4 v5 : Int), v5 + (n : Int) = 126 → 0 ≤ v4 → v4 ≤ 126 → 0 ≤ v5 → InR v3 → n < fu → IM M → Ok (fun r => InR r) (t_Tokens_wordOf_L8 r1 N1 x2 x3 fu M v3 v4 v5) := by
  intro n
  induction n with
  | zero =>
    intro fu M v3 v4 v5 g0 g1 g2 g3 hv g4 hM
    obtain ⟨g, rfl⟩ : ∃ g, fu = g + 1 := ⟨fu - 1, by omega⟩
    rw [t_Tokens_wordOf_L8, if_pos (by omega)]
    exact ok_some (inr_c rfl)
  | succ n ih =>
    intro fu M v3 v4 v5 g0 g1 g2 g3 hv g4 hM
    obtain ⟨g, rfl⟩ : ∃ g, fu = g + 1 := ⟨fu - 1, by omega⟩
    rw [t_Tokens_wordOf_L8, if_neg (by omega)]
    refine ok_guard ⟨by omega, by omega⟩ ?_
    unfold t_Tokens_wordOf_L52 t_Tokens_wordOf_L61
    have e : w32 (v5 + 1) = v5 + 1 := w32_id (by unfold InR; omega)
    rw [e]
    have k1 : Ok (fun r => InR r) (t_Tokens_wordOf_L8 r1 N1 x2 x3 g M (w32 (v3 + 1)) (v5 + 1) (v5 + 1)) := ih g M _ _ _ (by omega) (by omega) (by omega) (by omega) (inr_w32 _) (by omega) hM
    refine ok_ite (fun c => ?_) (fun c => ?_)
    · refine ok_ite (fun c => ?_) (fun c => ?_)
      · refine ok_bind (sf_Tokens_isWord g1 g2 hM) (fun q _ => ?_)
        exact ok_ite (fun _ => k1) (fun _ => ok_some hv)
      · exact k1
    · exact ih g M _ _ _ (by omega) (by omega) (by omega) (by omega) hv (by omega) hM
theorem sf_Tokens_wordOf {r1 N1 : Nat} {x2 x3 : Int} {M : Mem} (hM : IM M) (hx2 : InR x2) (hx3 : InR x3) : Ok (fun r => InR r) (t_Tokens_wordOf M r1 N1 x2 x3) := sf_Tokens_wordOf_L8 126 FU M 0 0 0 (by omega) (by omega) (by omega) (by omega) (inr_c rfl) (fu_big (by omega)) hM
theorem sf_Tokens_add {x1 : Int} {x2 : Int} {x3 : Int} {M : Mem} (h_M : IM M) (h_x1 : InR x1) (h_x2 : InR x2) (h_x3 : InR x3) : (fun r => IM r) (t_Tokens_add M x1 x2 x3) := by
  show Pl (fun r => IM r) (t_Tokens_add M x1 x2 x3)
  unfold t_Tokens_add
  refine pl_let (fun q2 e_q2 => ?_)
  have h_q2 : (fun r => IM r) q2 := by rw [e_q2]; exact (sf_WF_put  h_M (h_M _ _) h_x1 )
  clear e_q2
  refine pl_let (fun q5 e_q5 => ?_)
  have h_q5 : (fun r => IM r) q5 := by rw [e_q5]; exact (sf_WF_put  h_q2 (h_q2 _ _) h_x2 )
  clear e_q5
  refine pl_let (fun q8 e_q8 => ?_)
  have h_q8 : (fun r => IM r) q8 := by rw [e_q8]; exact (sf_WF_put  h_q5 (h_q5 _ _) h_x3 )
  clear e_q8
  refine pl_let (fun M11 e_M11 => ?_)
  have h_M11 : IM M11 := by rw [e_M11]; exact IM.setI h_q8 (inr_w32 _)
  clear e_M11
  exact h_M11
theorem sf_Tokens_scanWord_L58 {r1 : Nat} {N1 : Nat} {x2 : Int} {x3 : Int} {bk6 : Mem → Int → Int → Option (Mem × Int)} {v4_ : Int} {v5_ : Int} {M : Mem} {c_bk6 : Int} (hbk6 : ∀ (a0_ : Mem) (a1_ : Int) (a2_ : Int), IM a0_ → InR a1_ → InR a2_ → c_bk6 < a2_ → Ok (fun r => IM r.1 ∧ InR r.2) (bk6 a0_ a1_ a2_)) (h_M : IM M) (h_x2 : InR x2) (h_x3 : InR x3) (h_v4_ : InR v4_) (h_v5_ : InR v5_) (g_0 : c_bk6 ≤ v5_ ∧ v5_ ≤ 2147483646) : Ok (fun r => IM r.1 ∧ InR r.2) (t_Tokens_scanWord_L58 r1 N1 x2 x3 bk6 M v4_ v5_) := by
  unfold t_Tokens_scanWord_L58
  have r_v5_ : -2147483648 ≤ v5_ ∧ v5_ ≤ 2147483647 := h_v5_
  have w_1 : (w32 (v5_ + 1)) = v5_ + (1) := w32_id (by unfold InR; omega)
  exact hbk6 _ _ _  h_M h_v4_ (inr_w32 _) (by omega)
theorem sf_Tokens_scanWord_L108 {r1 : Nat} {N1 : Nat} {x2 : Int} {x3 : Int} {v1_ : Int} {v2_ : Int} {v4_ : Int} {M : Mem}   (h_M : IM M) (h_x2 : InR x2) (h_x3 : InR x3) (h_v1_ : InR v1_) (h_v2_ : InR v2_) (h_v4_ : InR v4_)  : Ok (fun r => IM r.1 ∧ InR r.2) (t_Tokens_scanWord_L108 r1 N1 x2 x3 M v1_ v2_ v4_) := by
  unfold t_Tokens_scanWord_L108
  refine ok_let (fun q16 e_q16 => ?_)
  have h_q16 : (fun r => IM r) q16 := by rw [e_q16]; exact (sf_Tokens_add  h_M h_v4_ h_v1_ h_x2 )
  clear e_q16
  exact ok_some ⟨h_q16, h_v2_⟩
theorem sf_Tokens_scanWord_L64 {r1 : Nat} {N1 : Nat} {x2 : Int} {x3 : Int} {v3_ : Int} {v4_ : Int} {M : Mem}   (h_M : IM M) (h_x2 : InR x2) (h_x3 : InR x3) (h_v3_ : InR v3_) (h_v4_ : InR v4_)  : Ok (fun r => IM r.1 ∧ InR r.2) (t_Tokens_scanWord_L64 r1 N1 x2 x3 M v3_ v4_) := by
  unfold t_Tokens_scanWord_L64
  refine ok_bind (Q := fun r => InR r) (sf_Tokens_wordOf  h_M h_x2 (inr_w32 _) ) (fun q10 h_q10 => ?_)
  refine ok_ite (fun c_1 => ?_) (fun c_1 => ?_)
  · refine ok_ite (fun c_2 => ?_) (fun c_2 => ?_)
    · exact (sf_Tokens_scanWord_L108  h_M h_x2 h_x3 h_v3_ h_v4_ (inr_c rfl) )
    · exact (sf_Tokens_scanWord_L108  h_M h_x2 h_x3 h_v3_ h_v4_ (inr_c rfl) )
  · refine ok_let (fun q14 e_q14 => ?_)
    have h_q14 : (fun r => IM r) q14 := by rw [e_q14]; exact (sf_Tokens_add  h_M h_q10 (inr_c rfl) h_x2 )
    clear e_q14
    exact ok_some ⟨h_q14, h_v4_⟩
theorem sf_Tokens_scanWord_L6 {r1 : Nat} {N1 : Nat} {x2 : Int} {x3 : Int}   (h_x2 : InR x2) (h_x3 : InR x3) : ∀ (fu : Nat) (M : Mem) (v4_ : Int) (v5_ : Int), IM M → InR v4_ → InR v5_ → 2147483648 - v5_ < (fu : Int) → Ok (fun r => IM r.1 ∧ InR r.2) (t_Tokens_scanWord_L6 r1 N1 x2 x3 fu M v4_ v5_) := by
  intro fu
  induction fu with
  | zero => intro M v4_ v5_ h_M h_v4_ h_v5_ hf; have r_ := (h_v5_ : InR v5_); unfold InR at r_; exact absurd hf (by omega)
  | succ fu ih =>
    intro M v4_ v5_ h_M h_v4_ h_v5_ hf
    rw [t_Tokens_scanWord_L6]
    have r_v5_ : -2147483648 ≤ v5_ ∧ v5_ ≤ 2147483647 := h_v5_
    refine ok_ite (fun c_1 => ?_) (fun c_1 => ?_)
    · exact (sf_Tokens_scanWord_L64  h_M h_x2 h_x3 h_v4_ h_v5_ )
    · have f_2 : v5_ ≤ 2147483646 := by have b_ : x3 ≤ 2147483647 := (h_x3).2; omega
      refine ok_let (fun q2 e_q2 => ?_)
      have h_q2 : (fun r => InR r) q2 := by rw [e_q2]; exact (sf_WF_look  h_M h_v5_ )
      clear e_q2
      refine ok_let (fun q4 e_q4 => ?_)
      have h_q4 : (fun r => InR r) q4 := by rw [e_q4]; exact (sf_Tokens_isLetter  h_M h_q2 )
      clear e_q4
      refine ok_ite (fun c_3 => ?_) (fun c_3 => ?_)
      · exact (sf_Tokens_scanWord_L64  h_M h_x2 h_x3 h_v4_ h_v5_ )
      · refine ok_ite (fun c_4 => ?_) (fun c_4 => ?_)
        · exact (sf_Tokens_scanWord_L58 (c_bk6 := v5_) (fun a0_ a1_ a2_ h0_ h1_ h2_ z_ => ih a0_ a1_ a2_ h0_ h1_ h2_ (by omega)) h_M h_x2 h_x3 h_v4_ h_v5_ (by omega))
        · refine ok_let (fun q8 e_q8 => ?_)
          have h_q8 : (fun r => InR r) q8 := by rw [e_q8]; exact (sf_WF_look  h_M h_v5_ )
          clear e_q8
          exact (sf_Tokens_scanWord_L58 (c_bk6 := v5_) (fun a0_ a1_ a2_ h0_ h1_ h2_ z_ => ih a0_ a1_ a2_ h0_ h1_ h2_ (by omega)) h_M h_x2 h_x3 (inrq_or) h_v5_ (by omega))
theorem sf_Tokens_scanWord {r1 : Nat} {N1 : Nat} {x2 : Int} {x3 : Int} {M : Mem}   (h_M : IM M) (h_x2 : InR x2) (h_x3 : InR x3)  : Ok (fun r => IM r.1 ∧ InR r.2) (t_Tokens_scanWord M r1 N1 x2 x3) := by
  unfold t_Tokens_scanWord
  exact (sf_Tokens_scanWord_L6  h_x2 h_x3 _ _ _ _ h_M (inr_c rfl) h_x2 (fu_up h_x2))
theorem sf_Tokens_isDigit {x1 : Int} {M : Mem} (h_M : IM M) (h_x1 : InR x1) : (fun r => InR r) (t_Tokens_isDigit M x1) := by
  show Pl (fun r => InR r) (t_Tokens_isDigit M x1)
  unfold t_Tokens_isDigit
  refine pl_ite (fun c_1 => ?_) (fun c_1 => ?_)
  · exact (inr_c rfl)
  · refine pl_ite (fun c_2 => ?_) (fun c_2 => ?_)
    · exact (inr_c rfl)
    · exact (inr_c rfl)
theorem sf_Tokens_scanNumber_L52 {r1 : Nat} {N1 : Nat} {x2 : Int} {x3 : Int} {v2_ : Int} {v3_ : Int} {M : Mem}   (h_M : IM M) (h_x2 : InR x2) (h_x3 : InR x3) (h_v2_ : InR v2_) (h_v3_ : InR v3_)  : Ok (fun r => IM r.1 ∧ InR r.2) (t_Tokens_scanNumber_L52 r1 N1 x2 x3 M v2_ v3_) := by
  unfold t_Tokens_scanNumber_L52
  refine ok_let (fun q9 e_q9 => ?_)
  have h_q9 : (fun r => IM r) q9 := by rw [e_q9]; exact (sf_Tokens_add  h_M (inr_c rfl) h_v2_ h_x2 )
  clear e_q9
  exact ok_some ⟨h_q9, h_v3_⟩
theorem sf_Tokens_scanNumber_L6 {r1 : Nat} {N1 : Nat} {x2 : Int} {x3 : Int}   (h_x2 : InR x2) (h_x3 : InR x3) : ∀ (fu : Nat) (M : Mem) (v4_ : Int) (v5_ : Int), IM M → InR v4_ → InR v5_ → 2147483648 - v5_ < (fu : Int) → Ok (fun r => IM r.1 ∧ InR r.2) (t_Tokens_scanNumber_L6 r1 N1 x2 x3 fu M v4_ v5_) := by
  intro fu
  induction fu with
  | zero => intro M v4_ v5_ h_M h_v4_ h_v5_ hf; have r_ := (h_v5_ : InR v5_); unfold InR at r_; exact absurd hf (by omega)
  | succ fu ih =>
    intro M v4_ v5_ h_M h_v4_ h_v5_ hf
    rw [t_Tokens_scanNumber_L6]
    have r_v5_ : -2147483648 ≤ v5_ ∧ v5_ ≤ 2147483647 := h_v5_
    refine ok_ite (fun c_1 => ?_) (fun c_1 => ?_)
    · exact (sf_Tokens_scanNumber_L52  h_M h_x2 h_x3 h_v4_ h_v5_ )
    · have f_2 : v5_ ≤ 2147483646 := by have b_ : x3 ≤ 2147483647 := (h_x3).2; omega
      refine ok_let (fun q2 e_q2 => ?_)
      have h_q2 : (fun r => InR r) q2 := by rw [e_q2]; exact (sf_WF_look  h_M h_v5_ )
      clear e_q2
      refine ok_let (fun q4 e_q4 => ?_)
      have h_q4 : (fun r => InR r) q4 := by rw [e_q4]; exact (sf_Tokens_isDigit  h_M h_q2 )
      clear e_q4
      refine ok_ite (fun c_3 => ?_) (fun c_3 => ?_)
      · exact (sf_Tokens_scanNumber_L52  h_M h_x2 h_x3 h_v4_ h_v5_ )
      · refine ok_let (fun q7 e_q7 => ?_)
        have h_q7 : (fun r => InR r) q7 := by rw [e_q7]; exact (sf_WF_look  h_M h_v5_ )
        clear e_q7
        have w_4 : (w32 (v5_ + 1)) = v5_ + (1) := w32_id (by unfold InR; omega)
        exact (ih _ _ _ h_M (inr_min (inr_w32 _) (inr_c rfl)) (inr_w32 _) (by omega))
theorem sf_Tokens_scanNumber {r1 : Nat} {N1 : Nat} {x2 : Int} {x3 : Int} {M : Mem}   (h_M : IM M) (h_x2 : InR x2) (h_x3 : InR x3)  : Ok (fun r => IM r.1 ∧ InR r.2) (t_Tokens_scanNumber M r1 N1 x2 x3) := by
  unfold t_Tokens_scanNumber
  exact (sf_Tokens_scanNumber_L6  h_x2 h_x3 _ _ _ _ h_M (inr_c rfl) h_x2 (fu_up h_x2))
theorem sf_Tokens_signOf {x1 : Int} {M : Mem} (h_M : IM M) (h_x1 : InR x1) : (fun r => InR r) (t_Tokens_signOf M x1) := by
  show Pl (fun r => InR r) (t_Tokens_signOf M x1)
  unfold t_Tokens_signOf
  refine pl_ite (fun c_1 => ?_) (fun c_1 => ?_)
  · exact (inr_c rfl)
  · refine pl_ite (fun c_2 => ?_) (fun c_2 => ?_)
    · exact (inr_c rfl)
    · refine pl_ite (fun c_3 => ?_) (fun c_3 => ?_)
      · exact (inr_c rfl)
      · refine pl_ite (fun c_4 => ?_) (fun c_4 => ?_)
        · exact (inr_c rfl)
        · refine pl_ite (fun c_5 => ?_) (fun c_5 => ?_)
          · exact (inr_c rfl)
          · refine pl_ite (fun c_6 => ?_) (fun c_6 => ?_)
            · exact (inr_c rfl)
            · refine pl_ite (fun c_7 => ?_) (fun c_7 => ?_)
              · exact (inr_c rfl)
              · refine pl_ite (fun c_8 => ?_) (fun c_8 => ?_)
                · exact (inr_c rfl)
                · refine pl_ite (fun c_9 => ?_) (fun c_9 => ?_)
                  · exact (inr_c rfl)
                  · refine pl_ite (fun c_10 => ?_) (fun c_10 => ?_)
                    · exact (inr_c rfl)
                    · refine pl_ite (fun c_11 => ?_) (fun c_11 => ?_)
                      · exact (inr_c rfl)
                      · refine pl_ite (fun c_12 => ?_) (fun c_12 => ?_)
                        · exact (inr_c rfl)
                        · refine pl_ite (fun c_13 => ?_) (fun c_13 => ?_)
                          · exact (inr_c rfl)
                          · refine pl_ite (fun c_14 => ?_) (fun c_14 => ?_)
                            · exact (inr_c rfl)
                            · refine pl_ite (fun c_15 => ?_) (fun c_15 => ?_)
                              · exact (inr_c rfl)
                              · refine pl_ite (fun c_16 => ?_) (fun c_16 => ?_)
                                · exact (inr_c rfl)
                                · refine pl_ite (fun c_17 => ?_) (fun c_17 => ?_)
                                  · exact (inr_c rfl)
                                  · refine pl_ite (fun c_18 => ?_) (fun c_18 => ?_)
                                    · exact (inr_c rfl)
                                    · refine pl_ite (fun c_19 => ?_) (fun c_19 => ?_)
                                      · exact (inr_c rfl)
                                      · refine pl_ite (fun c_20 => ?_) (fun c_20 => ?_)
                                        · exact (inr_c rfl)
                                        · refine pl_ite (fun c_21 => ?_) (fun c_21 => ?_)
                                          · exact (inr_c rfl)
                                          · refine pl_ite (fun c_22 => ?_) (fun c_22 => ?_)
                                            · exact (inr_c rfl)
                                            · refine pl_ite (fun c_23 => ?_) (fun c_23 => ?_)
                                              · exact (inr_c rfl)
                                              · exact (inr_c rfl)
theorem sf_Tokens_scanSign_L39 {x1 : Int} {x2 : Int} {x3 : Int} {v2_ : Int} {M : Mem} (h_M : IM M) (h_x1 : InR x1) (h_x2 : InR x2) (h_x3 : InR x3) (h_v2_ : InR v2_) : (fun r => IM r.1 ∧ InR r.2) (t_Tokens_scanSign_L39 x1 x2 x3 M v2_) := by
  show Pl (fun r => IM r.1 ∧ InR r.2) (t_Tokens_scanSign_L39 x1 x2 x3 M v2_)
  unfold t_Tokens_scanSign_L39
  refine pl_let (fun q13 e_q13 => ?_)
  have h_q13 : (fun r => IM r) q13 := by rw [e_q13]; exact (sf_Tokens_add  h_M h_v2_ (inr_c rfl) h_x3 )
  clear e_q13
  exact ⟨h_q13, (inr_w32 _)⟩
theorem sf_Tokens_scanSign_L25 {x1 : Int} {x2 : Int} {x3 : Int} {M : Mem} (h_M : IM M) (h_x1 : InR x1) (h_x2 : InR x2) (h_x3 : InR x3) : (fun r => IM r.1 ∧ InR r.2) (t_Tokens_scanSign_L25 x1 x2 x3 M) := by
  show Pl (fun r => IM r.1 ∧ InR r.2) (t_Tokens_scanSign_L25 x1 x2 x3 M)
  unfold t_Tokens_scanSign_L25
  refine pl_ite (fun c_1 => ?_) (fun c_1 => ?_)
  · exact (sf_Tokens_scanSign_L39  h_M h_x1 h_x2 h_x3 (inr_c rfl) )
  · exact (sf_Tokens_scanSign_L39  h_M h_x1 h_x2 h_x3 (inr_c rfl) )
theorem sf_Tokens_scanSign_L73 {x1 : Int} {x2 : Int} {x3 : Int} {v2_ : Int} {M : Mem} (h_M : IM M) (h_x1 : InR x1) (h_x2 : InR x2) (h_x3 : InR x3) (h_v2_ : InR v2_) : (fun r => IM r.1 ∧ InR r.2) (t_Tokens_scanSign_L73 x1 x2 x3 M v2_) := by
  show Pl (fun r => IM r.1 ∧ InR r.2) (t_Tokens_scanSign_L73 x1 x2 x3 M v2_)
  unfold t_Tokens_scanSign_L73
  refine pl_let (fun q11 e_q11 => ?_)
  have h_q11 : (fun r => IM r) q11 := by rw [e_q11]; exact (sf_Tokens_add  h_M h_v2_ (inr_c rfl) h_x3 )
  clear e_q11
  exact ⟨h_q11, (inr_w32 _)⟩
theorem sf_Tokens_scanSign_L48 {x1 : Int} {x2 : Int} {x3 : Int} {v3_ : Int} {M : Mem} (h_M : IM M) (h_x1 : InR x1) (h_x2 : InR x2) (h_x3 : InR x3) (h_v3_ : InR v3_) : (fun r => IM r.1 ∧ InR r.2) (t_Tokens_scanSign_L48 x1 x2 x3 M v3_) := by
  show Pl (fun r => IM r.1 ∧ InR r.2) (t_Tokens_scanSign_L48 x1 x2 x3 M v3_)
  unfold t_Tokens_scanSign_L48
  refine pl_ite (fun c_1 => ?_) (fun c_1 => ?_)
  · refine pl_ite (fun c_2 => ?_) (fun c_2 => ?_)
    · refine pl_let (fun q8 e_q8 => ?_)
      have h_q8 : (fun r => IM r) q8 := by rw [e_q8]; exact (sf_Tokens_add  h_M (inr_c rfl) (inr_c rfl) h_x3 )
      clear e_q8
      exact ⟨h_q8, (inr_w32 _)⟩
    · exact (sf_Tokens_scanSign_L73  h_M h_x1 h_x2 h_x3 h_v3_ )
  · exact (sf_Tokens_scanSign_L73  h_M h_x1 h_x2 h_x3 h_v3_ )
theorem sf_Tokens_scanSign {x1 : Int} {x2 : Int} {x3 : Int} {M : Mem} (h_M : IM M) (h_x1 : InR x1) (h_x2 : InR x2) (h_x3 : InR x3) : (fun r => IM r.1 ∧ InR r.2) (t_Tokens_scanSign M x1 x2 x3) := by
  show Pl (fun r => IM r.1 ∧ InR r.2) (t_Tokens_scanSign M x1 x2 x3)
  unfold t_Tokens_scanSign
  refine pl_let (fun q1 e_q1 => ?_)
  have h_q1 : (fun r => InR r) q1 := by rw [e_q1]; exact (sf_Tokens_signOf  h_M h_x1 )
  clear e_q1
  refine pl_ite (fun c_1 => ?_) (fun c_1 => ?_)
  · refine pl_ite (fun c_2 => ?_) (fun c_2 => ?_)
    · exact (sf_Tokens_scanSign_L25  h_M h_x1 h_x2 h_x3 )
    · refine pl_ite (fun c_3 => ?_) (fun c_3 => ?_)
      · exact (sf_Tokens_scanSign_L25  h_M h_x1 h_x2 h_x3 )
      · exact (sf_Tokens_scanSign_L48  h_M h_x1 h_x2 h_x3 h_q1 )
  · exact (sf_Tokens_scanSign_L48  h_M h_x1 h_x2 h_x3 h_q1 )
theorem sf_Tokens_scan_L114 {r1 : Nat} {N1 : Nat} {x2 : Int} {bk10 : Mem → Int → Int → Option (Mem)} {v3_ : Int} {v4_ : Int} {M : Mem} {c_bk10 : Int} (hbk10 : ∀ (a0_ : Mem) (a1_ : Int) (a2_ : Int), IM a0_ → InR a1_ → InR a2_ → c_bk10 < a2_ → Ok (fun r => IM r) (bk10 a0_ a1_ a2_)) (h_M : IM M) (h_x2 : InR x2) (h_v3_ : InR v3_) (h_v4_ : InR v4_) (g_0 : c_bk10 ≤ v4_ ∧ v4_ ≤ 2147483646) : Ok (fun r => IM r) (t_Tokens_scan_L114 r1 N1 x2 bk10 M v3_ v4_) := by
  unfold t_Tokens_scan_L114
  have r_v4_ : -2147483648 ≤ v4_ ∧ v4_ ≤ 2147483647 := h_v4_
  have w_1 : (w32 (v4_ + 1)) = v4_ + (1) := w32_id (by unfold InR; omega)
  exact hbk10 _ _ _  h_M h_v3_ (inr_w32 _) (by omega)
theorem sf_Tokens_scan_L44 {r1 : Nat} {N1 : Nat} {x2 : Int} {bk10 : Mem → Int → Int → Option (Mem)} {v3_ : Int} {v4_ : Int} {M : Mem} {c_bk10 : Int} (hbk10 : ∀ (a0_ : Mem) (a1_ : Int) (a2_ : Int), IM a0_ → InR a1_ → InR a2_ → c_bk10 < a2_ → Ok (fun r => IM r) (bk10 a0_ a1_ a2_)) (h_M : IM M) (h_x2 : InR x2) (h_v3_ : InR v3_) (h_v4_ : InR v4_) (g_0 : c_bk10 ≤ v4_ ∧ v4_ ≤ 2147483646) : Ok (fun r => IM r) (t_Tokens_scan_L44 r1 N1 x2 bk10 M v3_ v4_) := by
  unfold t_Tokens_scan_L44
  have r_v4_ : -2147483648 ≤ v4_ ∧ v4_ ≤ 2147483647 := h_v4_
  exact (sf_Tokens_scan_L114 (c_bk10 := c_bk10) (fun a0_ a1_ a2_ h0_ h1_ h2_ z_ => hbk10 a0_ a1_ a2_ h0_ h1_ h2_ (by omega)) h_M h_x2 (inr_w32 _) h_v4_ (by omega))
theorem sf_Tokens_scan_L109 {r1 : Nat} {N1 : Nat} {x2 : Int} {bk10 : Mem → Int → Int → Option (Mem)} {v3_ : Int} {v4_ : Int} {v6_ : Int} {v7_ : Int} {M : Mem} {c_bk10 : Int} (hbk10 : ∀ (a0_ : Mem) (a1_ : Int) (a2_ : Int), IM a0_ → InR a1_ → InR a2_ → c_bk10 < a2_ → Ok (fun r => IM r) (bk10 a0_ a1_ a2_)) (h_M : IM M) (h_x2 : InR x2) (h_v3_ : InR v3_) (h_v4_ : InR v4_) (h_v6_ : InR v6_) (h_v7_ : InR v7_) (g_0 : c_bk10 ≤ v4_ ∧ v4_ ≤ 2147483646) : Ok (fun r => IM r) (t_Tokens_scan_L109 r1 N1 x2 bk10 M v3_ v4_ v6_ v7_) := by
  unfold t_Tokens_scan_L109
  have r_v4_ : -2147483648 ≤ v4_ ∧ v4_ ≤ 2147483647 := h_v4_
  refine ok_let (fun q23 e_q23 => ?_)
  have h_q23 : (fun r => IM r.1 ∧ InR r.2) q23 := by rw [e_q23]; exact (sf_Tokens_scanSign  h_M h_v6_ h_v7_ h_v3_ )
  clear e_q23
  exact (sf_Tokens_scan_L114 (c_bk10 := c_bk10) (fun a0_ a1_ a2_ h0_ h1_ h2_ z_ => hbk10 a0_ a1_ a2_ h0_ h1_ h2_ (by omega)) h_q23.1 h_x2 h_q23.2 h_v4_ (by omega))
theorem sf_Tokens_scan_L120 {r1 : Nat} {N1 : Nat} {x2 : Int} {M : Mem}   (h_M : IM M) (h_x2 : InR x2)  : Ok (fun r => IM r) (t_Tokens_scan_L120 r1 N1 x2 M) := by
  unfold t_Tokens_scan_L120
  refine ok_let (fun q21 e_q21 => ?_)
  have h_q21 : (fun r => IM r) q21 := by rw [e_q21]; exact (sf_Tokens_add  h_M (inr_c rfl) (inr_c rfl) h_x2 )
  clear e_q21
  exact ok_some h_q21
theorem sf_Tokens_scan_L10 {r1 : Nat} {N1 : Nat} {x2 : Int}   (h_x2 : InR x2) : ∀ (fu : Nat) (M : Mem) (v3_ : Int) (v4_ : Int), IM M → InR v3_ → InR v4_ → 2147483648 - v4_ < (fu : Int) → Ok (fun r => IM r) (t_Tokens_scan_L10 r1 N1 x2 fu M v3_ v4_) := by
  intro fu
  induction fu with
  | zero => intro M v3_ v4_ h_M h_v3_ h_v4_ hf; have r_ := (h_v4_ : InR v4_); unfold InR at r_; exact absurd hf (by omega)
  | succ fu ih =>
    intro M v3_ v4_ h_M h_v3_ h_v4_ hf
    rw [t_Tokens_scan_L10]
    have r_v4_ : -2147483648 ≤ v4_ ∧ v4_ ≤ 2147483647 := h_v4_
    refine ok_ite (fun c_1 => ?_) (fun c_1 => ?_)
    · exact (sf_Tokens_scan_L120  h_M h_x2 )
    · have f_2 : v4_ ≤ 2147483646 := by omega
      refine ok_ite (fun c_3 => ?_) (fun c_3 => ?_)
      · exact (sf_Tokens_scan_L120  h_M h_x2 )
      · refine ok_let (fun q4 e_q4 => ?_)
        have h_q4 : (fun r => InR r) q4 := by rw [e_q4]; exact (sf_WF_look  h_M h_v3_ )
        clear e_q4
        refine ok_ite (fun c_4 => ?_) (fun c_4 => ?_)
        · exact (sf_Tokens_scan_L44 (c_bk10 := v4_) (fun a0_ a1_ a2_ h0_ h1_ h2_ z_ => ih a0_ a1_ a2_ h0_ h1_ h2_ (by omega)) h_M h_x2 h_v3_ h_v4_ (by omega))
        · refine ok_ite (fun c_5 => ?_) (fun c_5 => ?_)
          · exact (sf_Tokens_scan_L44 (c_bk10 := v4_) (fun a0_ a1_ a2_ h0_ h1_ h2_ z_ => ih a0_ a1_ a2_ h0_ h1_ h2_ (by omega)) h_M h_x2 h_v3_ h_v4_ (by omega))
          · refine ok_let (fun q8 e_q8 => ?_)
            have h_q8 : (fun r => InR r) q8 := by rw [e_q8]; exact (sf_Tokens_isLetter  h_M h_q4 )
            clear e_q8
            refine ok_ite (fun c_6 => ?_) (fun c_6 => ?_)
            · refine ok_let (fun q11 e_q11 => ?_)
              have h_q11 : (fun r => InR r) q11 := by rw [e_q11]; exact (sf_Tokens_isDigit  h_M h_q4 )
              clear e_q11
              refine ok_ite (fun c_7 => ?_) (fun c_7 => ?_)
              · refine ok_ite (fun c_8 => ?_) (fun c_8 => ?_)
                · exact (sf_Tokens_scan_L109 (c_bk10 := v4_) (fun a0_ a1_ a2_ h0_ h1_ h2_ z_ => ih a0_ a1_ a2_ h0_ h1_ h2_ (by omega)) h_M h_x2 h_v3_ h_v4_ h_q4 (inr_c rfl) (by omega))
                · refine ok_let (fun q15 e_q15 => ?_)
                  have h_q15 : (fun r => InR r) q15 := by rw [e_q15]; exact (sf_WF_look  h_M (inr_w32 _) )
                  clear e_q15
                  exact (sf_Tokens_scan_L109 (c_bk10 := v4_) (fun a0_ a1_ a2_ h0_ h1_ h2_ z_ => ih a0_ a1_ a2_ h0_ h1_ h2_ (by omega)) h_M h_x2 h_v3_ h_v4_ h_q4 h_q15 (by omega))
              · refine ok_bind (Q := fun r => IM r.1 ∧ InR r.2) (sf_Tokens_scanNumber  h_M h_v3_ h_x2 ) (fun q17 h_q17 => ?_)
                exact (sf_Tokens_scan_L114 (c_bk10 := v4_) (fun a0_ a1_ a2_ h0_ h1_ h2_ z_ => ih a0_ a1_ a2_ h0_ h1_ h2_ (by omega)) h_q17.1 h_x2 h_q17.2 h_v4_ (by omega))
            · refine ok_bind (Q := fun r => IM r.1 ∧ InR r.2) (sf_Tokens_scanWord  h_M h_v3_ h_x2 ) (fun q19 h_q19 => ?_)
              exact (sf_Tokens_scan_L114 (c_bk10 := v4_) (fun a0_ a1_ a2_ h0_ h1_ h2_ z_ => ih a0_ a1_ a2_ h0_ h1_ h2_ (by omega)) h_q19.1 h_x2 h_q19.2 h_v4_ (by omega))
theorem sf_Tokens_scan {r1 : Nat} {N1 : Nat} {x2 : Int} {M : Mem}   (h_M : IM M) (h_x2 : InR x2)  : Ok (fun r => IM r) (t_Tokens_scan M r1 N1 x2) := by
  unfold t_Tokens_scan
  refine ok_let (fun M1 e_M1 => ?_)
  have h_M1 : IM M1 := by rw [e_M1]; exact IM.setI h_M (inr_c rfl)
  clear e_M1
  exact (sf_Tokens_scan_L10  h_x2 _ _ _ _ h_M1 (inr_c rfl) (inr_c rfl) (fu_up (inr_c rfl)))
theorem sf_Reader_goTo_L89 {x1 : Int} {v1_ : Int} {M : Mem}   (h_M : IM M) (h_x1 : InR x1) (h_v1_ : InR v1_)  : Ok (fun r => IM r) (t_Reader_goTo_L89 x1 M v1_) := by
  unfold t_Reader_goTo_L89
  refine ok_let (fun M18 e_M18 => ?_)
  have h_M18 : IM M18 := by rw [e_M18]; exact IM.setI h_M h_v1_
  clear e_M18
  exact ok_some h_M18
theorem sf_Reader_goTo_L63 {x1 : Int} {v3_ : Int} {M : Mem}   (h_M : IM M) (h_x1 : InR x1) (h_v3_ : InR v3_)  : Ok (fun r => IM r) (t_Reader_goTo_L63 x1 M v3_) := by
  unfold t_Reader_goTo_L63
  refine ok_let (fun M13 e_M13 => ?_)
  have h_M13 : IM M13 := by rw [e_M13]; exact IM.setI h_M h_v3_
  clear e_M13
  refine ok_ite (fun c_1 => ?_) (fun c_1 => ?_)
  · exact (sf_Reader_goTo_L89  h_M13 h_x1 (inr_c rfl) )
  · refine ok_ite (fun c_2 => ?_) (fun c_2 => ?_)
    · exact False.elim (by first | omega | contradiction | exact absurd (absl_zero (by assumption)) (by assumption))
    · refine ok_let (fun q16 e_q16 => ?_)
      have h_q16 : (fun r => InR r) q16 := by rw [e_q16]; exact (sf_WF_look  h_M13 h_x1 )
      clear e_q16
      exact (sf_Reader_goTo_L89  h_M13 h_x1 h_q16 )
theorem sf_Reader_goTo_L37 {x1 : Int} {v3_ : Int} {M : Mem}   (h_M : IM M) (h_x1 : InR x1) (h_v3_ : InR v3_)  : Ok (fun r => IM r) (t_Reader_goTo_L37 x1 M v3_) := by
  unfold t_Reader_goTo_L37
  refine ok_let (fun M8 e_M8 => ?_)
  have h_M8 : IM M8 := by rw [e_M8]; exact IM.setI h_M h_v3_
  clear e_M8
  refine ok_ite (fun c_1 => ?_) (fun c_1 => ?_)
  · exact (sf_Reader_goTo_L63  h_M8 h_x1 (inr_c rfl) )
  · refine ok_ite (fun c_2 => ?_) (fun c_2 => ?_)
    · exact False.elim (by first | omega | contradiction | exact absurd (absl_zero (by assumption)) (by assumption))
    · refine ok_let (fun q11 e_q11 => ?_)
      have h_q11 : (fun r => InR r) q11 := by rw [e_q11]; exact (sf_WF_look  h_M8 h_x1 )
      clear e_q11
      exact (sf_Reader_goTo_L63  h_M8 h_x1 h_q11 )
theorem sf_Reader_goTo {x1 : Int} {M : Mem}   (h_M : IM M) (h_x1 : InR x1)  : Ok (fun r => IM r) (t_Reader_goTo M x1) := by
  unfold t_Reader_goTo
  refine ok_let (fun M2 e_M2 => ?_)
  have h_M2 : IM M2 := by rw [e_M2]; exact IM.setI h_M (h_M _ _)
  clear e_M2
  refine ok_let (fun M3 e_M3 => ?_)
  have h_M3 : IM M3 := by rw [e_M3]; exact IM.setI h_M2 h_x1
  clear e_M3
  refine ok_ite (fun c_1 => ?_) (fun c_1 => ?_)
  · exact (sf_Reader_goTo_L37  h_M3 h_x1 (inr_c rfl) )
  · refine ok_ite (fun c_2 => ?_) (fun c_2 => ?_)
    · exact False.elim (by first | omega | contradiction | exact absurd (absl_zero (by assumption)) (by assumption))
    · refine ok_let (fun q6 e_q6 => ?_)
      have h_q6 : (fun r => InR r) q6 := by rw [e_q6]; exact (sf_WF_look  h_M3 h_x1 )
      clear e_q6
      exact (sf_Reader_goTo_L37  h_M3 h_x1 h_q6 )
theorem sf_Reader_begin  {M : Mem}   (h_M : IM M)   : Ok (fun r => IM r) (t_Reader_begin M) := by
  unfold t_Reader_begin
  refine ok_let (fun M1 e_M1 => ?_)
  have h_M1 : IM M1 := by rw [e_M1]; exact IM.setI h_M (inr_c rfl)
  clear e_M1
  refine ok_let (fun M2 e_M2 => ?_)
  have h_M2 : IM M2 := by rw [e_M2]; exact IM.setI h_M1 (inr_c rfl)
  clear e_M2
  refine ok_let (fun M3 e_M3 => ?_)
  have h_M3 : IM M3 := by rw [e_M3]; exact IM.setI h_M2 (inr_c rfl)
  clear e_M3
  refine ok_let (fun M4 e_M4 => ?_)
  have h_M4 : IM M4 := by rw [e_M4]; exact IM.setI h_M3 (inr_c rfl)
  clear e_M4
  refine ok_let (fun M5 e_M5 => ?_)
  have h_M5 : IM M5 := by rw [e_M5]; exact IM.setI h_M4 (inr_c rfl)
  clear e_M5
  refine ok_let (fun M6 e_M6 => ?_)
  have h_M6 : IM M6 := by rw [e_M6]; exact IM.setI h_M5 (inr_c rfl)
  clear e_M6
  refine ok_let (fun M7 e_M7 => ?_)
  have h_M7 : IM M7 := by rw [e_M7]; exact IM.setI h_M6 (inr_c rfl)
  clear e_M7
  refine ok_bind (Q := fun r => IM r) (sf_Reader_goTo  h_M7 (inr_c rfl) ) (fun q8 h_q8 => ?_)
  exact ok_some h_q8
theorem sf_Reader_refuse {x1 : Int} {x2 : Int} {M : Mem} (h_M : IM M) (h_x1 : InR x1) (h_x2 : InR x2) : (fun r => IM r.1 ∧ InR r.2) (t_Reader_refuse M x1 x2) := by
  show Pl (fun r => IM r.1 ∧ InR r.2) (t_Reader_refuse M x1 x2)
  unfold t_Reader_refuse
  refine pl_let (fun M1 e_M1 => ?_)
  have h_M1 : IM M1 := by rw [e_M1]; exact IM.setI h_M h_x1
  clear e_M1
  refine pl_let (fun M2 e_M2 => ?_)
  have h_M2 : IM M2 := by rw [e_M2]; exact IM.setI h_M1 h_x2
  clear e_M2
  exact ⟨h_M2, (inr_c rfl)⟩
theorem sf_Reader_take {x1 : Int} {M : Mem}   (h_M : IM M) (h_x1 : InR x1)  : Ok (fun r => IM r.1 ∧ InR r.2) (t_Reader_take M x1) := by
  unfold t_Reader_take
  refine ok_ite (fun c_1 => ?_) (fun c_1 => ?_)
  · refine ok_bind (Q := fun r => IM r) (sf_Reader_goTo  h_M (inr_w32 _) ) (fun q4 h_q4 => ?_)
    exact ok_some ⟨h_q4, (inr_c rfl)⟩
  · refine ok_let (fun q7 e_q7 => ?_)
    have h_q7 : (fun r => IM r.1 ∧ InR r.2) q7 := by rw [e_q7]; exact (sf_Reader_refuse  h_M (inr_c rfl) (h_M _ _) )
    clear e_q7
    exact ok_some ⟨h_q7.1, h_q7.2⟩
theorem sf_Reader_takeNumber_L24 {x1 : Int} {x2 : Int} {M : Mem}   (h_M : IM M) (h_x1 : InR x1) (h_x2 : InR x2)  : Ok (fun r => IM r.1 ∧ InR r.2) (t_Reader_takeNumber_L24 x1 x2 M) := by
  unfold t_Reader_takeNumber_L24
  refine ok_let (fun q10 e_q10 => ?_)
  have h_q10 : (fun r => IM r.1 ∧ InR r.2) q10 := by rw [e_q10]; exact (sf_Reader_refuse  h_M (inr_c rfl) (h_M _ _) )
  clear e_q10
  exact ok_some ⟨h_q10.1, (inr_c rfl)⟩
theorem sf_Reader_takeNumber_L36 {x1 : Int} {x2 : Int} {v1_ : Int} {M : Mem}   (h_M : IM M) (h_x1 : InR x1) (h_x2 : InR x2) (h_v1_ : InR v1_)  : Ok (fun r => IM r.1 ∧ InR r.2) (t_Reader_takeNumber_L36 x1 x2 M v1_) := by
  unfold t_Reader_takeNumber_L36
  refine ok_bind (Q := fun r => IM r.1 ∧ InR r.2) (sf_Reader_take  h_M (inr_c rfl) ) (fun q6 h_q6 => ?_)
  refine ok_ite (fun c_1 => ?_) (fun c_1 => ?_)
  · exact ok_some ⟨h_q6.1, (inr_c rfl)⟩
  · exact ok_some ⟨h_q6.1, h_v1_⟩
theorem sf_Reader_takeNumber {x1 : Int} {x2 : Int} {M : Mem}   (h_M : IM M) (h_x1 : InR x1) (h_x2 : InR x2)  : Ok (fun r => IM r.1 ∧ InR r.2) (t_Reader_takeNumber M x1 x2) := by
  unfold t_Reader_takeNumber
  refine ok_ite (fun c_1 => ?_) (fun c_1 => ?_)
  · refine ok_ite (fun c_2 => ?_) (fun c_2 => ?_)
    · exact (sf_Reader_takeNumber_L24  h_M h_x1 h_x2 )
    · refine ok_ite (fun c_3 => ?_) (fun c_3 => ?_)
      · exact (sf_Reader_takeNumber_L36  h_M h_x1 h_x2 (h_M _ _) )
      · exact (sf_Reader_takeNumber_L24  h_M h_x1 h_x2 )
  · exact (sf_Reader_takeNumber_L36  h_M h_x1 h_x2 (h_M _ _) )
theorem sf_Reader_readTown_L49 {k1 : Nat} {M : Mem}   (h_M : IM M)   : Ok (fun r => IM r.1 ∧ InR r.2) (t_Reader_readTown_L49 k1 M) := by
  unfold t_Reader_readTown_L49
  refine ok_let (fun q22 e_q22 => ?_)
  have h_q22 : (fun r => IM r.1 ∧ InR r.2) q22 := by rw [e_q22]; exact (sf_Reader_refuse  h_M (inr_c rfl) (h_M _ _) )
  clear e_q22
  exact ok_some ⟨h_q22.1, h_q22.2⟩
theorem sf_Reader_readTown_L97 {k1 : Nat} {v1_ : Int} {v2_ : Int} {M : Mem}   (h_M : IM M) (h_v1_ : InR v1_) (h_v2_ : InR v2_)  : Ok (fun r => IM r.1 ∧ InR r.2) (t_Reader_readTown_L97 k1 M v1_ v2_) := by
  unfold t_Reader_readTown_L97
  refine ok_ite (fun c_1 => ?_) (fun c_1 => ?_)
  · refine ok_let (fun M25 e_M25 => ?_)
    have h_M25 : IM M25 := by rw [e_M25]; exact IM.setI h_M h_v1_
    clear e_M25
    refine ok_let (fun M26 e_M26 => ?_)
    have h_M26 : IM M26 := by rw [e_M26]; exact IM.setI h_M25 h_v2_
    clear e_M26
    exact ok_some ⟨h_M26, (inr_c rfl)⟩
  · exact ok_some ⟨h_M, (inr_c rfl)⟩
theorem sf_Reader_readTown {k1 : Nat} {M : Mem}   (h_M : IM M)   : Ok (fun r => IM r.1 ∧ InR r.2) (t_Reader_readTown M k1) := by
  unfold t_Reader_readTown
  refine ok_ite (fun c_1 => ?_) (fun c_1 => ?_)
  · refine ok_ite (fun c_2 => ?_) (fun c_2 => ?_)
    · exact (sf_Reader_readTown_L49  h_M  )
    · refine ok_ite (fun c_3 => ?_) (fun c_3 => ?_)
      · refine ok_ite (fun c_4 => ?_) (fun c_4 => ?_)
        · refine ok_ite (fun c_5 => ?_) (fun c_5 => ?_)
          · refine ok_let (fun M9 e_M9 => ?_)
            have h_M9 : IM M9 := by rw [e_M9]; exact IM.setI h_M (inr_c rfl)
            clear e_M9
            refine ok_bind (Q := fun r => IM r) (sf_Reader_goTo  h_M9 (inr_w32 _) ) (fun q11 h_q11 => ?_)
            refine ok_bind (Q := fun r => IM r.1 ∧ InR r.2) (sf_Reader_takeNumber  h_q11 (inr_c rfl) (inr_c rfl) ) (fun q13 h_q13 => ?_)
            refine ok_ite (fun c_6 => ?_) (fun c_6 => ?_)
            · refine ok_bind (Q := fun r => IM r.1 ∧ InR r.2) (sf_Reader_takeNumber  h_q13.1 (inr_c rfl) (inr_c rfl) ) (fun q16 h_q16 => ?_)
              exact (sf_Reader_readTown_L97  h_q16.1 h_q13.2 h_q16.2 )
            · exact (sf_Reader_readTown_L97  h_q13.1 h_q13.2 (inr_c rfl) )
          · exact (sf_Reader_readTown_L49  h_M  )
        · exact (sf_Reader_readTown_L49  h_M  )
      · exact (sf_Reader_readTown_L49  h_M  )
  · refine ok_let (fun q19 e_q19 => ?_)
    have h_q19 : (fun r => IM r.1 ∧ InR r.2) q19 := by rw [e_q19]; exact (sf_Reader_refuse  h_M (inr_c rfl) (h_M _ _) )
    clear e_q19
    exact ok_some ⟨h_q19.1, h_q19.2⟩
theorem sf_WF_indexOf_L2 {r1 N1 : Nat} {x2 x3 : Int} (hx2 : InR x2) : ∀ (n fu : Nat) (M : Mem) (v : Int), v + (n : Int) = 2147483647 → 0 ≤ v → n < fu → IM M → Ok (fun r => InR r) (t_WF_indexOf_L2 r1 N1 x2 x3 fu M v) := by
  intro n
  induction n with
  | zero =>
    intro fu M v h0 h1 h2 hM
    obtain ⟨g, rfl⟩ : ∃ g, fu = g + 1 := ⟨fu - 1, by omega⟩
    rw [t_WF_indexOf_L2, if_pos (by unfold InR at hx2; omega)]
    exact ok_some (inr_c rfl)
  | succ n ih =>
    intro fu M v h0 h1 h2 hM
    obtain ⟨g, rfl⟩ : ∃ g, fu = g + 1 := ⟨fu - 1, by omega⟩
    rw [t_WF_indexOf_L2]
    refine ok_ite (fun c => ok_some (inr_c rfl)) (fun c => ?_)
    refine ok_ite (fun c2 => ok_some (inr_c rfl)) (fun c2 => ?_)
    refine ok_guard ⟨h1, by omega⟩ ?_
    refine ok_ite (fun c3 => ok_some (by unfold InR; omega)) (fun c3 => ?_)
    rw [w32_id (x := v + 1) (by unfold InR; omega)]
    exact ih g _ (v + 1) (by omega) (by omega) (by omega) hM
theorem sf_WF_indexOf {r1 N1 : Nat} {x2 x3 : Int} {M : Mem} (hM : IM M) (hx2 : InR x2) (hx3 : InR x3) : Ok (fun r => InR r) (t_WF_indexOf M r1 N1 x2 x3) := sf_WF_indexOf_L2 hx2 2147483647 FU M 0 (by omega) (by omega) (by unfold FU; omega) hM
theorem sf_Reader_takeNewName {r1 : Nat} {N1 : Nat} {x2 : Int} {M : Mem}   (h_M : IM M) (h_x2 : InR x2)  : Ok (fun r => IM r.1 ∧ InR r.2) (t_Reader_takeNewName M r1 N1 x2) := by
  unfold t_Reader_takeNewName
  refine ok_bind (Q := fun r => IM r.1 ∧ InR r.2) (sf_Reader_take  h_M (inr_c rfl) ) (fun q2 h_q2 => ?_)
  refine ok_ite (fun c_1 => ?_) (fun c_1 => ?_)
  · exact ok_some ⟨h_q2.1, (inr_c rfl)⟩
  · refine ok_bind (Q := fun r => InR r) (sf_WF_indexOf  h_q2.1 h_x2 (h_M _ _) ) (fun q5 h_q5 => ?_)
    refine ok_ite (fun c_2 => ?_) (fun c_2 => ?_)
    · exact ok_some ⟨h_q2.1, (h_M _ _)⟩
    · refine ok_let (fun q9 e_q9 => ?_)
      have h_q9 : (fun r => IM r.1 ∧ InR r.2) q9 := by rw [e_q9]; exact (sf_Reader_refuse  h_q2.1 (inr_c rfl) (h_q2.1 _ _) )
      clear e_q9
      exact ok_some ⟨h_q9.1, (inr_c rfl)⟩
theorem sf_WF_isDown {x1 : Int} {M : Mem} (h_M : IM M) (h_x1 : InR x1) : (fun r => InR r) (t_WF_isDown M x1) := by
  show Pl (fun r => InR r) (t_WF_isDown M x1)
  unfold t_WF_isDown
  refine pl_ite (fun c_1 => ?_) (fun c_1 => ?_)
  · exact (inr_c rfl)
  · refine pl_ite (fun c_2 => ?_) (fun c_2 => ?_)
    · exact (inr_c rfl)
    · exact (inr_c rfl)
theorem sf_Reader_readWard {k1 : Nat} {M : Mem}   (h_M : IM M)   : Ok (fun r => IM r.1 ∧ InR r.2) (t_Reader_readWard M k1) := by
  unfold t_Reader_readWard
  refine ok_ite (fun c_1 => ?_) (fun c_1 => ?_)
  · refine ok_bind (Q := fun r => IM r) (sf_Reader_goTo  h_M (inr_w32 _) ) (fun q4 h_q4 => ?_)
    refine ok_bind (Q := fun r => IM r.1 ∧ InR r.2) (sf_Reader_takeNewName  h_q4 (h_q4 _ _) ) (fun q7 h_q7 => ?_)
    refine ok_ite (fun c_2 => ?_) (fun c_2 => ?_)
    · refine ok_let (fun q11 e_q11 => ?_)
      have h_q11 : (fun r => InR r) q11 := by rw [e_q11]; exact (sf_WF_isDown  h_q7.1 (inr_w32 _) )
      clear e_q11
      refine ok_ite (fun c_3 => ?_) (fun c_3 => ?_)
      · refine ok_let (fun q32 e_q32 => ?_)
        have h_q32 : (fun r => IM r.1 ∧ InR r.2) q32 := by rw [e_q32]; exact (sf_Reader_refuse  h_q7.1 (inr_c rfl) (h_q7.1 _ _) )
        clear e_q32
        exact ok_some ⟨h_q32.1, h_q32.2⟩
      · refine ok_bind (Q := fun r => IM r) (sf_Reader_goTo  h_q7.1 (inr_w32 _) ) (fun q15 h_q15 => ?_)
        refine ok_bind (Q := fun r => IM r.1 ∧ InR r.2) (sf_Reader_takeNumber  h_q15 (inr_c rfl) (inr_c rfl) ) (fun q17 h_q17 => ?_)
        refine ok_ite (fun c_4 => ?_) (fun c_4 => ?_)
        · refine ok_let (fun q21 e_q21 => ?_)
          have h_q21 : (fun r => IM r) q21 := by rw [e_q21]; exact (sf_WF_put  h_q17.1 (h_q17.1 _ _) h_q7.2 )
          clear e_q21
          refine ok_let (fun q24 e_q24 => ?_)
          have h_q24 : (fun r => IM r) q24 := by rw [e_q24]; exact (sf_WF_put  h_q21 (h_q21 _ _) (inr_w32 _) )
          clear e_q24
          refine ok_let (fun q27 e_q27 => ?_)
          have h_q27 : (fun r => IM r) q27 := by rw [e_q27]; exact (sf_WF_put  h_q24 (h_q24 _ _) h_q17.2 )
          clear e_q27
          refine ok_let (fun M30 e_M30 => ?_)
          have h_M30 : IM M30 := by rw [e_M30]; exact IM.setI h_q27 (inr_w32 _)
          clear e_M30
          exact ok_some ⟨h_M30, (inr_c rfl)⟩
        · exact ok_some ⟨h_q17.1, (inr_c rfl)⟩
    · exact ok_some ⟨h_q7.1, (inr_c rfl)⟩
  · refine ok_let (fun q35 e_q35 => ?_)
    have h_q35 : (fun r => IM r.1 ∧ InR r.2) q35 := by rw [e_q35]; exact (sf_Reader_refuse  h_M (inr_c rfl) (h_M _ _) )
    clear e_q35
    exact ok_some ⟨h_q35.1, h_q35.2⟩
theorem ok_and {α : Type} {P Q : α → Prop} {x : Option α} (h : Ok P x) (g : Post Q x) : Ok (fun r => P r ∧ Q r) x := by
  obtain ⟨r, rfl, hr⟩ := h
  exact ⟨r, rfl, hr, g r rfl⟩
def WH (M : Mem) (k : Nat) : Prop := -2147483648 < M.1 k 11 ∧ -2147483648 < M.1 k 12
theorem WH.fr {W : Nat → Int → Prop} {M N : Mem} {k : Nat} (h : WH M k) (hF : Fr W M N) (a : ¬ W k 11) (b : ¬ W k 12) : WH N k := by
  unfold WH at *
  rw [(hF k 11 a).1, (hF k 12 b).1]
  exact h
theorem w32_pred {x : Int} (h : InR x) (g : -2147483648 < x) : w32 (x - 1) ≤ 2147483646 := by
  unfold InR at h
  rw [w32_id (by unfold InR; omega)]
  omega
theorem tn_post {x1 x2 : Int} {M : Mem} : Post (fun r => r.2 = -1 ∨ r.2 ≤ x2) (t_Reader_takeNumber M x1 x2) := by
  have e24 : Post (fun r : Mem × Int => r.2 = -1 ∨ r.2 ≤ x2) (t_Reader_takeNumber_L24 x1 x2 M) := by
    unfold t_Reader_takeNumber_L24
    exact post_let (fun _ _ => post_some (Or.inl rfl))
  unfold t_Reader_takeNumber
  refine post_ite (fun c => ?_) (fun c => ?_)
  · refine post_ite (fun _ => e24) (fun _ => post_ite (fun c3 => ?_) (fun _ => e24))
    unfold t_Reader_takeNumber_L36
    exact post_bindv (fun q => post_ite (fun _ => post_some (Or.inl rfl)) (fun _ => post_some (Or.inr c3)))
  · unfold t_Reader_takeNumber_L36 t_Reader_take
    rw [if_neg c]
    simp only [qlet, obind_some]
    exact post_ite (fun _ => post_some (Or.inl rfl)) (fun h => absurd rfl h)
theorem sf_tn {x1 x2 : Int} {M : Mem} {k1 : Nat} (hk : k1 = 2 ∨ k1 = 22) (hM : IM M) (hw : WH M k1) (h1 : InR x1) (h2 : InR x2) : Ok (fun r => ((IM r.1 ∧ InR r.2) ∧ (r.2 = -1 ∨ r.2 ≤ x2)) ∧ WH r.1 k1) (t_Reader_takeNumber M x1 x2) := by
  refine ok_and (ok_and (sf_Reader_takeNumber hM h1 h2) tn_post) (fun r e => ?_)
  exact hw.fr (fr_Reader_takeNumber (W := W_Reader_takeNumber) (M0 := M) (fun _ _ h => h) Fr.rf r e) (by unfold W_Reader_takeNumber; omega) (by unfold W_Reader_takeNumber; omega)
theorem sf_rp_L175 {k1 : Nat} {bk : Mem → Int → Int → Int → Int → Int → Option (Mem × Int)} {v2 v3 v4 v5 v6 : Int} (h2 : InR v2) (h4 : v4 ≤ 2147483646) (hbk : ∀ M, IM M → Ok (fun r => IM r.1 ∧ InR r.2) (bk M v2 v3 v4 v5 (w32 (v6 + 1)))) : ∀ (n fu : Nat) (M : Mem) (v7 : Int), v7 + (n : Int) = 2147483647 → InR v7 → n < fu → IM M → Ok (fun r => IM r.1 ∧ InR r.2) (t_Reader_readPart_L175 k1 bk fu M v2 v3 v4 v5 v6 v7) := by
  intro n
  induction n with
  | zero =>
    intro fu M v7 h0 h1 h3 hM
    obtain ⟨g, rfl⟩ : ∃ g, fu = g + 1 := ⟨fu - 1, by omega⟩
    rw [t_Reader_readPart_L175, if_pos (by omega)]
    exact hbk M hM
  | succ n ih =>
    intro fu M v7 h0 h1 h3 hM
    obtain ⟨g, rfl⟩ : ∃ g, fu = g + 1 := ⟨fu - 1, by omega⟩
    rw [t_Reader_readPart_L175]
    refine ok_ite (fun _ => hbk M hM) (fun _ => ?_)
    refine ok_let (fun q e => ?_)
    have w : w32 (v7 + 1) = v7 + 1 := w32_id (by unfold InR at *; omega)
    rw [w]
    exact ih g q (v7 + 1) (by omega) (by unfold InR at *; omega) (by omega) (by rw [e]; exact sf_WF_put hM (inr_w32 _) h2)
theorem sf_rp_L164 {k1 : Nat} {v2 v3 v4 v5 : Int} (h2 : InR v2) (h3 : InR v3) (h4 : v4 ≤ 2147483646) (h5 : v5 ≤ 2147483646) : ∀ (n fu : Nat) (M : Mem) (v6 : Int), v6 + (n : Int) = 2147483647 → InR v6 → n < fu → IM M → Ok (fun r => IM r.1 ∧ InR r.2) (t_Reader_readPart_L164 k1 fu M v2 v3 v4 v5 v6) := by
  intro n
  induction n with
  | zero =>
    intro fu M v6 h0 h1 hf hM
    obtain ⟨g, rfl⟩ : ∃ g, fu = g + 1 := ⟨fu - 1, by omega⟩
    rw [t_Reader_readPart_L164, if_pos (by omega)]
    exact ok_let (fun q e => ok_some ⟨by rw [e]; exact hM.setI (inr_w32 _), inr_c rfl⟩)
  | succ n ih =>
    intro fu M v6 h0 h1 hf hM
    obtain ⟨g, rfl⟩ : ∃ g, fu = g + 1 := ⟨fu - 1, by omega⟩
    rw [t_Reader_readPart_L164]
    refine ok_ite (fun _ => ok_let (fun q e => ok_some ⟨by rw [e]; exact hM.setI (inr_w32 _), inr_c rfl⟩)) (fun c => ?_)
    have w : w32 (v6 + 1) = v6 + 1 := w32_id (by unfold InR at *; omega)
    have r3 := h3
    unfold InR at r3
    refine sf_rp_L175 h2 h4 (fun M1 hM1 => ?_) (2147483647 - v3).toNat FU M v3 (by omega) h3 (by unfold FU; omega) hM
    rw [w]
    exact ih g M1 (v6 + 1) (by omega) (by unfold InR at *; omega) (by omega) hM1
theorem sf_rp_L151 {k1 : Nat} {v2 v3 v4 v5 v6 : Int} {M : Mem} (h2 : InR v2) (h3 : InR v3) (h4 : InR v4) (h5 : v5 ≤ 2147483646) (h6 : v6 ≤ 2147483646) (hM : IM M) : Ok (fun r => IM r.1 ∧ InR r.2) (t_Reader_readPart_L151 k1 M v2 v3 v4 v5 v6) := by
  unfold t_Reader_readPart_L151
  have r4 := h4
  unfold InR at r4
  exact ok_ite (fun _ => sf_rp_L164 h2 h3 h5 h6 (2147483647 - v4).toNat FU M v4 (by omega) h4 (by unfold FU; omega) hM) (fun _ => ok_some ⟨hM, inr_c rfl⟩)
theorem sf_rp_L128 {k1 : Nat} {v2 v3 v4 v5 : Int} {M : Mem} (hk : k1 = 2 ∨ k1 = 22) (hw : WH M k1) (h2 : InR v2) (h3 : InR v3) (h4 : InR v4) (h5 : v5 ≤ 2147483646) (hM : IM M) : Ok (fun r => IM r.1 ∧ InR r.2) (t_Reader_readPart_L128 k1 M v2 v3 v4 v5) := by
  unfold t_Reader_readPart_L128
  refine ok_ite (fun _ => ?_) (fun _ => sf_rp_L151 h2 h3 h4 h5 (by omega) hM)
  have hp := w32_pred (hM k1 12) hw.2
  exact ok_bind (sf_tn hk hM hw h4 (inr_w32 _)) (fun q hq => sf_rp_L151 h2 h3 h4 h5 (by have := hq.1.2; omega) hq.1.1.1)
theorem sf_rp_L105 {k1 : Nat} {v2 v3 v4 : Int} {M : Mem} (hk : k1 = 2 ∨ k1 = 22) (hw : WH M k1) (h2 : InR v2) (h3 : InR v3) (h4 : InR v4) (hM : IM M) : Ok (fun r => IM r.1 ∧ InR r.2) (t_Reader_readPart_L105 k1 M v2 v3 v4) := by
  unfold t_Reader_readPart_L105
  refine ok_ite (fun _ => ?_) (fun _ => sf_rp_L128 hk hw h2 h3 h4 (by omega) hM)
  have hp := w32_pred (hM k1 11) hw.1
  exact ok_bind (sf_tn hk hM hw h3 (inr_w32 _)) (fun q hq => sf_rp_L128 hk hq.2 h2 h3 h4 (by have := hq.1.2; omega) hq.1.1.1)
theorem sf_Reader_readPart {k1 : Nat} {M : Mem} (hk : k1 = 2 ∨ k1 = 22) (hM : IM M) (hw : WH M k1) : Ok (fun r => IM r.1 ∧ InR r.2) (t_Reader_readPart M k1) := by
  unfold t_Reader_readPart
  refine ok_ite (fun _ => ?_) (fun _ => ?_)
  · refine ok_bind (ok_and (sf_Reader_goTo hM (inr_w32 _)) (fun r e => hw.fr (fr_Reader_goTo (W := W_Reader_goTo) (M0 := M) (fun _ _ h => h) Fr.rf r e) (by unfold W_Reader_goTo; omega) (by unfold W_Reader_goTo; omega))) (fun q4 h4 => ?_)
    refine ok_bind (ok_and (sf_Reader_take h4.1 (inr_c rfl)) (fun r e => h4.2.fr (fr_Reader_take (W := W_Reader_take) (M0 := q4) (fun _ _ h => h) Fr.rf r e) (by unfold W_Reader_take; omega) (by unfold W_Reader_take; omega))) (fun q7 h7 => ?_)
    refine ok_ite (fun _ => ok_some ⟨h7.1.1, inr_c rfl⟩) (fun _ => ?_)
    refine ok_bind (sf_WF_indexOf h7.1.1 (h7.1.1 _ _) (h4.1 _ _)) (fun q11 h11 => ?_)
    refine ok_ite (fun _ => ?_) (fun _ => ok_let (fun q e => ok_some (by rw [e]; exact sf_Reader_refuse h7.1.1 (inr_c rfl) (h7.1.1 _ _))))
    refine ok_bind (sf_tn hk h7.1.1 h7.2 (inr_c rfl) (inr_w32 _)) (fun q15 h15 => ?_)
    refine ok_ite (fun _ => ?_) (fun _ => sf_rp_L105 hk h15.2 h11 h15.1.1.2 (inr_c rfl) h15.1.1.1)
    exact ok_bind (sf_tn hk h15.1.1.1 h15.2 (inr_c rfl) (inr_w32 _)) (fun q19 h19 => sf_rp_L105 hk h19.2 h11 h15.1.1.2 h19.1.1.2 h19.1.1.1)
  · exact ok_let (fun q e => ok_some (by rw [e]; exact sf_Reader_refuse hM (inr_c rfl) (hM _ _)))
theorem sf_Long_bitCount {x1 : Int64} {M : Mem} (h_M : IM M)  : (fun r => InR r) (t_Long_bitCount M x1) := by
  show Pl (fun r => InR r) (t_Long_bitCount M x1)
  unfold t_Long_bitCount
  exact (inrq_and)
theorem sf_Reader_takeCell_L31 {k1 : Nat} {v1_ : Int} {v2_ : Int} {M : Mem}   (h_M : IM M) (h_v1_ : InR v1_) (h_v2_ : InR v2_)  : Ok (fun r => IM r.1 ∧ InR r.2) (t_Reader_takeCell_L31 k1 M v1_ v2_) := by
  unfold t_Reader_takeCell_L31
  refine ok_ite (fun c_1 => ?_) (fun c_1 => ?_)
  · exact ok_some ⟨h_M, (inr_w32 _)⟩
  · exact ok_some ⟨h_M, (inr_c rfl)⟩
theorem sf_Reader_takeCell {k1 : Nat} {M : Mem}   (h_M : IM M)   : Ok (fun r => IM r.1 ∧ InR r.2) (t_Reader_takeCell M k1) := by
  unfold t_Reader_takeCell
  refine ok_bind (Q := fun r => IM r.1 ∧ InR r.2) (sf_Reader_takeNumber  h_M (inr_c rfl) (inr_w32 _) ) (fun q2 h_q2 => ?_)
  refine ok_ite (fun c_1 => ?_) (fun c_1 => ?_)
  · refine ok_bind (Q := fun r => IM r.1 ∧ InR r.2) (sf_Reader_takeNumber  h_q2.1 (inr_c rfl) (inr_w32 _) ) (fun q6 h_q6 => ?_)
    exact (sf_Reader_takeCell_L31  h_q6.1 h_q2.2 h_q6.2 )
  · exact (sf_Reader_takeCell_L31  h_q2.1 h_q2.2 (inr_c rfl) )
theorem sf_WF_bitOf {x1 : Int64} {x2 : Int} {M : Mem} (h_M : IM M) (h_x2 : InR x2) : (fun r => InR r) (t_WF_bitOf M x1 x2) := by
  show Pl (fun r => InR r) (t_WF_bitOf M x1 x2)
  unfold t_WF_bitOf
  exact (inrq_l2i)
theorem sf_Reader_readWall_L93 {k1 : Nat} {M : Mem}   (h_M : IM M)   : Ok (fun r => IM r.1 ∧ InR r.2) (t_Reader_readWall_L93 k1 M) := by
  unfold t_Reader_readWall_L93
  refine ok_let (fun q28 e_q28 => ?_)
  have h_q28 : (fun r => IM r.1 ∧ InR r.2) q28 := by rw [e_q28]; exact (sf_Reader_refuse  h_M (inr_c rfl) (h_M _ _) )
  clear e_q28
  exact ok_some ⟨h_q28.1, h_q28.2⟩
theorem sf_Reader_readWall {k1 : Nat} {M : Mem}   (h_M : IM M)   : Ok (fun r => IM r.1 ∧ InR r.2) (t_Reader_readWall M k1) := by
  unfold t_Reader_readWall
  refine ok_let (fun q1 e_q1 => ?_)
  have h_q1 : (fun r => InR r) q1 := by rw [e_q1]; exact (sf_Long_bitCount  h_M  )
  clear e_q1
  refine ok_ite (fun c_1 => ?_) (fun c_1 => ?_)
  · refine ok_bind (Q := fun r => IM r) (sf_Reader_goTo  h_M (inr_w32 _) ) (fun q5 h_q5 => ?_)
    refine ok_bind (Q := fun r => IM r.1 ∧ InR r.2) (sf_Reader_takeCell  h_q5  ) (fun q7 h_q7 => ?_)
    refine ok_ite (fun c_2 => ?_) (fun c_2 => ?_)
    · refine ok_let (fun q10 e_q10 => ?_)
      have h_q10 : (fun r => InR r) q10 := by rw [e_q10]; exact (sf_WF_bitOf  h_q7.1 h_q7.2 )
      clear e_q10
      refine ok_ite (fun c_3 => ?_) (fun c_3 => ?_)
      · refine ok_let (fun q22 e_q22 => ?_)
        have h_q22 : (fun r => IM r.1 ∧ InR r.2) q22 := by rw [e_q22]; exact (sf_Reader_refuse  h_q7.1 (inr_c rfl) (h_q7.1 _ _) )
        clear e_q22
        exact ok_some ⟨h_q22.1, h_q22.2⟩
      · refine ok_let (fun q13 e_q13 => ?_)
        have h_q13 : (fun r => InR r) q13 := by rw [e_q13]; exact (sf_WF_bitOf  h_q7.1 h_q7.2 )
        clear e_q13
        refine ok_ite (fun c_4 => ?_) (fun c_4 => ?_)
        · exact (sf_Reader_readWall_L93  h_q7.1  )
        · refine ok_bind (Q := fun r => InR r) (sf_WF_indexOf  h_q7.1 (h_q7.1 _ _) h_q7.2 ) (fun q17 h_q17 => ?_)
          refine ok_ite (fun c_5 => ?_) (fun c_5 => ?_)
          · refine ok_let (fun M20 e_M20 => ?_)
            have h_M20 : IM M20 := by rw [e_M20]; exact IM.setL h_q7.1
            clear e_M20
            exact ok_some ⟨h_M20, (inr_c rfl)⟩
          · exact (sf_Reader_readWall_L93  h_q7.1  )
    · exact ok_some ⟨h_q7.1, (inr_c rfl)⟩
  · refine ok_let (fun q25 e_q25 => ?_)
    have h_q25 : (fun r => IM r.1 ∧ InR r.2) q25 := by rw [e_q25]; exact (sf_Reader_refuse  h_M (inr_c rfl) (h_M _ _) )
    clear e_q25
    exact ok_some ⟨h_q25.1, h_q25.2⟩
end
