/-! ===== feeding the tape -/
theorem and255 (y : Int) : 0 ≤ q_and y 255 ∧ q_and y 255 ≤ 255 := by
  unfold q_and
  rw [← Int32.toInt_toBitVec, Int32.toBitVec_and]
  show 0 ≤ ((Int32.ofInt y).toBitVec &&& 255#32).toInt ∧ ((Int32.ofInt y).toBitVec &&& 255#32).toInt ≤ 255
  have h : ((Int32.ofInt y).toBitVec &&& 255#32).toNat ≤ 255 := by rw [BitVec.toNat_and]; exact Nat.and_le_right
  rw [BitVec.toInt_eq_toNat_of_lt (by omega)]
  omega
theorem TInv.fr {W : Nat → Int → Prop} {M N : Mem} (h : TInv M) (hF : Fr W M N) (hd : ∀ k j, (k = 192 ∨ (k = 191 ∧ j = 2)) → ¬ W k j) : TInv N := by
  unfold TInv
  rw [(hF 191 2 (hd _ _ (Or.inr ⟨rfl, rfl⟩))).1]
  refine ⟨h.1, fun j u v => ?_⟩
  rw [(hF 192 j (hd _ _ (Or.inl rfl))).1]
  exact h.2 j u v
theorem ti_feed_loop {x1 x2 x3 x4 x5 : Int} {M0 : Mem} (hT : TInv M0) (h2 : M0.1 191 2 ≤ 680) : ∀ (m fu : Nat) (M : Mem) (v : Int), v + (m : Int) = 20 → 0 ≤ v → m < fu → Fr (fun k _ => k = 192) M0 M → (∀ j, 0 ≤ j → j < M0.1 191 2 + v → 0 ≤ M.1 192 j ∧ M.1 192 j ≤ 255) → Ok (fun r => Fr (fun k j => k = 192 ∨ (k = 191 ∧ j = 2)) M0 r.1 ∧ TInv r.1 ∧ r.2 = M0.1 191 2 + 20 ∧ r.1.1 191 2 = M0.1 191 2 + 20) (t_MO_feed_L20 x1 x2 x3 x4 x5 fu M v) := by
  have t0 := hT.1
  intro m
  induction m with
  | zero =>
    intro fu M v g0 g1 g2 hF hc
    obtain ⟨g, rfl⟩ : ∃ g, fu = g + 1 := ⟨fu - 1, by omega⟩
    rw [t_MO_feed_L20, if_pos (by omega)]
    simp (config := { proj := false }) only [qlet]
    have e2 : M.1 191 2 = M0.1 191 2 := (hF 191 2 (by omega)).1
    rw [e2, w32_id (x := M0.1 191 2 + 20) (by unfold InR; omega)]
    refine ok_some ⟨(hF.mono (fun k j z => Or.inl z)).setI (Or.inr ⟨rfl, rfl⟩), ?_, (by show (setI M 191 2 (M0.1 191 2 + 20)).1 191 2 = M0.1 191 2 + 20; exact sI_self _ _ _ _), (by show (setI M 191 2 (M0.1 191 2 + 20)).1 191 2 = M0.1 191 2 + 20; exact sI_self _ _ _ _)⟩
    unfold TInv
    show (0 ≤ (setI M 191 2 (M0.1 191 2 + 20)).1 191 2 ∧ (setI M 191 2 (M0.1 191 2 + 20)).1 191 2 ≤ 700) ∧ ∀ j, 0 ≤ j → j < (setI M 191 2 (M0.1 191 2 + 20)).1 191 2 → 0 ≤ (setI M 191 2 (M0.1 191 2 + 20)).1 192 j ∧ (setI M 191 2 (M0.1 191 2 + 20)).1 192 j ≤ 255
    rw [sI_self]
    refine ⟨by omega, fun j a b => ?_⟩
    rw [sI_ne (by omega)]
    exact hc j a (by omega)
  | succ m ih =>
    intro fu M v g0 g1 g2 hF hc
    obtain ⟨g, rfl⟩ : ∃ g, fu = g + 1 := ⟨fu - 1, by omega⟩
    have e2 : M.1 191 2 = M0.1 191 2 := (hF 191 2 (by omega)).1
    have gd : 0 ≤ M0.1 191 2 + v ∧ M0.1 191 2 + v < 700 := by omega
    have step : ∀ c, Ok (fun r => Fr (fun k j => k = 192 ∨ (k = 191 ∧ j = 2)) M0 r.1 ∧ TInv r.1 ∧ r.2 = M0.1 191 2 + 20 ∧ r.1.1 191 2 = M0.1 191 2 + 20) (t_MO_feed_L73 x1 x2 x3 x4 x5 (fun a0_ a1_ => t_MO_feed_L20 x1 x2 x3 x4 x5 g a0_ a1_) M v c) := by
      intro c
      unfold t_MO_feed_L73
      rw [e2, w32_id (x := M0.1 191 2 + v) (by unfold InR; omega), qguard_pos gd, w32_id (x := v + 1) (by unfold InR; omega)]
      simp (config := { proj := false }) only [qlet]
      refine ih g _ (v + 1) (by omega) (by omega) (by omega) (hF.setI rfl) (fun j a b => ?_)
      by_cases q : j = M0.1 191 2 + v
      · rw [q, sI_self]; exact and255 _
      · rw [sI_ne (by omega)]; exact hc j a (by omega)
    rw [t_MO_feed_L20, if_neg (by omega)]
    exact ok_ite (fun _ => ok_ite (fun _ => ok_ite (fun _ => ok_ite (fun _ => step _) (fun _ => step _)) (fun _ => step _)) (fun _ => step _)) (fun _ => step _)
theorem ri_feed {M : Mem} {V : TV} (h : RI M V) (hT : TInv M) (x1 x2 x3 x4 x5 : Int) : Ok (fun r => RI r.1 V ∧ TInv r.1 ∧ ((M.1 191 2 ≤ 680 ∧ r.2 = M.1 191 2 + 20 ∧ r.1.1 191 2 = M.1 191 2 + 20) ∨ (¬ M.1 191 2 ≤ 680 ∧ r.2 = -1 ∧ r.1.1 191 2 = M.1 191 2))) (t_MO_feed M x1 x2 x3 x4 x5) := by
  unfold t_MO_feed
  simp (config := { proj := false }) only [qlet]
  have h1 : RI (setI M 191 0 0) V := h.set0 0
  have hT1 : TInv (setI M 191 0 0) := hT.fr (W := fun k j => k = 191 ∧ j = 0) (Fr.rf.setI ⟨rfl, rfl⟩) (fun k j a z => by omega)
  have e2 : (setI M 191 0 0).1 191 2 = M.1 191 2 := sI_ne (by omega)
  generalize setI M 191 0 0 = M1 at *
  rw [← e2]
  by_cases a : M1.1 191 2 ≤ 680
  · rw [if_pos a]
    obtain ⟨r, e, r1, r2, r3, r4⟩ := ti_feed_loop (x1 := x1) (x2 := x2) (x3 := x3) (x4 := x4) (x5 := x5) hT1 a 20 FU M1 0 (by omega) (by omega) (fu_big (by omega)) Fr.rf (fun j u v => hT1.2 j u (by omega))
    exact ⟨r, e, h1.fr r1 (fun k j u z => by unfold RIc at u; omega), r2, Or.inl ⟨a, r3, r4⟩⟩
  · rw [if_neg a]
    exact ok_some ⟨h1, hT1, Or.inr ⟨a, rfl, rfl⟩⟩
