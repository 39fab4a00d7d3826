/-! ===== p2: the law, whole -/
def m1 : Mem := (t_WF_init Mz).getD Mz
theorem m1_some : (t_WF_init Mz).isSome = true := by decide +kernel
theorem hm1 : t_WF_init Mz = some m1 := by
  have h := m1_some
  unfold m1
  cases e : t_WF_init Mz with
  | none => rw [e] at h; cases h
  | some v => rfl
def m2 : Mem := (t_MO_init m1).getD Mz
theorem m2_some : (t_MO_init m1).isSome = true := by decide +kernel
theorem hm2 : t_MO_init m1 = some m2 := by
  have h := m2_some
  unfold m2
  cases e : t_MO_init m1 with
  | none => rw [e] at h; cases h
  | some v => rfl
theorem im_Mz : IM Mz := fun k j => Mz_rng.1 k j
theorem im_m2 : IM m2 := by
  obtain ⟨r, e, hr⟩ := sf_WF_init im_Mz
  have : r = m1 := Option.some.inj (e.symm.trans hm1)
  rw [this] at hr
  exact im_MO_init hr m2 hm2
theorem m2_nums : (m2.1 193 0 = 4 ∧ m2.1 193 1 = 4 ∧ m2.1 193 2 = 0 ∧ m2.1 193 6 = 0 ∧ m2.1 193 8 = 0 ∧ m2.1 193 7 = 0) ∧ (m2.1 203 0 = 0 ∧ m2.1 204 0 = 0 ∧ m2.1 203 1 = 0 ∧ m2.1 204 1 = 0) ∧ (m2.1 191 44 = -1 ∧ m2.1 191 42 = 0 ∧ m2.1 191 43 = 0 ∧ m2.1 191 60 = 0 ∧ m2.1 191 61 = -1) ∧ (m2.1 207 0 = 0 ∧ m2.1 209 0 = 0 ∧ m2.2 210 0 = 0 ∧ m2.2 211 0 = 0) ∧ (m2.1 191 2 = 0 ∧ m2.1 0 1 = 0 ∧ m2.1 0 4 = 2 ∧ m2.1 0 5 = 22) := by decide +kernel
theorem m2_cells : ∀ c : Nat, c < 48 → m2.1 197 (c : Int) = 0 ∧ m2.1 198 (c : Int) = 0 ∧ m2.1 199 (c : Int) = 0 := by decide +kernel
theorem m2_cl : (m2.1 2 11 = 4 ∧ m2.1 2 12 = 4 ∧ m2.1 2 14 = 0 ∧ m2.1 2 15 = 0 ∧ m2.1 2 16 = 0 ∧ m2.1 2 17 = 0 ∧ m2.2 2 18 = 0 ∧ m2.2 2 19 = 0 ∧ m2.1 2 13 = 16) ∧ (m2.1 12 3 = 0 ∧ m2.1 12 4 = 0 ∧ m2.1 17 3 = 0 ∧ m2.1 17 4 = 0) ∧ (m2.1 0 2 = m2.1 191 26 ∧ m2.1 0 3 = m2.1 191 27) := by decide +kernel
theorem m2_own : ∀ c : Nat, c < 48 → m2.1 10 (c : Int) = -1 := by decide +kernel
theorem m2_side : ∀ c : Nat, c < 16 → ∀ d : Nat, d < 4 → m2.1 11 ((c : Int) * 4 + (d : Int)) = bsW 4 4 c d := by decide +kernel
theorem cx_m2 : CTx m2 2 TV0 := by
  obtain ⟨⟨a1, a2, a3, a4, a5, a6, a7, a8, a9⟩, ⟨b1, b2, b3, b4⟩, -⟩ := m2_cl
  have z : ∀ j, ¬ (j = 0 ∨ j = 1) → TV0 0 j = 0 := fun j h => by
    unfold TV0
    rw [if_neg (fun q => h q.2), if_neg (by decide)]
  refine ⟨⟨⟨a1, a2, a3.trans (z 2 (by omega)).symm, a4.trans (z 3 (by omega)).symm, a5.trans (z 4 (by omega)).symm, a6.trans (z 5 (by omega)).symm⟩, fun w x y => ?_, fun t x y => ?_, fun c x y => ⟨?_, ?_, ?_⟩⟩, ⟨a9, fun w x y => ?_, fun c x y d e f => ?_⟩, ⟨b2.trans (z 9 (by omega)).symm, b1.trans (z 11 (by omega)).symm, fun j x y => ?_⟩, b4.trans (z 10 (by omega)).symm, b3.trans (z 12 (by omega)).symm, fun j x y => ?_⟩
  · rw [z 2 (by omega)] at y; omega
  · rw [z 3 (by omega)] at y; omega
  · have := m2_own c.toNat (by omega)
    rw [Int.toNat_of_nonneg x] at this
    show m2.1 10 c = TV0 7 c
    rw [this]
    unfold TV0; rw [if_neg (fun q => absurd q.1 (by decide)), if_pos rfl]
  · rw [a7, tb_zero]; exact (decide_eq_false (by unfold TV0; rw [if_neg (fun q => absurd q.1 (by decide)), if_neg (by decide)]; decide)).symm
  · rw [a8, tb_zero]; exact (decide_eq_false (by unfold TV0; rw [if_neg (fun q => absurd q.1 (by decide)), if_neg (by decide)]; decide)).symm
  · rw [z 2 (by omega)] at y; omega
  · have y : c < 16 := y
    have := m2_side c.toNat (by omega) d.toNat (by omega)
    rw [Int.toNat_of_nonneg x, Int.toNat_of_nonneg e] at this
    exact this
  · rw [z 11 (by omega)] at y; omega
  · rw [z 12 (by omega)] at y; omega
theorem m2_rl : (m2.1 62 3 = 0 ∧ m2.1 62 4 = 0 ∧ m2.2 62 5 = 0 ∧ m2.1 208 0 = 0) ∧ (m2.1 70 2 = 0 ∧ 0 ≤ m2.1 70 1 ∧ m2.1 70 1 < 20) ∧ (m2.1 0 13 = 0 ∧ m2.1 172 5 = 0 ∧ m2.1 172 6 = -1 ∧ m2.1 177 8 = 0) ∧ (m2.2 47 4 = 0 ∧ m2.2 47 5 = 0 ∧ m2.2 47 6 = 0) := by decide +kernel
theorem i2l_0 : q_i2l 0 = 0 := by decide +kernel
theorem rl_m2 : RL m2 TV0 := by
  obtain ⟨⟨a1, a2, a3, a4, a5, a6⟩, ⟨b1, b2, b3, b4⟩, ⟨c1, c2, c3, c4, c5⟩, ⟨d1, d2, d3, d4⟩, ⟨e1, e2, e3, e4⟩⟩ := m2_nums
  obtain ⟨⟨r1, r2, r3, r4⟩, ⟨s1, s2, s3⟩, ⟨t1, t2, t3, t4⟩, ⟨u1, u2, u3⟩⟩ := m2_rl
  have z : ∀ j, ¬ (j = 0 ∨ j = 1) → TV0 0 j = 0 := fun j h => by
    unfold TV0
    rw [if_neg (fun q => h q.2), if_neg (by decide)]
  have z2 := z 2 (by omega)
  have z3 := z 3 (by omega)
  refine ⟨⟨fun w x y => by omega, fun t x y => by omega, ?_, ?_, fun c x y => ?_⟩, ⟨?_, ?_, ?_, fun y x w => by omega⟩, past_none s1 ⟨s2, s3⟩ c3, ⟨?_, fun w => by omega⟩, ⟨?_, ?_, fun k x y => by omega⟩, CaR.zero t4⟩
  · rw [u2, d3]
  · rw [u3, d4]
  · rw [u1, tb_zero]
    unfold wlV
    exact (decide_eq_false (by unfold TV0; rw [if_neg (fun q => absurd q.1 (by decide)), if_neg (by decide)]; decide)).symm
  · rw [r1, d1]
  · rw [r2, r4]
  · rw [r3, d2, i2l_0]
  · rw [t1, c2]
  · rw [t2, c4]
  · rw [t3, c5]
theorem li_m2 : LI m2 := by
  obtain ⟨⟨a1, a2, a3, a4, a5, a6⟩, ⟨b1, b2, b3, b4⟩, ⟨c1, c2, c3, c4, c5⟩, ⟨d1, d2, d3, d4⟩, ⟨e1, e2, e3, e4⟩⟩ := m2_nums
  have hP := pok0
  have z : ∀ j, ¬ (j = 0 ∨ j = 1) → TV0 0 j = 0 := fun j h => by
    unfold TV0
    rw [if_neg (fun q => h q.2), if_neg (by decide)]
  have z2 := z 2 (by omega); have z3 := z 3 (by omega); have z4 := z 4 (by omega); have z5 := z 5 (by omega); have z11 := z 11 (by omega); have z12 := z 12 (by omega)
  have hT : MT0 m2 TV0 := by
    refine ⟨⟨a1, a2, a3.trans z2.symm, a4.trans z3.symm, a5.trans z4.symm, a6.trans z5.symm⟩, fun w x y => by omega, fun t x y => by omega, fun c x y => ?_⟩
    have c7 : TV0 7 c = -1 := by unfold TV0; rw [if_neg (fun q => absurd q.1 (by decide)), if_pos rfl]
    have c8 : TV0 8 c = 0 := by unfold TV0; rw [if_neg (fun q => absurd q.1 (by decide)), if_neg (by decide)]
    have c9 : TV0 9 c = 0 := by unfold TV0; rw [if_neg (fun q => absurd q.1 (by decide)), if_neg (by decide)]
    have := m2_cells c.toNat (by omega)
    rw [Int.toNat_of_nonneg x] at this
    rw [c7, c8, c9]
    exact ⟨by omega, this.2.1, this.2.2⟩
  have hF : MF m2 TV0 := by
    unfold MF MF1
    rw [b1, b2, b3, b4, z11, z12]
    exact ⟨⟨by omega, by omega, by omega, fun i x y => by omega⟩, ⟨by omega, by omega, by omega, fun i x y => by omega⟩⟩
  refine ⟨im_m2, ⟨TV0, ⟨⟨hP.1, hT, hP.2.1, hF⟩, c1, ⟨⟨fun w x y => by omega, fun t x y => by omega, fun c x y => ?_⟩, by omega⟩, ⟨Or.inl c2, fun q => by omega⟩, ⟨by omega, by omega, fun k x y => by omega⟩, ?_⟩, by rw [e3]; exact cx_m2, rl_m2⟩, ⟨by omega, fun j x y => by omega⟩, Or.inl ⟨e3, e4⟩, by omega, fun j x y => by omega, m2_cl.2.2⟩
  · rw [d3, d4, tb_zero]; exact ⟨rfl, rfl⟩
  · unfold NotesOK
    rw [c4, c5]
    exact ⟨by omega, by omega, by omega, by omega, fun k x y => by omega⟩
theorem p2_loop {xs : Nat → Int32} {L : Nat} (hL : L ≤ 3072) : ∀ (m fu : Nat) (M : Mem) (v : Int), (L : Int) ≤ v + (m : Int) → 0 ≤ v → m < fu → LI M → Ok (fun r => r = 1) (t_Law_law_L23 xs L fu M v) := by
  intro m
  induction m with
  | zero =>
    intro fu M v g0 g1 g2 h
    obtain ⟨g, rfl⟩ : ∃ g, fu = g + 1 := ⟨fu - 1, by omega⟩
    rw [t_Law_law_L23, w32_id (x := (L : Int) - 6) (by unfold InR; omega), if_pos (by omega)]
    exact ok_some rfl
  | succ m ih =>
    intro fu M v g0 g1 g2 h
    obtain ⟨g, rfl⟩ : ∃ g, fu = g + 1 := ⟨fu - 1, by omega⟩
    rw [t_Law_law_L23, w32_id (x := (L : Int) - 6) (by unfold InR; omega)]
    refine ok_ite (fun _ => ok_some rfl) (fun c => ?_)
    have hbk : ∀ N, LI N → Ok (fun r => r = 1) ((fun a0_ a1_ => t_Law_law_L23 xs L g a0_ a1_) N (w32 (v + 6))) := by
      intro N hN
      show Ok _ (t_Law_law_L23 xs L g N (w32 (v + 6)))
      rw [w32_id (x := v + 6) (by unfold InR; omega)]
      exact ih g N (v + 6) (by omega) (by omega) (by omega) hN
    refine ok_ite (fun _ => lb_220 h hbk) (fun _ => ?_)
    refine ok_ite (fun _ => lb_293 h hbk) (fun _ => ?_)
    refine ok_ite (fun _ => lb_318 h hbk) (fun _ => ?_)
    refine ok_ite (fun _ => lb_343 h hbk) (fun _ => ?_)
    refine ok_ite (fun _ => lb_380 h hbk) (fun _ => ?_)
    refine ok_ite (fun _ => lb_420 h hbk) (fun _ => ?_)
    refine ok_ite (fun _ => lb_457 h hbk) (fun _ => ?_)
    refine ok_ite (fun _ => lb_494 h hbk) (fun _ => ?_)
    refine ok_ite (fun _ => lb_543 h hbk) (fun _ => ?_)
    refine ok_ite (fun _ => lb_568 h hbk) (fun _ => ?_)
    refine ok_ite (fun _ => lb_605 h hbk) (fun _ => ?_)
    refine ok_ite (fun _ => lb_642 h hbk) (fun _ => ?_)
    refine ok_ite (fun _ => lb_667 h hbk) (fun _ => ?_)
    refine ok_ite (fun _ => lb_704 h hbk) (fun _ => ?_)
    refine ok_ite (fun _ => lb_757 h hbk) (fun _ => ?_)
    refine ok_ite (fun _ => lb_794 h hbk) (fun _ => ?_)
    refine ok_ite (fun _ => lb_831 h hbk) (fun _ => ?_)
    refine ok_ite (fun _ => lb_844 h hbk) (fun _ => ?_)
    refine ok_ite (fun _ => lb_881 h hbk) (fun _ => ?_)
    refine ok_ite (fun _ => lb_918 h hbk) (fun _ => ?_)
    refine ok_ite (fun _ => lb_967 h hbk) (fun _ => ?_)
    refine ok_ite (fun _ => lb_1016 h hbk) (fun _ => ?_)
    refine ok_ite (fun _ => lb_1065 h hbk) (fun _ => ?_)
    refine ok_ite (fun _ => lb_1102 h hbk) (fun _ => ?_)
    refine ok_ite (fun _ => lb_1115 h hbk) (fun _ => ?_)
    refine ok_ite (fun _ => lb_1140 h hbk) (fun _ => ?_)
    refine ok_ite (fun _ => lb_1153 h hbk) (fun _ => ?_)
    refine ok_ite (fun _ => lb_1178 h hbk) (fun _ => ?_)
    refine ok_ite (fun _ => lb_1203 h hbk) (fun _ => ?_)
    refine ok_ite (fun _ => lb_1240 h hbk) (fun _ => ?_)
    refine ok_ite (fun _ => lb_1277 h hbk) (fun _ => ?_)
    refine ok_ite (fun _ => lb_1302 h hbk) (fun _ => ?_)
    refine ok_ite (fun _ => lb_1327 h hbk) (fun _ => ?_)
    refine ok_ite (fun _ => lb_1340 h hbk) (fun _ => ?_)
    refine ok_ite (fun _ => lb_1365 h hbk) (fun _ => ?_)
    refine ok_ite (fun _ => lb_1390 h hbk) (fun _ => ?_)
    refine ok_ite (fun _ => lb_1427 h hbk) (fun _ => ?_)
    refine ok_ite (fun _ => lb_1476 h hbk) (fun _ => ?_)
    refine ok_ite (fun _ => lb_1489 h hbk) (fun _ => ?_)
    refine ok_ite (fun _ => lb_1502 h hbk) (fun _ => ?_)
    refine ok_ite (fun _ => lb_1515 h hbk) (fun _ => ?_)
    unfold t_Law_law_L1540
    exact hbk M h
theorem pure_law (xs : Nat → Int32) (L : Nat) (hL : L ≤ 3072) : t_Law_law_L23 xs L FU m2 0 = some 1 := by
  obtain ⟨r, e, h⟩ := p2_loop (xs := xs) hL L FU m2 0 (by omega) (by omega) (fu_big (by omega)) li_m2
  rw [e, h]
