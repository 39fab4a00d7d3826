section
/-! ===== what the questions leave alone ===== -/
theorem LJ0_qm : ∀ k j, LJ0 k j → QmW k j := by
  intro k j z
  unfold LJ0 LJ JW W_MO_goesFrom GO at z
  unfold QmW
  rcases z with ((((z | z) | z | (z | z)) | z | z) | z | z) <;> first | exact Or.inr (Or.inl z) | omega
theorem LF0_qm : ∀ k j, LF0 k j → QmW k j := by
  intro k j z
  unfold LF0 LF W_MO_goesFrom at z
  unfold QmW
  rcases z with (((z | z) | z | z | z | z) | z) <;> first | exact Or.inr (Or.inl z) | omega
def KQ (M0 : Mem) (V : TV) (M : Mem) : Prop := RI M V ∧ Fr QmW M0 M
theorem kq_clock_L50 {M0 : Mem} {x1 : Int} {V : TV} {bk : Mem → Int → Int → Int → Int → Int → Option (Mem × Int)} {v6 : Int} (hw : 0 ≤ v6 ∧ v6 < 4) (hbk : ∀ (M : Mem) (a b c d : Int), KQ M0 V M → Ok (fun r => KQ M0 V r.1) (bk M a b c d (v6 + 1))) : ∀ (n fu : Nat) (M : Mem) (v2 v3 v4 v5 v7 : Int), v7 + (n : Int) = 5 → 0 ≤ v7 → n < fu → KQ M0 V M → Ok (fun r => KQ M0 V r.1) (t_MO_clock_L50 x1 bk fu M v2 v3 v4 v5 v6 v7) := by
  intro n
  induction n with
  | zero =>
    intro fu M v2 v3 v4 v5 v7 g0 g1 g2 h
    obtain ⟨g, rfl⟩ : ∃ g, fu = g + 1 := ⟨fu - 1, by omega⟩
    rw [t_MO_clock_L50, if_pos (by omega), w32_id (x := v6 + 1) (by unfold InR; omega)]
    exact hbk M _ _ _ _ h
  | succ n ih =>
    intro fu M v2 v3 v4 v5 v7 g0 g1 g2 h
    obtain ⟨g, rfl⟩ : ∃ g, fu = g + 1 := ⟨fu - 1, by omega⟩
    rw [t_MO_clock_L50, if_neg (by omega), qguard_pos ⟨hw.1, by omega⟩]
    have nx : ∀ (N : Mem) (a b c d : Int), KQ M0 V N → Ok (fun r => KQ M0 V r.1) (t_MO_clock_L120 x1 bk (fun a0_ a1_ a2_ a3_ a4_ a5_ a6_ => t_MO_clock_L50 x1 bk g a0_ a1_ a2_ a3_ a4_ a5_ a6_) N a b c d v6 v7) := by
      intro N a b c d hN
      unfold t_MO_clock_L120
      rw [w32_id (x := v7 + 1) (by unfold InR; omega)]
      exact ih g N a b c d (v7 + 1) (by omega) (by omega) (by omega) hN
    refine ok_ite (fun _ => nx M _ _ _ _ h) (fun _ => ?_)
    refine ok_bind h.1.cp1 (fun N hN => ?_)
    rw [w32_id (x := 4 + v6) (by unfold InR; omega), qguard_pos ⟨by omega, by omega⟩]
    refine ok_let (fun M19 e19 => ?_)
    have f19 : Fr (fun k j => k = 212 ∧ j = 4 + v6) N M19 := by rw [e19]; exact Fr.rf.setI ⟨rfl, rfl⟩
    have h19 : RI M19 V := hN.1.fr f19 (fun k j a q => by unfold RIc at a; omega)
    have hr := hN.2.1
    have r19 : RowOK M19 1 V := by
      rw [e19]
      refine ⟨fun w a b => ?_, fun t a b => ?_, hr.2.2⟩
      · by_cases e : 4 * 1 + w = 4 + v6
        · rw [e, sI_self]; omega
        · rw [sI_ne (by omega)]; exact hr.1 w a b
      · rw [sI_ne (by omega)]; exact hr.2.1 t a b
    refine ok_bind (ri_longest (by omega) h19 r19) (fun q hq => ?_)
    have hq2 : KQ M0 V q.1 := ⟨h19.fr hq LGW_RIc, ((h.2.trans (hN.2.2.2.mono (fun k j z => by unfold QmW; exact Or.inr (Or.inl z)))).trans (f19.mono (fun k j z => by unfold QmW CW; omega))).trans (hq.mono (fun k j z => by unfold LGW at z; unfold QmW; omega))⟩
    exact ok_ite (fun _ => nx _ _ _ _ _ hq2) (fun _ => nx _ _ _ _ _ hq2)
theorem kq_clock_L36 {M0 : Mem} {x1 : Int} {V : TV} : ∀ (n fu : Nat) (M : Mem) (v2 v3 v4 v5 v6 : Int), v6 + (n : Int) = V 0 2 → 0 ≤ v6 → n < fu → KQ M0 V M → Ok (fun r => KQ M0 V r.1) (t_MO_clock_L36 x1 fu M v2 v3 v4 v5 v6) := by
  intro n
  induction n with
  | zero =>
    intro fu M v2 v3 v4 v5 v6 g0 g1 g2 h
    obtain ⟨g, rfl⟩ : ∃ g, fu = g + 1 := ⟨fu - 1, by omega⟩
    rw [t_MO_clock_L36, h.1.1.2.1.1.2.2.1, if_pos (by omega)]
    exact ok_ite (fun _ => ok_some h) (fun _ => ok_ite (fun _ => ok_some h) (fun _ => ok_ite (fun _ => ok_some h) (fun _ => ok_some h)))
  | succ n ih =>
    intro fu M v2 v3 v4 v5 v6 g0 g1 g2 h
    obtain ⟨g, rfl⟩ : ∃ g, fu = g + 1 := ⟨fu - 1, by omega⟩
    have hv := h.1.1.1.1
    rw [t_MO_clock_L36, h.1.1.2.1.1.2.2.1, if_neg (by omega)]
    exact kq_clock_L50 ⟨g1, by omega⟩ (fun N a b c d hN => ih g N a b c d (v6 + 1) (by omega) (by omega) (by omega) hN) 5 FU M _ _ _ _ 0 (by omega) (by omega) (fu_big (by omega)) h
theorem kq_clock {M : Mem} {V : TV} (h : RI M V) (x1 : Int) : Ok (fun r => KQ M V r.1) (t_MO_clock M x1) := by
  unfold t_MO_clock
  refine ok_let (fun M1 e1 => ?_)
  have h1 : KQ M V M1 := ⟨by rw [e1]; exact h.set0 0, by rw [e1]; exact Fr.rf.setI (by unfold QmW; omega)⟩
  have hv := h.1.1.1
  refine ok_ite (fun _ => ok_some h1) (fun _ => ok_ite (fun _ => ?_) (fun _ => ok_some h1))
  refine ok_bind (ri_longest (by omega) h1.1 h1.1.row0) (fun q hq => ?_)
  have hq2 : KQ M V q.1 := ⟨h1.1.fr hq LGW_RIc, h1.2.trans (hq.mono (fun k j z => by unfold LGW at z; unfold QmW; omega))⟩
  exact kq_clock_L36 (V 0 2).toNat FU _ _ _ _ _ 0 (by omega) (by omega) (fu_big (by omega)) hq2
def FdW : Nat → Int → Prop := fun k j => (k = 0 ∧ j = 1) ∨ k = 1
theorem ff_loop {x1 : Int} : ∀ (m fu : Nat) (M : Mem) (v : Int), v = 8 * (m : Int) - 8 → m < fu → m ≤ 4 → 0 ≤ M.1 0 1 → M.1 0 1 + (m : Int) ≤ 1000 → Ok (fun r => r.1 0 1 = M.1 0 1 + (m : Int) ∧ Fr FdW M r) (t_WF_feedFour_L3 x1 fu M v) := by
  intro m
  induction m with
  | zero =>
    intro fu M v g0 g1 g2 g3 g4
    obtain ⟨g, rfl⟩ : ∃ g, fu = g + 1 := ⟨fu - 1, by omega⟩
    rw [t_WF_feedFour_L3, if_pos (by omega)]
    exact ok_some ⟨by omega, Fr.rf⟩
  | succ m ih =>
    intro fu M v g0 g1 g2 g3 g4
    obtain ⟨g, rfl⟩ : ∃ g, fu = g + 1 := ⟨fu - 1, by omega⟩
    have f1 : Fr FdW M (t_WF_put M 1 700 (M.1 0 1) (q_and (q_ushr x1 v) 255)) := fr_WF_put (fun k j z => by unfold W_WF_put at z; unfold FdW; omega) Fr.rf
    have e1 : (t_WF_put M 1 700 (M.1 0 1) (q_and (q_ushr x1 v) 255)).1 0 1 = M.1 0 1 := (fr_WF_put (W := fun k _ => k = 1) (M0 := M) (fun k j z => by unfold W_WF_put at z; exact z) Fr.rf 0 1 (by omega)).1
    rw [t_WF_feedFour_L3, if_neg (by omega), w32_id (x := v + -8) (by unfold InR; omega)]
    simp (config := { proj := false }) only [qlet]
    generalize t_WF_put M 1 700 (M.1 0 1) (q_and (q_ushr x1 v) 255) = N at *
    rw [e1, w32_id (x := M.1 0 1 + 1) (by unfold InR; omega)]
    have f2 : Fr FdW M (setI N 0 1 (M.1 0 1 + 1)) := f1.setI (by unfold FdW; omega)
    have v1 : (setI N 0 1 (M.1 0 1 + 1)).1 0 1 = M.1 0 1 + 1 := sI_self _ _ _ _
    exact ok_mono (ih g _ (v + -8) (by omega) (by omega) (by omega) (by omega) (by omega)) (fun r hr => ⟨by omega, f2.trans hr.2⟩)
theorem ff_one {x1 : Int} {M : Mem} (hx : InR x1) (hM : IM M) (g3 : 0 ≤ M.1 0 1) (g4 : M.1 0 1 ≤ 700) : Ok (fun r => IM r ∧ r.1 0 1 = M.1 0 1 + 4 ∧ Fr FdW M r) (t_WF_feedFour M x1) := by
  have a := ff_loop (x1 := x1) 4 FU M 24 (by omega) (fu_big (by omega)) (by omega) g3 (by omega)
  refine ok_mono (ok_and (sf_WF_feedFour hM hx) (Q := fun r => r.1 0 1 = M.1 0 1 + 4 ∧ Fr FdW M r) ?_) (fun r hr => ⟨hr.1, hr.2⟩)
  intro r e
  obtain ⟨r', e', h'⟩ := a
  have : r' = r := Option.some.inj (e'.symm.trans e)
  rw [← this]
  exact h'
theorem c_feed0 {x1 x2 x3 x4 x5 : Int} {M : Mem} (h1 : InR x1) (h2 : InR x2) (h3 : InR x3) (h4 : InR x4) (h5 : InR x5) (hM : IM M) (g3 : 0 ≤ M.1 0 1) (g4 : M.1 0 1 ≤ 700) : Ok (fun r => IM r.1 ∧ Fr FdW M r.1 ∧ ((M.1 0 1 ≤ 680 ∧ r.2 = M.1 0 1 + 20 ∧ r.1.1 0 1 = M.1 0 1 + 20) ∨ (¬ M.1 0 1 ≤ 680 ∧ r.2 = -1 ∧ r.1.1 0 1 = M.1 0 1))) (t_WF_feed M x1 x2 x3 x4 x5) := by
  unfold t_WF_feed
  rw [w32_id (x := M.1 0 1 + 20) (by unfold InR; omega)]
  by_cases a : M.1 0 1 ≤ 680
  · rw [if_pos (by omega)]
    refine ok_bind (ff_one h1 hM g3 g4) (fun q1 k1 => ok_bind (ff_one h2 k1.1 (by omega) (by omega)) (fun q2 k2 => ok_bind (ff_one h3 k2.1 (by omega) (by omega)) (fun q3 k3 => ok_bind (ff_one h4 k3.1 (by omega) (by omega)) (fun q4 k4 => ok_bind (ff_one h5 k4.1 (by omega) (by omega)) (fun q5 k5 => ok_some ⟨k5.1, (((k1.2.2.trans k2.2.2).trans k3.2.2).trans k4.2.2).trans k5.2.2, Or.inl ⟨a, ?_, ?_⟩⟩)))))
    · show q5.1 0 1 = _
      omega
    · show q5.1 0 1 = _
      omega
  · rw [if_neg (by omega)]
    exact ok_some ⟨hM, Fr.rf, Or.inr ⟨a, rfl, rfl⟩⟩
theorem c_feed {x1 x2 x3 x4 x5 : Int} {M : Mem} (h1 : InR x1) (h2 : InR x2) (h3 : InR x3) (h4 : InR x4) (h5 : InR x5) (hM : IM M) (g3 : 0 ≤ M.1 0 1) (g4 : M.1 0 1 ≤ 700) : Ok (fun r => IM r.1 ∧ Fr FdW M r.1 ∧ ((M.1 0 1 ≤ 680 ∧ r.2 = M.1 0 1 + 20 ∧ r.1.1 0 1 = M.1 0 1 + 20 ∧ (∀ j, 0 ≤ j → j < 20 → r.1.1 1 (M.1 0 1 + j) = fdB x1 x2 x3 x4 x5 j) ∧ (∀ j, j < M.1 0 1 → r.1.1 1 j = M.1 1 j)) ∨ (¬ M.1 0 1 ≤ 680 ∧ r.2 = -1 ∧ r.1.1 0 1 = M.1 0 1 ∧ r.1 = M))) (t_WF_feed M x1 x2 x3 x4 x5) := by
  by_cases a : M.1 0 1 ≤ 680
  · refine ok_mono (ok_and (c_feed0 h1 h2 h3 h4 h5 hM g3 g4) (c_fd g3 a)) (fun r hr => ⟨hr.1.1, hr.1.2.1, Or.inl ⟨a, ?_, ?_, hr.2⟩⟩)
    · rcases hr.1.2.2 with q | q
      · exact q.2.1
      · exact absurd a q.1
    · rcases hr.1.2.2 with q | q
      · exact q.2.2
      · exact absurd a q.1
  · refine ok_mono (ok_and (c_feed0 h1 h2 h3 h4 h5 hM g3 g4) (c_fd_no (by omega) a)) (fun r hr => ⟨hr.1.1, hr.1.2.1, Or.inr ⟨a, ?_, by rw [hr.2], hr.2⟩⟩)
    rcases hr.1.2.2 with q | q
    · exact absurd q.1 a
    · exact q.2.1
/-- feed, both sides -/
theorem bs_feed {x1 x2 x3 x4 x5 : Int} {M : Mem} (h : LI M) (h1 : InR x1) (h2 : InR x2) (h3 : InR x3) (h4 : InR x4) (h5 : InR x5) : Ok (fun q => Ok (fun r => q.2 = r.2 ∧ LI r.1) (t_MO_feed q.1 x1 x2 x3 x4 x5)) (t_WF_feed M x1 x2 x3 x4 x5) := by
  have hTT := h.T
  obtain ⟨hI, ⟨V, hR, hX, hRL⟩, hT, hP, hl, hE, hf⟩ := h
  have t0 := hT.1
  refine ok_mono (c_feed h1 h2 h3 h4 h5 hI (by omega) (by omega)) (fun q hq => ?_)
  obtain ⟨q1, q2, q3⟩ := hq
  have r1 : RI q.1 V := hR.fr q2 (fun k j a z => by unfold RIc at a; unfold FdW at z; omega)
  have rl1 : RL q.1 V := hRL.frf hR.1.1 hR.yr q2 (fun k j a z => by unfold RLf at a; unfold FdW at z; omega)
  have r2 : TInv q.1 := hT.fr q2 (fun k j a z => by unfold FdW at z; omega)
  have e2 : q.1.1 191 2 = M.1 191 2 := (q2 191 2 (by unfold FdW; omega)).1
  have e4 : q.1.1 0 4 = M.1 0 4 := (q2 0 4 (by unfold FdW; omega)).1
  have e5 : q.1.1 0 5 = M.1 0 5 := (q2 0 5 (by unfold FdW; omega)).1
  have x192 : ∀ j, q.1.1 192 j = M.1 192 j := fun j => (q2 192 j (by unfold FdW; omega)).1
  have X1 : CTx q.1 (M.1 0 4).toNat V := hX.fr q2 (fun k j a z => by unfold CxW at a; unfold FdW at z; omega)
  have F1 : FE q.1 := hf.fr q2 (fun k j a z => by unfold FdW at z; omega)
  have fd : Post (fun r => (q.1.1 191 2 ≤ 680 → (∀ j, 0 ≤ j → j < 20 → r.1.1 192 (q.1.1 191 2 + j) = fdB x1 x2 x3 x4 x5 j) ∧ (∀ j, j < q.1.1 191 2 → r.1.1 192 j = q.1.1 192 j)) ∧ (¬ q.1.1 191 2 ≤ 680 → ∀ j, r.1.1 192 j = q.1.1 192 j)) (t_MO_feed q.1 x1 x2 x3 x4 x5) := by
    intro r er
    by_cases a : q.1.1 191 2 ≤ 680
    · exact ⟨fun _ => m_fd (by omega) a r er, fun z => absurd a z⟩
    · exact ⟨fun z => absurd z a, fun _ => m_fd_no a r er⟩
  refine ok_mono (ok_and (ok_and (ok_and (ri_feed r1 r2 x1 x2 x3 x4 x5) (im_MO_feed q1 h1 h2 h3 h4 h5)) (fr_MO_feed (W := W_MO_feed) (M0 := q.1) (fun k j z => z) Fr.rf)) fd) (fun r hr => ?_)
  obtain ⟨⟨⟨⟨s1, s2, s3⟩, s4⟩, s5⟩, s6⟩ := hr
  have f1 : r.1.1 0 1 = q.1.1 0 1 := (s5 0 1 (by unfold W_MO_feed; omega)).1
  have f4 : r.1.1 0 4 = q.1.1 0 4 := (s5 0 4 (by unfold W_MO_feed; omega)).1
  have f5 : r.1.1 0 5 = q.1.1 0 5 := (s5 0 5 (by unfold W_MO_feed; omega)).1
  have y1 : ∀ j, r.1.1 1 j = q.1.1 1 j := fun j => (s5 1 j (by unfold W_MO_feed; omega)).1
  refine ⟨by omega, s4.1, ⟨V, s1, ?_, rl1.frf hR.1.1 r1.yr s5 (fun k j a z => by unfold RLf at a; unfold W_MO_feed at z; omega)⟩, s2, ?_, by omega, ?_, F1.fr s5 (fun k j a z => by unfold W_MO_feed at z; omega)⟩
  · rw [f4, e4]
    exact X1.fr s5 (fun k j a z => by unfold CxW at a; unfold W_MO_feed at z; omega)
  · unfold TPt at *
    omega
  · unfold TpE
    intro j a b
    rw [f1] at b
    rw [y1]
    rcases q3 with ⟨a1, a2, a3, a4, a5⟩ | ⟨a1, a2, a3, a4⟩
    · obtain ⟨b1, b2⟩ := s6.1 (by omega)
      by_cases c : j < M.1 0 1
      · rw [a5 j c, b2 j (by omega), x192]
        exact hE j a c
      · have p := a4 (j - M.1 0 1) (by omega) (by omega)
        have s := b1 (j - M.1 0 1) (by omega) (by omega)
        rw [show M.1 0 1 + (j - M.1 0 1) = j by omega] at p
        rw [show q.1.1 191 2 + (j - M.1 0 1) = j by omega] at s
        rw [p, s]
    · have b1 := s6.2 (by omega)
      rw [a4, b1 j, x192]
      exact hE j a (by omega)
/-- a new start, both sides -/
theorem rl_new {N P : Mem} {V : TV} {T : Nat} (hT : T = 2 ∨ T = 22) (hV : VOK V) (hX : CTx N T V) (hB : BgC N T) (hL : 0 ≤ N.1 70 1 ∧ N.1 70 1 < 20) (hO : BgO P V) (h42 : P.1 191 42 = 0) (h43 : P.1 191 43 = 0) (h60 : P.1 191 60 = 0) (h61 : P.1 191 61 = -1) (hF : Fr W_MO_text N P) : RL P V := by
  have hv := hV.1
  obtain ⟨b1, b2, ⟨b3, b4, b5⟩, ⟨b6, b7, b8⟩, b9, b10, b11, b12, b13⟩ := hB
  obtain ⟨⟨o1, o2, o3, o4, o5⟩, o6, o7⟩ := hO
  have x0 := hX.1
  have e : ∀ q j, q < 191 → P.1 q j = N.1 q j ∧ P.2 q j = N.2 q j := fun q j x => hF q j (by unfold W_MO_text; omega)
  refine ⟨⟨fun w x y => ?_, fun t x y => ⟨?_, ?_, ?_⟩, ?_, ?_, fun c x y => ?_⟩, ⟨?_, ?_, ?_, fun y x z => ?_⟩, past_none ?_ ?_ h43, ⟨?_, fun z => ?_⟩, ⟨?_, ?_, fun k x y => ?_⟩, CaR.zero ?_⟩
  · show P.1 48 w = P.1 212 (4 * 0 + w)
    rw [(e 48 w (by omega)).1, b1 w x (by omega), show (4 : Int) * 0 + w = w by omega, o6 w x (by omega), if_neg (by omega)]
    exact (x0.2.1 w x y).2.1
  · show P.1 49 t = P.1 213 (8 * 0 + t)
    rw [(e 49 t (by omega)).1, (b2 t x (by omega)).1, show (8 : Int) * 0 + t = t by omega, (o7 t x (by omega)).1, if_neg (by omega)]
    exact (x0.2.2.1 t x y).2.2
  · show P.1 50 t = P.1 214 (8 * 0 + t)
    rw [(e 50 t (by omega)).1, (b2 t x (by omega)).2.1, show (8 : Int) * 0 + t = t by omega, (o7 t x (by omega)).2.1]
  · show P.1 51 t = P.1 215 (8 * 0 + t)
    rw [(e 51 t (by omega)).1, (b2 t x (by omega)).2.2, show (8 : Int) * 0 + t = t by omega, (o7 t x (by omega)).2.2]
  · rw [(e 47 5 (by omega)).2, b4, o4]
  · rw [(e 47 6 (by omega)).2, b5, o5]
  · rw [(e 47 4 (by omega)).2, b3]; exact (x0.2.2.2 c x y).2.1
  · rw [(e 62 3 (by omega)).1, b6, o1]
  · rw [(e 62 4 (by omega)).1, b7, o2]
  · rw [(e 62 5 (by omega)).2, b8, o3, x0.1.2.2.2.2.2]
  · rw [o1] at z; omega
  · rw [(e 70 2 (by omega)).1]; exact b10
  · rw [(e 70 1 (by omega)).1]; exact hL
  · rw [(e 0 13 (by omega)).1, b9, h42]
  · rw [h42] at z; exact absurd z (by decide)
  · rw [(e 172 5 (by omega)).1, b11, h60]
  · rw [(e 172 6 (by omega)).1, b12, h61]
  · rw [h60] at y; omega
  · rw [(e 177 8 (by omega)).1]; exact b13
/-- text, both sides -/
theorem tx_k {k : Nat} {j : Int} (z : W_MO_text k j) : 191 ≤ k := by
  unfold W_MO_text at z
  rcases z with z | z | z | z | z | z | z | z | z | z | z | z | z | z | z | z | z | z | z | z | z | z | z | z <;> omega
theorem tx_r3 {T k : Nat} {j : Int} (hT : T + 17 < 191) (x : CxW T k j) (z : W_MO_text k j) : False := by
  have := tx_k z
  unfold CxW at x
  omega
theorem tx_c {T k : Nat} {j : Int} (hT : T = 2 ∨ T = 22) (z : TfC T k j) : k ≤ 46 ∧ ¬ (k = 0 ∧ j = 13) := by
  unfold TfC at z
  omega
theorem tx_r1 {T k : Nat} {j : Int} (hT : T = 2 ∨ T = 22) (x : RLf k j ∨ (k = 177 ∧ 6 ≤ j ∧ j ≤ 8) ∨ k = 184) (z : TfC T k j) : False := by
  have := tx_c hT z
  unfold RLf at x
  omega
theorem tx_w {k : Nat} {j : Int} (z : TfW k j) : 191 ≤ k ∧ k ≤ 206 ∧ ¬ (k = 191 ∧ 29 < j) := by
  unfold TfW StW at z
  rcases z with (z | z | z | z | z | z | z) | z <;> omega
theorem tx_r2 {k : Nat} {j : Int} (x : RLf k j ∨ (k = 177 ∧ 6 ≤ j ∧ j ≤ 8) ∨ k = 184) (z : TfW k j) : False := by
  have := tx_w z
  unfold RLf at x
  omega
theorem tx_r4 {T k : Nat} {j : Int} (hT : T = 2 ∨ T = 22) {U : Nat} (hU : U = 2 ∨ U = 22) (ne : U ≠ T) (x : CxW U k j) (z : TfC T k j) : False := by
  unfold CxW at x
  unfold TfC at z
  rcases z with z | z | z <;> omega
theorem bs_text {x1 : Int} {M : Mem} (h : LI M) (h1 : InR x1) : Ok (fun q => Ok (fun r => q.2 = r.2 ∧ LI r.1) (t_MO_text q.1 x1)) (t_WF_text M x1) := by
  have hTT := h.T
  have h' := h
  obtain ⟨hI, ⟨V, hR, hX, hRL⟩, hT, hP, hl, hE, hf⟩ := h
  have t0 := hT.1
  have hT5 : M.1 0 5 = 2 ∨ M.1 0 5 = 22 := by unfold TPt at hP; omega
  have T5 : M.1 0 5 = (((M.1 0 5).toNat : Nat) : Int) := by omega
  by_cases hx : 0 ≤ x1 ∧ x1 ≤ M.1 0 1
  · have hB : TpC M (fun j => M.1 192 j) x1 := ⟨by omega, fun j a b => ⟨hE j a (by omega), hT.2 j a (by omega)⟩⟩
    have hPT : ((M.1 0 4).toNat = 2 ∧ (M.1 0 5).toNat = 22) ∨ ((M.1 0 4).toNat = 22 ∧ (M.1 0 5).toNat = 2) := by unfold TPt at hP; omega
    obtain ⟨N, r, n1, n2, n3, n4⟩ := cx_text hTT.1 T5 hPT hB hx
    obtain ⟨u, e, hu⟩ := sf_WF_text hI h1 hT5
    have : u = (N, r) := Option.some.inj (e.symm.trans n1)
    subst this
    have hIN : IM N := hu.1
    have e192 : ∀ j, N.1 192 j = M.1 192 j := fun j => (n3 192 j (by omega)).1
    have e2 : N.1 191 2 = M.1 191 2 := (n3 191 2 (by omega)).1
    have e70 : N.1 70 1 = M.1 70 1 := (n3 70 1 (by omega)).1
    have r1 : RI N V := hR.fr n3 (fun k j a z => by unfold RIc at a; omega)
    have r2 : TInv N := hT.fr n3 (fun k j a z => by omega)
    obtain ⟨P, s, p1, p2, p3, p4⟩ := ri_textV r1 r2 (x1 := x1) (by omega)
    have eB : (fun j => N.1 192 j) = (fun j => M.1 192 j) := funext e192
    rw [eB] at p4
    have hIP := im_MO_text hIN h1 _ p1
    have fP := fr_MO_text (W := W_MO_text) (M0 := N) (fun k j z => z) Fr.rf _ p1
    have g : ∀ j, P.1 0 j = N.1 0 j := fun j => (fP 0 j (by unfold W_MO_text; omega)).1
    refine ⟨(N, r), n1, (P, s), p1, ?_, hIP.1, ?_⟩
    · show r = s
      rcases n4 with ⟨a1, a2, -⟩ | ⟨a1, a2, -⟩
      · rcases p4 with ⟨b1, b2, -⟩ | ⟨b1, b2, -⟩
        · exact absurd a1 b1
        · rw [a2, b2]
      · rcases p4 with ⟨b1, b2, -⟩ | ⟨b1, b2, -⟩
        · rw [a2, b2]
        · exact absurd b1 a1
    · have tpe : TpE P := fun j a b => by
        have b : j < P.1 0 1 := b
        rw [g 1, n2] at b; omega
      rcases n4 with ⟨a1, a2, a3, a4, a5, a6, a7, a8⟩ | ⟨a1, a2, a3, a4, a5⟩
      · rcases p4 with ⟨b1, -⟩ | ⟨b1, b2, b3, b4, b5, b6, b7, b8, b9, b10, b11⟩
        · exact absurd a1 b1
        · refine ⟨⟨_, b3, ?_, rl_new (by omega) b6.1 a5 a8 (by rw [e70]; exact hRL.2.2.1.2.1) b7 b8 b9 b10 b11 fP⟩, p2, ?_, ?_, tpe, ?_, ?_⟩
          · show CTx P (P.1 0 4).toNat _
            rw [g 4, a3, Int.toNat_natCast]
            exact a5.fr fP (fun k j x z => tx_r3 (by omega) x z)
          · show (P.1 0 4 = 2 ∧ P.1 0 5 = 22) ∨ (P.1 0 4 = 22 ∧ P.1 0 5 = 2)
            rw [g 4, g 5, a3, a4]; omega
          · show P.1 0 1 = P.1 191 2
            rw [g 1, n2, p3]
          · show P.1 0 2 = P.1 191 26
            rw [g 2, a6, b4]
          · show P.1 0 3 = P.1 191 27
            rw [g 3, a7, b5]
      · rcases p4 with ⟨b1, b2, b3, b4, b5, b6⟩ | ⟨b1, -⟩
        · have c4 : N.1 0 4 = M.1 0 4 := (a5 0 4 (by unfold TfC; omega)).1
          have c5 : N.1 0 5 = M.1 0 5 := (a5 0 5 (by unfold TfC; omega)).1
          have rN : RL N V := hRL.frf hR.1.1 hR.yr a5 (fun k j x z => tx_r1 (by omega) x z)
          refine ⟨⟨V, b3, ?_, rN.frf hR.1.1 r1.yr b6 (fun k j x z => tx_r2 x z)⟩, p2, ?_, ?_, tpe, ?_, ?_⟩
          · show CTx P (P.1 0 4).toNat V
            rw [g 4, c4]
            exact (hX.fr a5 (fun k j x z => tx_r4 (by omega) (by omega) (by omega) x z)).fr fP (fun k j x z => tx_r3 (by omega) x z)
          · show (P.1 0 4 = 2 ∧ P.1 0 5 = 22) ∨ (P.1 0 4 = 22 ∧ P.1 0 5 = 2)
            rw [g 4, g 5, c4, c5]; exact hP
          · show P.1 0 1 = P.1 191 2
            rw [g 1, n2, p3]
          · show P.1 0 2 = P.1 191 26
            rw [g 2, a3, b4]
          · show P.1 0 3 = P.1 191 27
            rw [g 3, a4, b5]
        · exact absurd b1 a1
  · have ec : t_WF_text M x1 = some (M, -2) := by
      unfold t_WF_text
      by_cases a : x1 < 0
      · rw [if_pos a]
      · rw [if_neg a, if_neg (by omega)]
    have em : t_MO_text M x1 = some (setI M 191 0 0, -2) := by
      rcases m_text (x1 := x1) hT with ⟨a, e⟩ | ⟨a, -⟩
      · exact e
      · exact absurd (show 0 ≤ x1 ∧ x1 ≤ M.1 0 1 by omega) hx
    exact ⟨(M, -2), ec, (setI M 191 0 0, -2), em, rfl, h'.at0⟩
end
section
/-! where the scratch lies -/
theorem qc_ri {q : Nat} {j : Int} (z : QcW q j) : q < 191 ∨ q = 231 := by unfold QcW QkW at z; omega
theorem ric_lo {q : Nat} {j : Int} (z : RIc q j) : 191 ≤ q ∧ q ≤ 228 := by unfold RIc at z; omega
theorem qk_ri {q : Nat} {j : Int} (z : QkW q j) : q < 191 ∨ q = 231 := by unfold QkW at z; omega
end
section
/-! ===== the class's formula, its value ===== -/
def ckC (q : Int64) : Option Int64 := if 1000000000000 < q then none else if -1000000000000 ≤ q then some q else none
theorem ckC_eq (q : Int64) : ckC q = chkS q := by
  unfold ckC chkS
  by_cases a : 1000000000000 < q
  · rw [if_pos a, if_pos a]
  · rw [if_neg a, if_neg a]
    by_cases b : -1000000000000 ≤ q
    · rw [if_pos b, if_neg (Int64.not_lt.mpr b)]
    · rw [if_neg b, if_pos (Int64.not_le.mp b)]
theorem ckC_min : ckC (-9223372036854775808) = none := by decide +kernel
theorem c_product (M : Mem) (x y : Int64) (hd : q_absl 0 ≤ 1000000000000 / q_absl x) : ∃ q, t_Formula_product M x y = some q ∧ ckC q = (if x = 0 then chkS (x * y) else if q_absl y ≤ 1000000000000 / q_absl x then chkS (x * y) else none) := by
  unfold t_Formula_product
  by_cases a : x = 0
  · rw [if_pos a, if_pos a]
    refine ⟨0, rfl, ?_⟩
    rw [a, Int64.zero_mul, ckC_eq]
  · rw [if_neg a, if_neg a]
    by_cases b : y = 0
    · rw [if_pos b]
      refine ⟨0, rfl, ?_⟩
      rw [b, if_pos hd, Int64.mul_zero, ckC_eq]
    · rw [if_neg b, if_neg (fun q => a (absl_zero q))]
      by_cases c : q_absl y ≤ 1000000000000 / q_absl x
      · rw [if_pos c, if_pos c]; exact ⟨_, rfl, ckC_eq _⟩
      · rw [if_neg c, if_neg c]; exact ⟨_, rfl, ckC_min⟩
theorem c_join (M : Mem) {c : Int} {x y : Int64} (hc : ktwo c) (hd : q_absl 0 ≤ 1000000000000 / q_absl x) : ∃ q, t_Formula_join M c x y = some q ∧ ckC q = joinS c x y := by
  have b0 : ∀ N : Mem, t_Formula_asBit N 0 = 0 := fun N => rfl
  have b1 : ∀ N : Mem, t_Formula_asBit N 1 = 1 := fun N => rfl
  unfold ktwo at hc
  have hc' : c = 15 ∨ c = 16 ∨ c = 43 ∨ c = 44 ∨ c = 45 ∨ c = 46 ∨ c = 47 ∨ c = 48 ∨ c = 49 ∨ c = 50 ∨ c = 51 ∨ c = 52 := by omega
  have hp := c_product M x y hd
  unfold t_Formula_join t_Formula_join_L180 t_Formula_join_L185 t_Formula_join_L205 t_Formula_join_L206 t_Formula_join_L221 t_Formula_join_L236 t_Formula_join_L251 t_Formula_join_L266 t_Formula_join_L281 t_Formula_join_L296 t_Formula_join_L314 joinS
  simp only [qlet, b0, b1]
  rcases hc' with rfl | rfl | rfl | rfl | rfl | rfl | rfl | rfl | rfl | rfl | rfl | rfl
  · simp only [Int.reduceEq, ↓reduceIte]
    by_cases a : x = 0
    · rw [if_pos a, if_pos a]
      by_cases b : y = 0
      · rw [if_pos b, if_pos b]; exact ⟨_, rfl, ckC_eq _⟩
      · rw [if_neg b, if_neg b]; exact ⟨_, rfl, ckC_eq _⟩
    · rw [if_neg a, if_neg a]; exact ⟨_, rfl, ckC_eq _⟩
  · simp only [Int.reduceEq, ↓reduceIte]
    by_cases a : x = 0
    · rw [if_pos a, if_pos a]; exact ⟨_, rfl, ckC_eq _⟩
    · rw [if_neg a, if_neg a]
      by_cases b : y = 0
      · rw [if_pos b, if_pos b]; exact ⟨_, rfl, ckC_eq _⟩
      · rw [if_neg b, if_neg b]; exact ⟨_, rfl, ckC_eq _⟩
  · simp only [Int.reduceEq, ↓reduceIte]; exact ⟨_, rfl, ckC_eq _⟩
  · simp only [Int.reduceEq, ↓reduceIte]; exact ⟨_, rfl, ckC_eq _⟩
  · simp only [Int.reduceEq, ↓reduceIte]
    obtain ⟨q, q1, q2⟩ := hp
    rw [q1, obind_some]
    exact ⟨q, rfl, q2⟩
  · simp only [Int.reduceEq, ↓reduceIte]
    by_cases b : y = 0
    · rw [if_pos b, if_pos b]; exact ⟨_, rfl, ckC_min⟩
    · rw [if_neg b, if_neg b]; exact ⟨_, rfl, ckC_eq _⟩
  · simp only [Int.reduceEq, ↓reduceIte]
    by_cases b : y ≤ x
    · rw [if_pos b, if_pos b]; exact ⟨_, rfl, ckC_eq _⟩
    · rw [if_neg b, if_neg b]; exact ⟨_, rfl, ckC_eq _⟩
  · simp only [Int.reduceEq, ↓reduceIte]
    by_cases b : y < x
    · rw [if_pos b, if_pos b]; exact ⟨_, rfl, ckC_eq _⟩
    · rw [if_neg b, if_neg b]; exact ⟨_, rfl, ckC_eq _⟩
  · simp only [Int.reduceEq, ↓reduceIte]
    by_cases b : x = y
    · rw [if_pos b, if_pos b]; exact ⟨_, rfl, ckC_eq _⟩
    · rw [if_neg b, if_neg b]; exact ⟨_, rfl, ckC_eq _⟩
  · simp only [Int.reduceEq, ↓reduceIte]
    by_cases b : x = y
    · rw [if_pos b, if_pos b]; exact ⟨_, rfl, ckC_eq _⟩
    · rw [if_neg b, if_neg b]; exact ⟨_, rfl, ckC_eq _⟩
  · simp only [Int.reduceEq, ↓reduceIte]
    by_cases b : x < y
    · rw [if_pos b, if_pos b]; exact ⟨_, rfl, ckC_eq _⟩
    · rw [if_neg b, if_neg b]; exact ⟨_, rfl, ckC_eq _⟩
  · simp only [Int.reduceEq, ↓reduceIte]
    by_cases b : x ≤ y
    · rw [if_pos b, if_pos b]; exact ⟨_, rfl, ckC_eq _⟩
    · rw [if_neg b, if_neg b]; exact ⟨_, rfl, ckC_eq _⟩
theorem c_value_loop {M0 : Mem} {k0 r1 N1 : Nat} {K L : Int → Int} {n : Int} {nm : Int → Int64} (hK : KOK K n) (ho : OutR M0 k0 K L n) (h4 : 0 < n → ¬ M0.1 k0 4 = 0) (hr : r1 ≠ k0 + 3) (hN : N1 = 7) (hn : ∀ j, 0 ≤ j → j ≤ 6 → M0.2 r1 j = nm j) (hd : ∀ x : Int64, q_absl 0 ≤ 1000000000000 / q_absl x) : ∀ (m i fu : Nat) (M : Mem) (st : List Int64), (i : Int) + (m : Int) = n → m < fu → Fr (fun q _ => q = k0 + 3) M0 M → (∀ k j, M.1 k j = M0.1 k j) → evS K L nm i = some st → Stk (M.2 (k0 + 3)) st → ∃ N, t_Formula_value_L4 k0 r1 N1 fu M (st.length : Int) (i : Int) = some (N, eM (valS K L nm n)) ∧ Fr (fun q _ => q = k0 + 3) M0 N := by
  obtain ⟨o1, o2⟩ := ho
  intro m
  induction m with
  | zero =>
    intro i fu M st g0 g1 hF hI he hst
    obtain ⟨g, rfl⟩ : ∃ g, fu = g + 1 := ⟨fu - 1, by omega⟩
    rw [t_Formula_value_L4, hI k0 3, o1, if_pos (by omega)]
    unfold t_Formula_value_L234
    have hi : n.toNat = i := by omega
    by_cases h0 : 0 < n
    · obtain ⟨v, rfl, hv⟩ := valS_some hK h0 (by rw [hi]; exact he)
      rw [if_pos (show (([v] : List Int64).length : Int) = 1 from rfl), hv]
      have : M.2 (k0 + 3) 0 = v := hst.1
      rw [this]
      exact ⟨M, rfl, hF⟩
    · have i0 : i = 0 := by have := hK.1; omega
      subst i0
      have e0 : st = [] := (Option.some.inj he).symm
      subst e0
      have hv : valS K L nm n = none := by unfold valS; rw [hi]; rfl
      rw [if_neg (show ¬ (([] : List Int64).length : Int) = 1 by decide), hv]
      exact ⟨M, rfl, hF⟩
  | succ m ih =>
    intro i fu M st g0 g1 hF hI he hst
    obtain ⟨g, rfl⟩ : ∃ g, fu = g + 1 := ⟨fu - 1, by omega⟩
    have hln := ev_len hK i (by omega) st he
    have hle := hK.2.1
    have q := o2 (i : Int) (by omega) (by omega)
    have lk1 : t_WF_look M (k0 + 1) 64 (i : Int) = K (i : Int) := by rw [look_in (by omega) (by omega), hI]; exact q.1
    have lk2 : t_WF_look M (k0 + 2) 64 (i : Int) = L (i : Int) := by rw [look_in (by omega) (by omega), hI]; exact q.2
    rw [t_Formula_value_L4, hI k0 3, o1, if_neg (by omega), hI k0 4, if_neg (h4 (by omega))]
    simp (config := { proj := false }) only [qlet]
    rw [lk1]
    have push : ∀ v : Int64, knS K L nm (i : Int) st = some (v :: st) → ∃ N, t_Formula_value_L90 k0 r1 N1 (fun a0_ a1_ a2_ => t_Formula_value_L4 k0 r1 N1 g a0_ a1_ a2_) M (st.length : Int) (i : Int) (st.length : Int) v = some (N, eM (valS K L nm n)) ∧ Fr (fun q _ => q = k0 + 3) M0 N := by
      intro v hv
      unfold t_Formula_value_L90 t_Formula_value_L228
      simp (config := { proj := false }) only [qlet]
      rw [qguard_pos ⟨by omega, by omega⟩, w32_succ (t := st.length) (by omega), w32_succ (t := i) (by omega)]
      exact ih (i + 1) g _ (v :: st) (by omega) (by omega) (hF.setL rfl) (fun k j => hI k j) (by rw [evS, he]; exact hv) ⟨sL_self _ _ _ _, Stk.of (fun j hj => sL_ne (by omega)) hst⟩
    have stay : ∀ (P : Mem) (s' : List Int64), Fr (fun q _ => q = k0 + 3) M0 P → (∀ k j, P.1 k j = M0.1 k j) → knS K L nm (i : Int) st = some s' → Stk (P.2 (k0 + 3)) s' → ∃ N, t_Formula_value_L228 k0 r1 N1 (fun a0_ a1_ a2_ => t_Formula_value_L4 k0 r1 N1 g a0_ a1_ a2_) P (s'.length : Int) (i : Int) = some (N, eM (valS K L nm n)) ∧ Fr (fun q _ => q = k0 + 3) M0 N := by
      intro P s' hP hPI hv hs
      unfold t_Formula_value_L228
      rw [w32_succ (t := i) (by omega)]
      exact ih (i + 1) g P s' (by omega) (by omega) hP hPI (by rw [evS, he]; exact hv) hs
    have nam : t_Formula_isName M (K (i : Int)) = if 18 ≤ K (i : Int) ∧ K (i : Int) ≤ 24 then 1 else 0 := by
      unfold t_Formula_isName
      by_cases a : K (i : Int) < 18
      · rw [if_pos a, if_neg (fun z => by omega)]
      · rw [if_neg a]
        by_cases b : 24 < K (i : Int)
        · rw [if_pos b, if_neg (fun z => by omega)]
        · rw [if_neg b, if_pos ⟨by omega, by omega⟩]
    rw [nam]
    have hk := hK.2.2.1 i (by omega)
    rcases hk with hk | hk | hk
    · rcases hk with hk | hk
      · rw [if_pos hk]
        unfold t_Formula_value_L44
        simp (config := { proj := false }) only [qlet]
        rw [if_pos (show (st.length : Int) < 64 by omega), if_pos hk, lk2]
        exact push _ (knS_num hk st)
      · rw [if_neg (show ¬ K (i : Int) = 31 by omega), if_pos hk, if_neg (show ¬ (1 : Int) = 0 by decide)]
        unfold t_Formula_value_L44
        simp (config := { proj := false }) only [qlet]
        rw [if_pos (show (st.length : Int) < 64 by omega), if_neg (show ¬ K (i : Int) = 31 by omega), w32_id (x := K (i : Int) - 18) (by unfold InR; omega)]
        have vo : t_Formula_valueOf M r1 N1 (K (i : Int) - 18) = nm (K (i : Int) - 18) := by
          unfold t_Formula_valueOf
          rw [if_neg (show ¬ K (i : Int) - 18 < 0 by omega), if_neg (show ¬ (N1 : Int) ≤ K (i : Int) - 18 by omega), (hF r1 _ hr).2]
          exact hn _ (by omega) (by omega)
        rw [vo]
        exact push _ (knS_name hk st)
    · rw [if_neg (show ¬ K (i : Int) = 31 by omega), if_neg (show ¬ (18 ≤ K (i : Int) ∧ K (i : Int) ≤ 24) by omega), if_pos rfl]
      match st, he, hst, hln, push, stay with
      | [], he, hst, hln, push, stay => simp only [List.length_nil] at hln; omega
      | y :: r, he, hst, hln, push, stay =>
        simp only [List.length_cons] at hln
        have hl : ((y :: r).length : Int) = (r.length : Int) + 1 := by simp only [List.length_cons]; omega
        have hy : M.2 (k0 + 3) (r.length : Int) = y := hst.1
        rw [hl, if_neg (show ¬ (r.length : Int) + 1 ≤ 0 by omega), if_neg (show ¬ 64 < (r.length : Int) + 1 by omega), if_pos hk.1, w32_id (x := (r.length : Int) + 1 - 1) (by unfold InR; omega), show (r.length : Int) + 1 - 1 = (r.length : Int) by omega, qguard_pos ⟨by omega, by omega⟩, hy]
        unfold t_Formula_value_L142 t_Formula_asBit
        simp (config := { proj := false }) only [qlet]
        have fin : ∀ b : Int64, b = (if y = 0 then 1 else 0) → ∃ N, (qguard (0 ≤ (r.length : Int) ∧ (r.length : Int) < 64) (t_Formula_value_L228 k0 r1 N1 (fun a0_ a1_ a2_ => t_Formula_value_L4 k0 r1 N1 g a0_ a1_ a2_) (setL M (k0 + 3) (r.length : Int) b) ((r.length : Int) + 1) (i : Int))) = some (N, eM (valS K L nm n)) ∧ Fr (fun q _ => q = k0 + 3) M0 N := by
          intro b hb
          rw [qguard_pos ⟨by omega, by omega⟩]
          have s := stay (setL M (k0 + 3) (r.length : Int) b) (b :: r) (hF.setL rfl) (fun k j => hI k j) (by rw [knS_not hk.1, hb]) ⟨sL_self _ _ _ _, Stk.of (fun j hj => sL_ne (by omega)) hst.2⟩
          rw [show ((b :: r).length : Int) = (r.length : Int) + 1 by simp only [List.length_cons]; omega] at s
          exact s
        by_cases z : y = 0
        · rw [if_pos z, if_neg (show ¬ (1 : Int) = 0 by decide)]
          exact fin 1 (by rw [if_pos z])
        · rw [if_neg z, if_pos trivial]
          exact fin 0 (by rw [if_neg z])
    · have hkt := hk.1
      unfold ktwo at hkt
      rw [if_neg (show ¬ K (i : Int) = 31 by omega), if_neg (show ¬ (18 ≤ K (i : Int) ∧ K (i : Int) ≤ 24) by omega), if_pos rfl]
      match st, he, hst, hln, push, stay with
      | [], he, hst, hln, push, stay => simp only [List.length_nil] at hln; omega
      | [y], he, hst, hln, push, stay => simp only [List.length_cons, List.length_nil] at hln; omega
      | y :: x :: r, he, hst, hln, push, stay =>
        simp only [List.length_cons] at hln
        have hl : ((y :: x :: r).length : Int) = (r.length : Int) + 2 := by simp only [List.length_cons]; omega
        have hy : M.2 (k0 + 3) ((r.length : Int) + 1) = y := by
          have := hst.1
          rw [show (((x :: r).length : Nat) : Int) = (r.length : Int) + 1 by simp only [List.length_cons]; omega] at this
          exact this
        have hx : M.2 (k0 + 3) (r.length : Int) = x := hst.2.1
        obtain ⟨v, v1, v2⟩ := c_join M (x := x) (y := y) hk.1 (hd x)
        rw [hl, if_neg (show ¬ (r.length : Int) + 2 ≤ 0 by omega), if_neg (show ¬ 64 < (r.length : Int) + 2 by omega), if_neg (show ¬ K (i : Int) = 17 by omega)]
        unfold t_Formula_value_L149
        simp (config := { proj := false }) only [qlet]
        rw [if_neg (show ¬ (r.length : Int) + 2 ≤ 1 by omega), if_neg (show ¬ 64 < (r.length : Int) + 2 by omega), w32_id (x := (r.length : Int) + 2 - 2) (by unfold InR; omega), w32_id (x := (r.length : Int) + 2 - 1) (by unfold InR; omega), show (r.length : Int) + 2 - 2 = (r.length : Int) by omega, show (r.length : Int) + 2 - 1 = (r.length : Int) + 1 by omega, qguard_pos ⟨by omega, by omega⟩, qguard_pos ⟨by omega, by omega⟩, hx, hy, v1, obind_some]
        have hno : joinS (K (i : Int)) x y = none → valS K L nm n = none := fun ej => by
          have hno : ∀ a : Nat, evS K L nm (i + 1 + a) = none := by
            intro a
            induction a with
            | zero => rw [Nat.add_zero, evS, he]; show knS K L nm (i : Int) (y :: x :: r) = none; rw [knS_two hk.1, ej]; rfl
            | succ a iha => rw [show i + 1 + (a + 1) = (i + 1 + a) + 1 by omega, evS, iha]; rfl
          have hna : n.toNat = i + 1 + (n.toNat - (i + 1)) := by omega
          exact valS_none (by rw [hna]; exact hno _)
        unfold ckC at v2
        by_cases a : 1000000000000 < v
        · rw [if_pos a] at v2
          rw [if_pos a, hno v2.symm]
          exact ⟨M, rfl, hF⟩
        rw [if_neg a] at v2
        rw [if_neg a]
        by_cases b : -1000000000000 ≤ v
        · rw [if_pos b] at v2
          rw [if_pos b, qguard_pos ⟨by omega, by omega⟩, w32_id (x := (r.length : Int) + 2 + -1) (by unfold InR; omega)]
          have s := stay (setL M (k0 + 3) (r.length : Int) v) (v :: r) (hF.setL rfl) (fun k j => hI k j) (by rw [knS_two hk.1, ← v2]; rfl) ⟨sL_self _ _ _ _, Stk.of (fun j hj => sL_ne (by omega)) hst.2.2⟩
          rw [show ((v :: r).length : Int) = (r.length : Int) + 2 + -1 by simp only [List.length_cons]; omega] at s
          exact s
        · rw [if_neg b] at v2
          rw [if_neg b, hno v2.symm]
          exact ⟨M, rfl, hF⟩
end
section
/-! ===== the class measures ===== -/
def MeW : Nat → Int → Prop := fun q j => q = 179 ∨ q = 180 ∨ q = 181 ∨ (q = 182 ∧ 1 ≤ j ∧ j ≤ 4) ∨ q = 183
def MeR (M : Mem) (V : TV) (f A : Int → Int) (t : Nat) : Prop := ∀ w, 0 ≤ w → w < 4 → M.1 179 w = (jyS V f A w t).1 ∧ M.1 180 w = (jyS V f A w t).2.1 ∧ M.1 181 w = (jyS V f A w t).2.2
theorem c_measure_loop {M0 : Mem} {T k2 : Nat} {V : TV} {D A S L : Int → Int} {nets wat : Int64} {wl : Int → Bool} (hV : VOK V) (hT : T = 2 ∨ T = 22) (hk2 : k2 = 47 ∨ k2 = 52) (hX : CT0 M0 T V ∧ CTs M0 T V) (hS : CScF M0 k2 V D A S L nets wat wl) (hA : ∀ t, 0 ≤ t → t < V 0 3 → 0 ≤ A t ∧ A t < cellsV V) : ∀ (n t fu : Nat) (M : Mem), (t : Int) + (n : Int) = V 0 3 → n < fu → Fr MeW M0 M → MeR M V (nxV V D nets wl) A t → ∃ N, t_Laws_measure_L26 T k2 fu M (t : Int) = some N ∧ Fr MeW M0 N ∧ MeR N V (nxV V D nets wl) A (V 0 3).toNat := by
  have hv := hV.1
  have hC := hV.cells
  intro n
  induction n with
  | zero =>
    intro t fu M g0 g1 hF hm
    obtain ⟨g, rfl⟩ : ∃ g, fu = g + 1 := ⟨fu - 1, by omega⟩
    have e15 : M.1 T 15 = V 0 3 := by rw [(hF T 15 (by unfold MeW; omega)).1]; exact hX.1.1.2.2.2.1
    rw [t_Laws_measure_L26, e15, if_pos (by omega), show (V 0 3).toNat = t by omega]
    exact ⟨M, rfl, hF, hm⟩
  | succ n ih =>
    intro t fu M g0 g1 hF hm
    obtain ⟨g, rfl⟩ : ∃ g, fu = g + 1 := ⟨fu - 1, by omega⟩
    have hd : ∀ q j, MeW q j → 179 ≤ q ∧ q ≤ 183 := fun q j z => by unfold MeW at z; omega
    have e15 : M.1 T 15 = V 0 3 := by rw [(hF T 15 (fun z => by have := hd _ _ z; omega)).1]; exact hX.1.1.2.2.2.1
    have XM : CT0 M T V ∧ CTs M T V := ⟨CT0.fr hF (fun q j x y z => by have := hd _ _ z; omega) hX.1, CTs.fr hF (fun q j x y z => by have := hd _ _ z; omega) hX.2⟩
    have SM := hS.fr hF (fun q j x z => by have := hd _ _ z; unfold CsW at x; omega)
    have ha := hA (t : Int) (by omega) (by omega)
    have lk : t_WF_look M (k2 + 2) 8 (t : Int) = A (t : Int) := by rw [look_in (by omega) (by omega)]; exact (SM.2.1 (t : Int) (by omega) (by omega)).1
    rw [t_Laws_measure_L26, e15, if_neg (by omega)]
    unfold t_Laws_measure_L141
    simp (config := { proj := false }) only [qlet]
    rw [lk, w32_succ (by omega)]
    have wf := way_facts (c := A (t : Int)) hC.2 (nx_ok hV D nets wl) ha.1 ha.2
    obtain ⟨N, n1, n2, n3⟩ := c_follow (k := 182) (k2 := k2) hT (Or.inl rfl) (by omega) hV XM.1 XM.2 SM.sc (c := A (t : Int)) ha.1 ha.2
    rw [n1, obind_some]
    have fN : Fr MeW M0 N := hF.trans (n2.mono (fun q j z => by unfold W_Trail_follow at z; unfold MeW; omega))
    have mN : MeR N V (nxV V D nets wl) A t := fun w a b => by
      rw [(n2 179 w (by unfold W_Trail_follow; omega)).1, (n2 180 w (by unfold W_Trail_follow; omega)).1, (n2 181 w (by unfold W_Trail_follow; omega)).1]
      exact hm w a b
    have XN : CT0 N T V := CT0.fr n2 (fun q j x y z => by unfold W_Trail_follow at z; omega) XM.1
    obtain ⟨f1, f2, f3, f4, f5⟩ := n3
    have hnx := ih (t + 1) g
    have js : ∀ w, jyS V (nxV V D nets wl) A w (t + 1) = if (wayS (nxV V D nets wl) (A (t : Int))).2 = none ∧ V 7 (itr (nxV V D nets wl) (A (t : Int)) (wayS (nxV V D nets wl) (A (t : Int))).1) = w then ((jyS V (nxV V D nets wl) A w t).1 + 1, (jyS V (nxV V D nets wl) A w t).2.1 + V 5 (t : Int), (jyS V (nxV V D nets wl) A w t).2.2 + (if lcV V (nxV V D nets wl) (A (t : Int)) (wayS (nxV V D nets wl) (A (t : Int))).1 ≤ 0 then 0 else 1)) else jyS V (nxV V D nets wl) A w t := fun w => rfl
    generalize hr : wayS (nxV V D nets wl) (A (t : Int)) = r at *
    have hend : ∃ o, t_Town_ownerOf N T (t_Trail_end N 182) = o ∧ ((o = -1 ∧ ∀ w, 0 ≤ w → ¬ (r.2 = none ∧ V 7 (itr (nxV V D nets wl) (A (t : Int)) r.1) = w)) ∨ (0 ≤ o ∧ o < 4 ∧ r.2 = none ∧ V 7 (itr (nxV V D nets wl) (A (t : Int)) r.1) = o)) := by
      unfold t_Trail_end
      simp (config := { proj := false }) only [qlet]
      rw [f3, f1, w32_id (by have := wf.2.2.2.2.1; unfold InR; omega), show (r.1 : Int) + 1 - 1 = (r.1 : Int) by omega]
      obtain ⟨i, o⟩ := r
      cases o with
      | none =>
        have hi := wf.2.2.2.2.2 i (Nat.le_refl _)
        have ho := hV.2.2.2 (itr (nxV V D nets wl) (A (t : Int)) i) hi.1 (by omega)
        rw [if_pos (show wRound (i, (none : Option Nat)) ≤ 0 from Int.le_refl _), look_in (by omega) (by have := wf.2.2.2.2.1; omega), f5 i (Nat.le_refl _), c_owner XN hi.1 (by omega)]
        by_cases z : 0 ≤ V 7 (itr (nxV V D nets wl) (A (t : Int)) i)
        · exact ⟨_, rfl, Or.inr ⟨z, by omega, rfl, rfl⟩⟩
        · exact ⟨_, rfl, Or.inl ⟨by omega, fun w a b => z (by rw [b.2]; exact a)⟩⟩
      | some a =>
        have hle : (a : Int) ≤ (i : Int) := wf.2.2.1
        rw [if_neg (show ¬ wRound (i, some a) ≤ 0 by show ¬ ((i : Int) + 1 - a ≤ 0); omega)]
        refine ⟨-1, ?_, Or.inl ⟨rfl, fun w _ b => absurd b.1 (by intro q; cases q)⟩⟩
        unfold t_Town_ownerOf t_WF_look
        rfl
    obtain ⟨o, ho, hcase⟩ := hend
    rw [ho]
    rcases hcase with ⟨c1, c2⟩ | ⟨c1, c2, c3, c4⟩
    · have noput : ∀ (P : Mem) (k : Nat) (v : Int), t_WF_put P k 4 o v = P := fun P k v => by unfold t_WF_put; rw [if_pos (show o < 0 by omega)]
      rw [noput, noput, noput, noput]
      have mN' : MeR N V (nxV V D nets wl) A (t + 1) := fun w a b => by
        rw [js w, if_neg (c2 w a)]
        exact mN w a b
      by_cases z : N.1 182 4 ≤ 0
      · rw [if_pos z]; exact hnx N (by omega) (by omega) fN mN'
      · rw [if_neg z]; exact hnx N (by omega) (by omega) fN mN'
    · have ji := jyS_rng hV (nxV V D nets wl) A o t (by omega)
      obtain ⟨m1, m2, m3⟩ := mN o c1 c2
      have v5 := (hV.2.2.1 (t : Int) (by omega) (by omega)).1
      have v5' := (hV.2.2.1 (t : Int) (by omega) (by omega)).2.1
      have e5 : ∀ P : Mem, P.1 (T + 6) (t : Int) = V 5 (t : Int) → t_WF_look P (T + 6) 8 (t : Int) = V 5 (t : Int) := fun P h => by rw [look_in (by omega) (by omega)]; exact h
      have x5 : N.1 (T + 6) (t : Int) = V 5 (t : Int) := (XN.2.2.1 (t : Int) (by omega) (by omega)).2.1
      have lkp : ∀ (P : Mem) (k : Nat), t_WF_look P k 4 o = P.1 k o := fun P k => look_in c1 (by omega)
      have ptp : ∀ (P : Mem) (k : Nat) (v : Int), t_WF_put P k 4 o v = setI P k o v := fun P k v => put_in c1 (by omega)
      rw [lkp N 179, m1, w32_id (x := (jyS V (nxV V D nets wl) A o t).1 + 1) (by unfold InR; omega), ptp N 179]
      obtain ⟨P1, e1⟩ : ∃ P, P = setI N 179 o ((jyS V (nxV V D nets wl) A o t).1 + 1) := ⟨_, rfl⟩
      rw [← e1]
      have g1 : Fr (fun q j => q = 179 ∧ j = o) N P1 := by rw [e1]; exact Fr.rf.setI ⟨rfl, rfl⟩
      rw [lkp P1 180, (g1 180 o (by omega)).1, m2, e5 P1 (by rw [(g1 (T + 6) _ (by omega)).1]; exact x5), w32_id (x := (jyS V (nxV V D nets wl) A o t).2.1 + V 5 (t : Int)) (by unfold InR; omega), ptp P1 180]
      obtain ⟨P2, e2⟩ : ∃ P, P = setI P1 180 o ((jyS V (nxV V D nets wl) A o t).2.1 + V 5 (t : Int)) := ⟨_, rfl⟩
      rw [← e2]
      have g2 : Fr (fun q j => (q = 179 ∨ q = 180) ∧ j = o) N P2 := by rw [e2]; exact (g1.mono (fun q j z => by omega)).setI (by omega)
      rw [lkp P2 181, (g2 181 o (by omega)).1, m3, (g2 182 4 (by omega)).1, f4]
      have fin : ∀ b : Int, b = (if lcV V (nxV V D nets wl) (A (t : Int)) r.1 ≤ 0 then 0 else 1) → ∃ Q, t_Laws_measure_L26 T k2 g (t_WF_put P2 181 4 o (w32 ((jyS V (nxV V D nets wl) A o t).2.2 + b))) ((t + 1 : Nat) : Int) = some Q ∧ Fr MeW M0 Q ∧ MeR Q V (nxV V D nets wl) A (V 0 3).toNat := by
        intro b hb
        have b01 : 0 ≤ b ∧ b ≤ 1 := by rw [hb]; split <;> omega
        rw [w32_id (x := (jyS V (nxV V D nets wl) A o t).2.2 + b) (by unfold InR; omega), ptp P2 181]
        have g3 : Fr (fun q j => (q = 179 ∨ q = 180 ∨ q = 181) ∧ j = o) N (setI P2 181 o ((jyS V (nxV V D nets wl) A o t).2.2 + b)) := (g2.mono (fun q j z => by omega)).setI (by omega)
        refine hnx _ (by omega) (by omega) (fN.trans (g3.mono (fun q j z => by unfold MeW; omega))) (fun w p q => ?_)
        rw [js w]
        by_cases z : w = o
        · rw [z, if_pos ⟨c3, c4⟩]
          refine ⟨?_, ?_, ?_⟩
          · rw [sI_ne (by omega), e2, sI_ne (by omega), e1, sI_self]
          · rw [sI_ne (by omega), e2, sI_self]
          · rw [sI_self, hb]
        · rw [if_neg (show ¬ (r.2 = none ∧ V 7 (itr (nxV V D nets wl) (A (t : Int)) r.1) = w) from fun y => z (y.2.symm.trans c4))]
          have := mN w p q
          rw [(g3 179 w (by omega)).1, (g3 180 w (by omega)).1, (g3 181 w (by omega)).1]
          exact this
      have hl : wLines V (nxV V D nets wl) (A (t : Int)) r = lcV V (nxV V D nets wl) (A (t : Int)) r.1 := by
        unfold wLines
        rw [c3]
      rw [hl]
      by_cases z : lcV V (nxV V D nets wl) (A (t : Int)) r.1 ≤ 0
      · rw [if_pos z]; exact fin 0 (by rw [if_pos z])
      · rw [if_neg z]; exact fin 1 (by rw [if_neg z])
theorem c_measure {M : Mem} {T k2 : Nat} {V : TV} {D A S L : Int → Int} {nets wat : Int64} {wl : Int → Bool} (hV : VOK V) (hT : T = 2 ∨ T = 22) (hk2 : k2 = 47 ∨ k2 = 52) (hX : CT0 M T V ∧ CTs M T V) (hS : CScF M k2 V D A S L nets wat wl) (hA : ∀ t, 0 ≤ t → t < V 0 3 → 0 ≤ A t ∧ A t < cellsV V) : ∃ N, t_Laws_measure M T k2 = some N ∧ Fr MeW M N ∧ MeR N V (nxV V D nets wl) A (V 0 3).toNat := by
  have hv := hV.1
  unfold t_Laws_measure
  obtain ⟨N1, a1, a2, a3⟩ := c_fill (M := M) (r := 179) (N1 := 4) (x := 0) (by omega)
  obtain ⟨N2, b1, b2, b3⟩ := c_fill (M := N1) (r := 180) (N1 := 4) (x := 0) (by omega)
  obtain ⟨N3, c1, c2, c3⟩ := c_fill (M := N2) (r := 181) (N1 := 4) (x := 0) (by omega)
  rw [a1, obind_some, b1, obind_some, c1, obind_some]
  have hF : Fr MeW M N3 := ((a2.mono (fun q j z => by unfold MeW; omega)).trans (b2.mono (fun q j z => by unfold MeW; omega))).trans (c2.mono (fun q j z => by unfold MeW; omega))
  exact c_measure_loop hV hT hk2 hX hS hA (V 0 3).toNat 0 FU N3 (by omega) (fu_big (by omega)) hF (fun w p q => ⟨by rw [(c2 179 w (by omega)).1, (b2 179 w (by omega)).1]; exact a3 w p (by omega), by rw [(c2 180 w (by omega)).1]; exact b3 w p (by omega), c3 w p (by omega)⟩)
end
section
/-! ===== the class's joys ===== -/
theorem nm_eq {x : Int} (h : 18 ≤ x ∧ x ≤ 24) (P : Mem) (v : Int64) : t_Laws_name P x v = setL P 178 (x - 18) v := by
  unfold t_Laws_name
  simp (config := { proj := false }) only [qlet]
  rw [w32_id (x := x - 18) (by unfold InR; omega), if_neg (show ¬ x - 18 < 0 by omega), if_neg (show ¬ 7 ≤ x - 18 by omega)]
theorem look_sL (M : Mem) (k : Nat) (j : Int) (v : Int64) (r N : Nat) (i : Int) : t_WF_look (setL M k j v) r N i = t_WF_look M r N i := rfl
theorem c_value {M : Mem} {k0 : Nat} {K L : Int → Int} {n : Int} {nm : Int → Int64} (hK : KOK K n) (ho : OutR M k0 K L n) (h4 : 0 < n → ¬ M.1 k0 4 = 0) (hr : (178 : Nat) ≠ k0 + 3) (hn : ∀ j, 0 ≤ j → j ≤ 6 → M.2 178 j = nm j) (hd : ∀ x : Int64, q_absl 0 ≤ 1000000000000 / q_absl x) : ∃ N, t_Formula_value M k0 178 7 = some (N, eM (valS K L nm n)) ∧ Fr (fun q _ => q = k0 + 3) M N := by
  have h1 := hK.1
  have h2 := hK.2.1
  exact c_value_loop (r1 := 178) (N1 := 7) hK ho h4 hr rfl hn hd n.toNat 0 FU M [] (by omega) (fu_big (by omega)) Fr.rf (fun _ _ => rfl) rfl trivial
theorem c_joyTold {M : Mem} {T : Nat} {V : TV} {f A : Int → Int} {w yr : Int} (hV : VOK V) (hK : FOK V) (hT : T = 2 ∨ T = 22) (hX : CTx M T V) (hm : MeR M V f A (V 0 3).toNat) (hw : 0 ≤ w ∧ w < V 0 2) (hd : ∀ x : Int64, q_absl 0 ≤ 1000000000000 / q_absl x) : ∃ N, t_Laws_joyTold M T w yr = some (N, eM (valS (V 12) (V 13) (nmJ V f A w yr) (V 0 12))) ∧ Fr (fun q _ => q = 178 ∨ q = T + 18) M N := by
  have hv := hV.1
  obtain ⟨m1, m2, m3⟩ := hm w hw.1 (by omega)
  have l1 : t_WF_look M (T + 3) 4 w = V 3 w := by rw [look_in hw.1 (by omega)]; exact (hX.1.2.1 w hw.1 hw.2).2.2
  have l2 : t_WF_look M (T + 4) 4 w = szV V w := by rw [look_in hw.1 (by omega)]; exact hX.2.1.2.1 w hw.1 hw.2
  have l3 : t_WF_look M 179 4 w = (jyS V f A w (V 0 3).toNat).1 := by rw [look_in hw.1 (by omega)]; exact m1
  have l4 : t_WF_look M 180 4 w = (jyS V f A w (V 0 3).toNat).2.1 := by rw [look_in hw.1 (by omega)]; exact m2
  have l5 : t_WF_look M 181 4 w = (jyS V f A w (V 0 3).toNat).2.2 := by rw [look_in hw.1 (by omega)]; exact m3
  unfold t_Laws_joyTold
  simp (config := { proj := false }) only [qlet]
  rw [nm_eq (x := 18) (by omega), nm_eq (x := 19) (by omega), nm_eq (x := 20) (by omega), nm_eq (x := 21) (by omega), nm_eq (x := 22) (by omega), nm_eq (x := 23) (by omega), nm_eq (x := 24) (by omega)]
  simp only [look_sL]
  rw [l1, l2, l3, l4, l5]
  obtain ⟨N7, e7⟩ : ∃ P, P = setL (setL (setL (setL (setL (setL (setL M 178 (18 - 18) (q_i2l (V 3 w))) 178 (19 - 18) (q_i2l (szV V w))) 178 (20 - 18) (q_i2l (jyS V f A w (V 0 3).toNat).1)) 178 (21 - 18) (q_i2l (jyS V f A w (V 0 3).toNat).2.1)) 178 (22 - 18) (q_i2l (jyS V f A w (V 0 3).toNat).2.2)) 178 (23 - 18) 0) 178 (24 - 18) (q_i2l yr) := ⟨_, rfl⟩
  rw [← e7]
  have f7 : Fr (fun q _ => q = 178) M N7 := by rw [e7]; exact ((((((Fr.rf.setL rfl).setL rfl).setL rfl).setL rfl).setL rfl).setL rfl).setL rfl
  have i7 : ∀ k j, N7.1 k j = M.1 k j := fun k j => by rw [e7]
  have hn : ∀ j, 0 ≤ j → j ≤ 6 → N7.2 178 j = nmJ V f A w yr j := by
    intro j a b
    rw [e7]
    unfold nmJ
    have hj : j = 0 ∨ j = 1 ∨ j = 2 ∨ j = 3 ∨ j = 4 ∨ j = 5 ∨ j = 6 := by omega
    rcases hj with rfl | rfl | rfl | rfl | rfl | rfl | rfl
    · rw [sL_ne (by omega), sL_ne (by omega), sL_ne (by omega), sL_ne (by omega), sL_ne (by omega), sL_ne (by omega)]; exact (sL_self _ _ _ _).trans (if_pos rfl).symm
    · rw [sL_ne (by omega), sL_ne (by omega), sL_ne (by omega), sL_ne (by omega), sL_ne (by omega)]; exact sL_self _ _ _ _
    · rw [sL_ne (by omega), sL_ne (by omega), sL_ne (by omega), sL_ne (by omega)]; exact sL_self _ _ _ _
    · rw [sL_ne (by omega), sL_ne (by omega), sL_ne (by omega)]; exact sL_self _ _ _ _
    · rw [sL_ne (by omega), sL_ne (by omega)]; exact sL_self _ _ _ _
    · rw [sL_ne (by omega)]; exact sL_self _ _ _ _
    · exact sL_self _ _ _ _
  have ho : OutR N7 (T + 15) (V 12) (V 13) (V 0 12) := by
    obtain ⟨o1, o2⟩ := hX.2.2.2.2
    exact ⟨(i7 _ _).trans o1, fun j a b => ⟨(i7 _ _).trans (o2 j a b).1, (i7 _ _).trans (o2 j a b).2⟩⟩
  have h4 : 0 < V 0 12 → ¬ N7.1 (T + 15) 4 = 0 := fun z => by
    have e : N7.1 (T + 15) 4 = V 0 10 := (i7 _ _).trans hX.2.2.2.1
    have := hK.2.2.2.2.2.mpr z
    omega
  obtain ⟨N, n1, n2⟩ := c_value (k0 := T + 15) hK.2.1 ho h4 (by omega) hn hd
  rw [n1, obind_some]
  exact ⟨N, rfl, (f7.mono (fun q j z => Or.inl z)).trans (n2.mono (fun q j z => Or.inr z))⟩
end
section
/-! ===== a bound; ward and law, both sides ===== -/
theorem absl_neg {x : Int64} (h : ¬ 0 ≤ (q_absl x).toInt) : x = -9223372036854775808 := by
  have z0 : (0 : Int64).toInt = 0 := by decide +kernel
  unfold q_absl at h
  by_cases c : 0 < x
  · rw [if_pos c] at h
    have := Int64.lt_iff_toInt_lt.mp c
    omega
  · rw [if_neg c, Int64.toInt_neg] at h
    have c1 : ¬ 0 < x.toInt := fun q => c (Int64.lt_iff_toInt_lt.mpr (by rw [z0]; exact q))
    have c2 := Int64.le_toInt x
    apply Int64.toInt_inj.mp
    have e : (-9223372036854775808 : Int64).toInt = -9223372036854775808 := by decide +kernel
    rw [e]
    by_cases q : x.toInt = -9223372036854775808
    · exact q
    · exfalso
      apply h
      rw [Int.bmod_eq_of_le (by omega) (by omega)]
      omega
theorem dv0 (x : Int64) : q_absl 0 ≤ 1000000000000 / q_absl x := by
  have h0 : q_absl 0 = 0 := by decide +kernel
  have z0 : (0 : Int64).toInt = 0 := by decide +kernel
  have e : (1000000000000 : Int64).toInt = 1000000000000 := by decide +kernel
  rw [h0]
  by_cases hz : 0 ≤ (q_absl x).toInt
  · rw [Int64.le_iff_toInt_le, Int64.toInt_div, e, z0, Int.tdiv_eq_ediv_of_nonneg (by decide)]
    have t0 : 0 ≤ (1000000000000 : Int) / (q_absl x).toInt := Int.ediv_nonneg (by decide) hz
    have t1 : (1000000000000 : Int) / (q_absl x).toInt ≤ 1000000000000 := Int.ediv_le_self _ (by decide)
    rw [Int.bmod_eq_of_le (by omega) (by omega)]
    exact t0
  · rw [absl_neg hz]
    decide +kernel
/-- no value is the least long -/
def nMin (v : Int64) : Prop := v ≠ -9223372036854775808
theorem nMin_i2l (x : Int) : nMin (q_i2l x) := by
  intro h
  have e : (q_i2l x).toInt = (-9223372036854775808 : Int64).toInt := by rw [h]
  have e2 : (-9223372036854775808 : Int64).toInt = -9223372036854775808 := by decide +kernel
  rw [e2] at e
  unfold q_i2l at e
  rw [Int32.toInt_toInt64] at e
  have := Int32.le_toInt (Int32.ofInt x)
  omega
theorem nMin_chk {q v : Int64} (h : chkS q = some v) : nMin v := by
  intro e
  rw [← ckC_eq] at h
  unfold ckC at h
  by_cases a : 1000000000000 < q
  · rw [if_pos a] at h; cases h
  · rw [if_neg a] at h
    by_cases b : -1000000000000 ≤ q
    · rw [if_pos b] at h
      have : q = v := Option.some.inj h
      rw [this, e] at b
      exact absurd b (by decide +kernel)
    · rw [if_neg b] at h; cases h
def nMo (v : Int64) (o : Option Int64) : Prop := o = some v → nMin v
theorem nMo_ite {v : Int64} {c : Prop} [Decidable c] {a b : Option Int64} (h1 : nMo v a) (h2 : nMo v b) : nMo v (if c then a else b) := by
  by_cases z : c
  · rw [if_pos z]; exact h1
  · rw [if_neg z]; exact h2
theorem nMo_chk (v q : Int64) : nMo v (chkS q) := fun h => nMin_chk h
theorem nMo_none (v : Int64) : nMo v none := fun h => by cases h
theorem nMin_join {c : Int} {x y v : Int64} (h : joinS c x y = some v) : nMin v := by
  have k : nMo v (joinS c x y) := by
    unfold joinS
    repeat' (first | exact nMo_chk _ _ | exact nMo_none _ | apply nMo_ite)
  exact k h
theorem nMin_ev {K N : Int → Int} {nm : Int → Int64} (hn : ∀ j, nMin (nm j)) : ∀ (i : Nat) (st : List Int64), evS K N nm i = some st → ∀ v ∈ st, nMin v := by
  intro i
  induction i with
  | zero => intro st h v hv; cases h; cases hv
  | succ i ih =>
    intro st h v hv
    rw [evS] at h
    cases e : evS K N nm i with
    | none => rw [e] at h; cases h
    | some s0 =>
      rw [e] at h
      have h : knS K N nm (i : Int) s0 = some st := h
      have hs := ih s0 e
      have n01 : ∀ y : Int64, nMin (if y = 0 then 1 else 0) := fun y => by split <;> (intro q; exact absurd q (by decide +kernel))
      by_cases k31 : K (i : Int) = 31
      · rw [knS_num k31] at h
        cases h
        rcases List.mem_cons.mp hv with q | q
        · rw [q]; exact nMin_i2l _
        · exact hs v q
      · by_cases k18 : 18 ≤ K (i : Int) ∧ K (i : Int) ≤ 24
        · rw [knS_name k18] at h
          cases h
          rcases List.mem_cons.mp hv with q | q
          · rw [q]; exact hn _
          · exact hs v q
        · match s0, hs, h with
          | [], hs, h => rw [knS, if_neg k31, if_neg k18] at h; cases h
          | [y], hs, h =>
            rw [knS, if_neg k31, if_neg k18] at h
            by_cases k17 : K (i : Int) = 17
            · rw [if_pos k17] at h
              cases h
              rcases List.mem_cons.mp hv with q | q
              · rw [q]; exact n01 y
              · cases q
            · rw [if_neg k17] at h; cases h
          | y :: x :: r, hs, h =>
            rw [knS, if_neg k31, if_neg k18] at h
            by_cases k17 : K (i : Int) = 17
            · rw [if_pos k17] at h
              cases h
              rcases List.mem_cons.mp hv with q | q
              · rw [q]; exact n01 y
              · exact hs v (List.mem_cons_of_mem _ q)
            · rw [if_neg k17] at h
              cases ej : joinS (K (i : Int)) x y with
              | none => rw [ej] at h; cases h
              | some u =>
                rw [ej] at h
                cases h
                rcases List.mem_cons.mp hv with q | q
                · rw [q]; exact nMin_join ej
                · exact hs v (List.mem_cons_of_mem _ (List.mem_cons_of_mem _ q))
theorem nMin_val {K N : Int → Int} {nm : Int → Int64} {n : Int} {v : Int64} (hn : ∀ j, nMin (nm j)) (h : valS K N nm n = some v) : nMin v := by
  unfold valS at h
  cases e : evS K N nm n.toNat with
  | none => rw [e] at h; cases h
  | some st =>
    rw [e] at h
    match st, e, h with
    | [], e, h => cases h
    | [u], e, h =>
      have : u = v := Option.some.inj h
      rw [← this]
      exact nMin_ev hn n.toNat [u] e u (List.mem_cons_self ..)
    | a :: b :: c, e, h => cases h
end
section
/-! ===== ward, both sides ===== -/
theorem nmJ_min (V : TV) (f A : Int → Int) (w yr : Int) : ∀ j, nMin (nmJ V f A w yr j) := by
  intro j
  unfold nmJ
  have z : nMin 0 := fun q => absurd q (by decide +kernel)
  repeat' split
  all_goals first | exact nMin_i2l _ | exact z
theorem val_zero {K N : Int → Int} {nm : Int → Int64} {n : Int} (h : ¬ 0 < n) : valS K N nm n = none := by
  unfold valS
  rw [show n.toNat = 0 by omega]
  rfl
theorem c_joyOf {M : Mem} {T : Nat} {V : TV} {f A : Int → Int} {w yr : Int} (hV : VOK V) (hK : FOK V) (hT : T = 2 ∨ T = 22) (hX : CTx M T V) (hm : MeR M V f A (V 0 3).toNat) (hw : 0 ≤ w ∧ w < V 0 2) : ∃ N, t_Laws_joyOf M T w yr = some (N, joyS V f A w yr) ∧ Fr (fun q _ => q = 178 ∨ q = T + 18) M N := by
  have hv := hV.1
  obtain ⟨N, n1, n2⟩ := c_joyTold (yr := yr) hV hK hT hX hm hw dv0
  have l4 : t_WF_look N 180 4 w = (jyS V f A w (V 0 3).toNat).2.1 := by
    rw [look_in hw.1 (by omega), (n2 180 w (by omega)).1]
    exact (hm w hw.1 (by omega)).2.1
  refine ⟨N, ?_, n2⟩
  unfold t_Laws_joyOf
  rw [n1, obind_some]
  simp (config := { proj := false }) only [qlet]
  unfold joyS witS
  cases e : valS (V 12) (V 13) (nmJ V f A w yr) (V 0 12) with
  | none =>
    have he : eM (none : Option Int64) = -9223372036854775808 := rfl
    show (if eM (none : Option Int64) = -9223372036854775808 then some (N, t_WF_look N 180 4 w) else some (N, q_l2i (q_maxl 0 (q_minl 9999 (eM (none : Option Int64)))))) = _
    rw [if_pos he, l4]
    by_cases h0 : 0 < V 0 12
    · rw [if_pos h0]
    · rw [if_neg h0]
  | some v =>
    have h0 : 0 < V 0 12 := by
      by_cases h0 : 0 < V 0 12
      · exact h0
      · rw [val_zero h0] at e; cases e
    have hn : ¬ eM (some v) = -9223372036854775808 := nMin_val (nmJ_min V f A w yr) e
    show (if eM (some v) = -9223372036854775808 then some (N, t_WF_look N 180 4 w) else some (N, q_l2i (q_maxl 0 (q_minl 9999 (eM (some v)))))) = _
    rw [if_neg hn, if_pos h0]
    rfl
theorem bs_ward {M : Mem} (h : LI M) {x1 x2 : Int} (h1 : InR x1) (h2 : InR x2) : Ok (fun q => Ok (fun r => q.2 = r.2 ∧ LI r.1) (t_MO_ward q.1 x1 x2)) (t_WF_ward M x1 x2) := by
  have h' := h
  have hTT := h.T
  obtain ⟨hI, ⟨V, hR, hX, hRL⟩, -⟩ := h
  have hV := hR.1.1
  have hv := hV.1
  have hK := hR.1.2.2.1
  have hS : CScF M 47 V (DN M 0) (AT M 0) (ST M 0) (LN M 0) (M.2 210 0) (M.2 211 0) (wlV V) := hRL.1
  obtain ⟨k1, -, -, -⟩ := hRL.2.1
  have hcl : ∃ N, t_WF_ward M x1 x2 = some (N, wardS V (DN M 0) (AT M 0) (nxR M 0 V) (M.1 207 0) x1 x2) ∧ Fr QkW M N := by
    unfold t_WF_ward wardS
    simp (config := { proj := false }) only [qlet]
    rw [c_hasWard hX.1]
    by_cases c1 : 0 ≤ x1 ∧ x1 < V 0 2
    rotate_left
    · rw [if_neg c1, if_pos rfl, if_neg c1]; exact ⟨M, rfl, Fr.rf⟩
    rw [if_pos c1, if_neg (show ¬ (1 : Int) = 0 by decide), if_pos c1]
    by_cases z0 : x2 = 0
    · rw [if_pos z0, if_pos z0, look_in c1.1 (by omega)]
      exact ⟨M, congrArg (fun y => some (M, y)) (hS.1 x1 c1.1 c1.2), Fr.rf⟩
    rw [if_neg z0, if_neg z0]
    by_cases z1 : x2 = 1
    · rw [if_pos z1, if_pos z1, look_in c1.1 (by omega), (hX.1.2.1 x1 c1.1 c1.2).2.2]; exact ⟨M, rfl, Fr.rf⟩
    rw [if_neg z1, if_neg z1]
    by_cases z2 : x2 = 2
    · rw [if_pos z2, if_pos z2, look_in c1.1 (by omega), hX.2.1.2.1 x1 c1.1 c1.2]; exact ⟨M, rfl, Fr.rf⟩
    rw [if_neg z2, if_neg z2]
    by_cases z3 : x2 = 3
    rotate_left
    · rw [if_neg z3, if_neg z3]; exact ⟨M, rfl, Fr.rf⟩
    rw [if_pos z3, if_pos z3]
    obtain ⟨N, n1, n2, n3⟩ := c_measure hV hTT.2 (Or.inl rfl) ⟨hX.1, hX.2.1⟩ hS (fun t a b => hR.row0.2.1 t a b)
    have e4 : N.1 0 4 = M.1 0 4 := (n2 0 4 (by unfold MeW; omega)).1
    have e62 : N.1 62 3 = M.1 207 0 := ((n2 62 3 (by unfold MeW; omega)).1).trans k1
    have XN : CTx N (M.1 0 4).toNat V := hX.fr n2 (fun k j a z => by unfold CxW at a; unfold MeW at z; omega)
    rw [n1, obind_some, e4, e62]
    obtain ⟨P, p1, p2⟩ := c_joyOf (yr := M.1 207 0) hV hK hTT.2 XN n3 c1
    rw [p1, obind_some]
    exact ⟨P, rfl, (n2.mono (fun q j z => by unfold MeW at z; unfold QkW; omega)).trans (p2.mono (fun q j z => by unfold QkW; omega))⟩
  obtain ⟨N, n1, n2⟩ := hcl
  obtain ⟨u, e, hu⟩ := sf_WF_ward hI h1 h2
  have : u = _ := Option.some.inj (e.symm.trans n1)
  subst this
  have hLN : LI N := h'.q hu.1 n2
  have hRN : RI N V := hR.fr n2 (fun q j a z => by unfold RIc at a; unfold QkW at z; omega)
  obtain ⟨P, p1, p2⟩ := m_ward hRN x1 x2
  have eD : DN N 0 = DN M 0 := funext (fun w => (n2 212 _ (fun z => by unfold QkW at z; omega)).1)
  have eA : AT N 0 = AT M 0 := funext (fun w => (n2 213 _ (fun z => by unfold QkW at z; omega)).1)
  have er : nxR N 0 V = nxR M 0 V := nxR_fr n2 (fun k j x q => by unfold QkW at q; omega)
  rw [eD, eA, er, (n2 207 0 (fun z => by unfold QkW at z; omega)).1] at p1
  have hIP := im_MO_ward hu.1 h1 h2 _ p1
  exact ⟨_, n1, _, p1, rfl, hLN.qm hIP.1 (p2.mono (fun k j z => by unfold JW0 JW W_MO_goesFrom GO at z; unfold QmW; omega))⟩
end
section
/-! ===== the class's table of votes ===== -/
def JoW (T : Nat) (v : Int) : Nat → Int → Prop := fun q j => q = 178 ∨ q = T + 18 ∨ (q = 184 ∧ (j - v) % 256 = 0)
theorem c_tv_L95 {M0 : Mem} {T : Nat} {V : TV} {f A : Int → Int} {yr v : Int} {k2 k3 : Nat} {bk : Mem → Int → Option Mem} (hV : VOK V) (hK : FOK V) (hT : T = 2 ∨ T = 22) (hX : CTx M0 T V) (hm : MeR M0 V f A (V 0 3).toNat) (h6 : M0.1 177 6 = V 0 2) (hv : 0 ≤ v ∧ v < 256) : ∀ (n fu : Nat) (M : Mem) (w : Int), w + (n : Int) = V 0 2 → 0 ≤ w → n < fu → Fr (JoW T v) M0 M → (∀ x, 0 ≤ x → x < w → M.1 184 (x * 256 + v) = joyS V f A x yr) → ∃ N, t_Laws_tryVotes_L95 T k2 k3 yr bk fu M v w = bk N (w32 (v + 1)) ∧ Fr (JoW T v) M0 N ∧ ∀ x, 0 ≤ x → x < V 0 2 → N.1 184 (x * 256 + v) = joyS V f A x yr := by
  have hv1 := hV.1
  intro n
  induction n with
  | zero =>
    intro fu M w g0 g1 g2 hF hj
    obtain ⟨g, rfl⟩ : ∃ g, fu = g + 1 := ⟨fu - 1, by omega⟩
    rw [t_Laws_tryVotes_L95, (hF 177 6 (by unfold JoW; omega)).1, h6, if_pos (by omega)]
    exact ⟨M, rfl, hF, fun x a b => hj x a (by omega)⟩
  | succ n ih =>
    intro fu M w g0 g1 g2 hF hj
    obtain ⟨g, rfl⟩ : ∃ g, fu = g + 1 := ⟨fu - 1, by omega⟩
    have XM : CTx M T V := hX.fr hF (fun k j a z => by unfold CxW at a; unfold JoW at z; omega)
    have mM : MeR M V f A (V 0 3).toNat := fun x a b => by
      rw [(hF 179 x (by unfold JoW; omega)).1, (hF 180 x (by unfold JoW; omega)).1, (hF 181 x (by unfold JoW; omega)).1]
      exact hm x a b
    obtain ⟨N, n1, n2⟩ := c_joyOf (yr := yr) hV hK hT XM mM (w := w) ⟨g1, by omega⟩
    rw [t_Laws_tryVotes_L95, (hF 177 6 (by unfold JoW; omega)).1, h6, if_neg (by omega), n1, obind_some]
    simp (config := { proj := false }) only [qlet]
    rw [w32_id (x := w * 256) (by unfold InR; omega), w32_id (x := w * 256 + v) (by unfold InR; omega), put_in (by omega) (by omega), w32_id (x := w + 1) (by unfold InR; omega)]
    have fN : Fr (JoW T v) M0 N := hF.trans (n2.mono (fun q j z => by unfold JoW; omega))
    refine ih g _ (w + 1) (by omega) (by omega) (by omega) (fN.setI (by unfold JoW; omega)) (fun x a b => ?_)
    by_cases z : x = w
    · rw [z]; exact sI_self _ _ _ _
    · rw [sI_ne (by omega), (n2 184 _ (by omega)).1]
      exact hj x a (by omega)
def TvW (T : Nat) : Nat → Int → Prop := fun q j => q = 53 ∨ MeW q j ∨ q = 178 ∨ q = T + 18 ∨ q = 184
theorem TvW_out {T : Nat} (hT : T = 2 ∨ T = 22) {q : Nat} {j : Int} (h : TvW T q j) : q = 53 ∨ (178 ≤ q ∧ q ≤ 184) ∨ q = T + 18 := by
  unfold TvW MeW at h
  omega
theorem c_tv_L53 {M0 : Mem} {T : Nat} {V : TV} {D A S L : Int → Int} {nets wat : Int64} {wl : Int → Bool} {yr v : Int} {k2 : Nat} {bk : Mem → Int → Option Mem} (hV : VOK V) (hK : FOK V) (hT : T = 2 ∨ T = 22) (hX : CTx M0 T V) (hS : CScF M0 52 V D A S L nets wat wl) (hA : ∀ t, 0 ≤ t → t < V 0 3 → 0 ≤ A t ∧ A t < cellsV V) (h6 : M0.1 177 6 = V 0 2) (hv : 0 ≤ v ∧ v < 256) : ∀ (n fu : Nat) (M : Mem) (w : Int), w + (n : Int) = V 0 2 → 0 ≤ w → n < fu → Fr (fun q _ => q = 53) M0 M → (∀ x, 0 ≤ x → x < w → M.1 53 x = dvV v x) → ∃ N, t_Laws_tryVotes_L53 T k2 52 yr bk fu M v w = bk N (w32 (v + 1)) ∧ Fr (fun q j => q = 53 ∨ MeW q j ∨ JoW T v q j) M0 N ∧ ∀ x, 0 ≤ x → x < V 0 2 → N.1 184 (x * 256 + v) = jvS V A nets wl yr v x := by
  have hv1 := hV.1
  intro n
  induction n with
  | zero =>
    intro fu M w g0 g1 g2 hF hj
    obtain ⟨g, rfl⟩ : ∃ g, fu = g + 1 := ⟨fu - 1, by omega⟩
    have XM : CTx M T V := hX.fr hF (fun k j a z => by unfold CxW at a; omega)
    have SM : CScF M 52 V (dvV v) A S L nets wat wl := by
      obtain ⟨s1, s2, s3, s4, s5⟩ := hS
      refine ⟨fun x a b => hj x a (by omega), fun t a b => ?_, ?_, ?_, fun c a b => ?_⟩
      · rw [(hF (52 + 2) t (by omega)).1, (hF (52 + 3) t (by omega)).1, (hF (52 + 4) t (by omega)).1]; exact s2 t a b
      · rw [(hF 52 5 (by omega)).2]; exact s3
      · rw [(hF 52 6 (by omega)).2]; exact s4
      · rw [(hF 52 4 (by omega)).2]; exact s5 c a b
    obtain ⟨N, n1, n2, n3⟩ := c_measure hV hT (Or.inr rfl) ⟨XM.1, XM.2.1⟩ SM hA
    have XN : CTx N T V := XM.fr n2 (fun k j a z => by unfold CxW at a; unfold MeW at z; omega)
    have e6 : N.1 177 6 = V 0 2 := ((n2 177 6 (by unfold MeW; omega)).1).trans (((hF 177 6 (by omega)).1).trans h6)
    obtain ⟨P, p1, p2, p3⟩ := c_tv_L95 (M0 := N) (yr := yr) (k2 := k2) (k3 := 52) (bk := bk) hV hK hT XN n3 e6 hv (V 0 2).toNat FU N 0 (by omega) (by omega) (fu_big (by omega)) Fr.rf (fun x a b => by omega)
    rw [t_Laws_tryVotes_L53, (hF 177 6 (by omega)).1, h6, if_pos (by omega), n1, obind_some]
    exact ⟨P, p1, ((hF.mono (fun q j z => Or.inl z)).trans (n2.mono (fun q j z => Or.inr (Or.inl z)))).trans (p2.mono (fun q j z => Or.inr (Or.inr z))), p3⟩
  | succ n ih =>
    intro fu M w g0 g1 g2 hF hj
    obtain ⟨g, rfl⟩ : ∃ g, fu = g + 1 := ⟨fu - 1, by omega⟩
    rw [t_Laws_tryVotes_L53, (hF 177 6 (by omega)).1, h6, if_neg (by omega)]
    simp (config := { proj := false }) only [qlet]
    rw [w32_id (x := 2 * w) (by unfold InR; omega), put_in (by omega) (by omega), w32_id (x := w + 1) (by unfold InR; omega)]
    refine ih g _ (w + 1) (by omega) (by omega) (by omega) (hF.setI rfl) (fun x a b => ?_)
    by_cases z : x = w
    · rw [z]; exact sI_self _ _ _ _
    · rw [sI_ne (by omega)]
      exact hj x a (by omega)
theorem c_tv_L41 {M0 : Mem} {T : Nat} {V : TV} {D A S L : Int → Int} {nets wat : Int64} {wl : Int → Bool} {yr : Int} {k2 : Nat} (hV : VOK V) (hK : FOK V) (hT : T = 2 ∨ T = 22) (hX : CTx M0 T V) (hS : CScF M0 52 V D A S L nets wat wl) (hA : ∀ t, 0 ≤ t → t < V 0 3 → 0 ≤ A t ∧ A t < cellsV V) (h6 : M0.1 177 6 = V 0 2) (h7 : M0.1 177 7 = vtV (V 0 2)) : ∀ (n fu : Nat) (M : Mem) (v : Int), v + (n : Int) = vtV (V 0 2) → 0 ≤ v → n < fu → Fr (TvW T) M0 M → (∀ b, 0 ≤ b → b < v → ∀ x, 0 ≤ x → x < V 0 2 → M.1 184 (x * 256 + b) = jvS V A nets wl yr b x) → ∃ N, t_Laws_tryVotes_L41 T k2 52 yr fu M v = some N ∧ Fr (TvW T) M0 N ∧ ∀ b, 0 ≤ b → b < vtV (V 0 2) → ∀ x, 0 ≤ x → x < V 0 2 → N.1 184 (x * 256 + b) = jvS V A nets wl yr b x := by
  have hv1 := hV.1
  have hvt := (vt_eq (n := V 0 2) (by omega) (by omega)).2
  intro n
  induction n with
  | zero =>
    intro fu M v g0 g1 g2 hF hj
    obtain ⟨g, rfl⟩ : ∃ g, fu = g + 1 := ⟨fu - 1, by omega⟩
    rw [t_Laws_tryVotes_L41, (hF 177 7 (fun z => by have := TvW_out hT z; omega)).1, h7, if_pos (by omega)]
    exact ⟨M, rfl, hF, fun b p q x a c => hj b p (by omega) x a c⟩
  | succ n ih =>
    intro fu M v g0 g1 g2 hF hj
    obtain ⟨g, rfl⟩ : ∃ g, fu = g + 1 := ⟨fu - 1, by omega⟩
    have XM : CTx M T V := hX.fr hF (fun k j a z => by have := TvW_out hT z; unfold CxW at a; omega)
    have SM : CScF M 52 V (fun x => M.1 53 x) A S L nets wat wl := by
      obtain ⟨s1, s2, s3, s4, s5⟩ := hS
      have e : ∀ q j, q = 52 ∨ q = 54 ∨ q = 55 ∨ q = 56 → M.1 q j = M0.1 q j ∧ M.2 q j = M0.2 q j := fun q j y => hF q j (fun z => by have := TvW_out hT z; omega)
      refine ⟨fun x a b => rfl, fun t a b => ?_, ?_, ?_, fun c a b => ?_⟩
      · rw [(e (52 + 2) t (by omega)).1, (e (52 + 3) t (by omega)).1, (e (52 + 4) t (by omega)).1]; exact s2 t a b
      · rw [(e 52 5 (by omega)).2]; exact s3
      · rw [(e 52 6 (by omega)).2]; exact s4
      · rw [(e 52 4 (by omega)).2]; exact s5 c a b
    have e6 : M.1 177 6 = V 0 2 := ((hF 177 6 (fun z => by have := TvW_out hT z; omega)).1).trans h6
    obtain ⟨N, n1, n2, n3⟩ := c_tv_L53 (M0 := M) (yr := yr) (v := v) (k2 := k2) (bk := fun a0_ a1_ => t_Laws_tryVotes_L41 T k2 52 yr g a0_ a1_) hV hK hT XM SM hA e6 ⟨g1, by omega⟩ (V 0 2).toNat FU M 0 (by omega) (by omega) (fu_big (by omega)) Fr.rf (fun x a b => by omega)
    rw [t_Laws_tryVotes_L41, (hF 177 7 (fun z => by have := TvW_out hT z; omega)).1, h7, if_neg (by omega), n1, w32_id (x := v + 1) (by unfold InR; omega)]
    refine ih g N (v + 1) (by omega) (by omega) (by omega) (hF.trans (n2.mono (fun q j z => by
      unfold JoW at z
      unfold TvW
      rcases z with z | z | z
      · exact Or.inl z
      · exact Or.inr (Or.inl z)
      · omega))) (fun b p q x a c => ?_)
    by_cases z : b = v
    · rw [z]; exact n3 x a c
    · rw [(n2 184 _ (by unfold MeW JoW; omega)).1]
      exact hj b p (by omega) x a c
/-- the class's table of votes holds J -/
def TbR (N : Mem) (V : TV) (J : Int → Int → Int) : Prop := N.1 177 6 = V 0 2 ∧ N.1 177 7 = vtV (V 0 2) ∧ ∀ b, 0 ≤ b → b < vtV (V 0 2) → ∀ w, 0 ≤ w → w < V 0 2 → N.1 184 (w * 256 + b) = J b w
theorem c_votes {M : Mem} {V : TV} (hI : IM M) (hTT : (M.1 0 4).toNat = 2 ∨ (M.1 0 4).toNat = 22) (hR : RI M V) (hX : CTx M (M.1 0 4).toNat V) (hRL : RL M V) : ∃ N, t_Laws_tryVotes M (M.1 0 4).toNat 47 52 (M.1 62 3) = some N ∧ Fr QcW M N ∧ N.1 177 8 = 1 ∧ TbR N V (jvM M V) := by
  have hV := hR.1.1
  have hv := hV.1
  have hK := hR.1.2.2.1
  have hvt := (vt_eq (n := V 0 2) (by omega) (by omega)).2
  have hS : CScF M 47 V (DN M 0) (AT M 0) (ST M 0) (LN M 0) (M.2 210 0) (M.2 211 0) (wlV V) := hRL.1
  obtain ⟨k1, -, -, -⟩ := hRL.2.1
  obtain ⟨c1, c2⟩ := hRL.2.2.2.2.2
  unfold t_Laws_tryVotes
  by_cases z : M.1 177 8 = 0
  rotate_left
  · rw [if_neg z]
    have c3 : M.1 177 8 = 1 := by omega
    obtain ⟨d1, d2, d3⟩ := c2 c3
    exact ⟨M, rfl, Fr.rf, c3, d1, d2, d3⟩
  rw [if_pos z]
  simp (config := { proj := false }) only [qlet]
  rw [k1]
  obtain ⟨M1, e1⟩ : ∃ P, P = setI M 177 8 1 := ⟨_, rfl⟩
  rw [← e1]
  have f1 : Fr (fun q j => q = 177 ∧ j = 8) M M1 := by rw [e1]; exact Fr.rf.setI ⟨rfl, rfl⟩
  have v1 : M1.1 177 8 = 1 := by rw [e1]; exact sI_self _ _ _ _
  obtain ⟨s1, s2⟩ := c_scopy (k0 := 52) (k1 := 47) hV (Or.inl (by omega)) (hS.fr f1 (fun q j a b => by unfold CsW at a; omega))
  obtain ⟨M2, e2⟩ : ∃ P, P = t_Scene_copy M1 52 47 := ⟨_, rfl⟩
  rw [← e2] at s1 s2 ⊢
  have f2 : Fr (fun q j => (q = 177 ∧ j = 8) ∨ (52 ≤ q ∧ q ≤ 56)) M M2 := (f1.mono (fun q j a => Or.inl a)).trans (s2.mono (fun q j a => by unfold CsW at a; omega))
  have e14 : M2.1 (M.1 0 4).toNat 14 = V 0 2 := ((f2 _ _ (by omega)).1).trans hX.1.1.2.2.1
  rw [e14]
  obtain ⟨M3, e3⟩ : ∃ P, P = setI M2 177 6 (V 0 2) := ⟨_, rfl⟩
  rw [← e3]
  have v3 : M3.1 177 6 = V 0 2 := by rw [e3]; exact sI_self _ _ _ _
  rw [v3, w32_id (x := 2 * V 0 2) (by unfold InR; omega)]
  obtain ⟨M4, e4⟩ : ∃ P, P = setI M3 177 7 (q_shl 1 (2 * V 0 2)) := ⟨_, rfl⟩
  rw [← e4]
  have f3 : Fr (fun q j => q = 177 ∧ (j = 6 ∨ j = 7)) M2 M4 := by rw [e4, e3]; exact (Fr.rf.setI (by omega)).setI (by omega)
  have v46 : M4.1 177 6 = V 0 2 := by rw [e4, sI_ne (by omega)]; exact v3
  have v47 : M4.1 177 7 = vtV (V 0 2) := by rw [e4, sI_self]; rfl
  have v48 : M4.1 177 8 = 1 := ((f3 177 8 (by omega)).1).trans (((s2 177 8 (by unfold CsW; omega)).1).trans v1)
  have f4 : Fr (fun q j => (q = 177 ∧ 6 ≤ j ∧ j ≤ 8) ∨ (52 ≤ q ∧ q ≤ 56)) M M4 := (f2.mono (fun q j a => by omega)).trans (f3.mono (fun q j a => by omega))
  have X4 : CTx M4 (M.1 0 4).toNat V := hX.fr f4 (fun k j a b => by unfold CxW at a; omega)
  have S4 := s1.fr f3 (fun q j a b => by unfold CsW at a; omega)
  obtain ⟨N, n1, n2, n3⟩ := c_tv_L41 (M0 := M4) (yr := M.1 207 0) (k2 := 47) hV hK hTT X4 S4 (fun t a b => hR.row0.2.1 t a b) v46 v47 (vtV (V 0 2)).toNat FU M4 0 (by omega) (by omega) (fu_big (by omega)) Fr.rf (fun b p q => by omega)
  have o : ∀ q j, q = 177 → ¬ TvW (M.1 0 4).toNat q j := fun q j a b => by have := TvW_out hTT b; omega
  refine ⟨N, n1, (f4.mono (fun q j a => by unfold QcW QkW; omega)).trans (n2.mono (fun q j a => by have := TvW_out hTT a; unfold QcW QkW; omega)), ((n2 177 8 (o _ _ rfl)).1).trans v48, ((n2 177 6 (o _ _ rfl)).1).trans v46, ((n2 177 7 (o _ _ rfl)).1).trans v47, n3⟩
theorem jvM_fr {W : Nat → Int → Prop} {M N : Mem} {V : TV} (hF : Fr W M N) (hd : ∀ q j, (q = 213 ∨ q = 210 ∨ q = 207) → ¬ W q j) : jvM N V = jvM M V := by
  unfold jvM
  rw [AT_fr hF (fun j => hd 213 j (by omega)), (hF 210 0 (hd _ _ (by omega))).2, (hF 207 0 (hd _ _ (by omega))).1]
theorem c_votesU {M N : Mem} (hI : IM M) (hTT : (M.1 0 4).toNat = 2 ∨ (M.1 0 4).toNat = 22) (e : t_Laws_tryVotes M (M.1 0 4).toNat 47 52 (M.1 62 3) = some N) : ∀ U, RI M U → CTx M (M.1 0 4).toNat U → RL M U → TbR N U (jvM M U) := by
  intro U a b c
  obtain ⟨N', e', -, -, t⟩ := c_votes hI hTT a b c
  have : N' = N := Option.some.inj (e'.symm.trans e)
  rw [← this]
  exact t
theorem TbR.fr {W : Nat → Int → Prop} {M N : Mem} {V : TV} {J : Int → Int → Int} (h : TbR M V J) (hF : Fr W M N) (hd : ∀ q j, ((q = 177 ∧ (j = 6 ∨ j = 7)) ∨ q = 184) → ¬ W q j) : TbR N V J := by
  obtain ⟨h1, h2, h3⟩ := h
  refine ⟨by rw [(hF 177 6 (hd _ _ (by omega))).1]; exact h1, by rw [(hF 177 7 (hd _ _ (by omega))).1]; exact h2, fun b p q w x y => ?_⟩
  rw [(hF 184 _ (hd _ _ (by omega))).1]
  exact h3 b p q w x y
/-- both sides stand when the class's votes are laid -/
theorem LI.votes {M P : Mem} (h : LI M) (hI : IM P) (hF : Fr QcW M P) (h8 : P.1 177 8 = 1) (ht : ∀ U, RI M U → CTx M (M.1 0 4).toNat U → RL M U → TbR P U (jvM M U)) : LI P := h.qc hI hF (fun U hU hXU hRU => by
  obtain ⟨d1, d2, d3⟩ := ht U hU hXU hRU
  have e : jvM P U = jvM M U := jvM_fr hF (fun q j z y => by unfold QcW QkW at y; omega)
  refine ⟨Or.inr h8, fun _ => ⟨d1, d2, fun b p q w x y => ?_⟩⟩
  have k : jvM P U b w = jvM M U b w := by rw [e]
  exact (d3 b p q w x y).trans k.symm)
end
section
/-! ===== moves and stays, the class's side ===== -/
theorem c_joyBy {N : Mem} {V : TV} {J : Int → Int → Int} (hV : VOK V) (h : TbR N V J) {w b : Int} (w0 : 0 ≤ w) (w1 : w < V 0 2) (b0 : 0 ≤ b) (b1 : b < vtV (V 0 2)) : t_Laws_joyBy N w b = J b w := by
  have hv := hV.1
  have hvt := (vt_eq (n := V 0 2) (by omega) (by omega)).2
  unfold t_Laws_joyBy
  simp only [qlet]
  rw [w32_id (x := w * 256) (by unfold InR; omega), w32_id (x := w * 256 + b) (by unfold InR; omega), look_in (by omega) (by omega)]
  exact h.2.2 b b0 b1 w w0 w1
/-- the class's best so far -/
def btV (J : Int → Int → Int) (v w : Int) (n : Nat) : Int := if bsS J v w n = -1 then v else wiV v w (bsS J v w n)
theorem bsS_gt (J : Int → Int → Int) (v w : Int) : ∀ n : Nat, bsS J v w n ≠ -1 → J v w < J (wiV v w (bsS J v w n)) w := by
  intro n
  induction n with
  | zero => intro h; exact absurd rfl h
  | succ n ih =>
    rw [bsS]
    by_cases a : J (wiV v w (n : Int)) w ≤ J v w
    · rw [if_pos a]; exact ih
    · rw [if_neg a]
      by_cases b : bsS J v w n = -1
      · rw [if_pos b]; intro _; omega
      · rw [if_neg b]
        by_cases c : J (wiV v w (n : Int)) w ≤ J (wiV v w (bsS J v w n)) w
        · rw [if_pos c]; exact ih
        · rw [if_neg c]; intro _; omega
theorem btV_succ (J : Int → Int → Int) (v w : Int) (n : Nat) : btV J v w (n + 1) = if J (wiV v w (n : Int)) w ≤ J (btV J v w n) w then btV J v w n else wiV v w (n : Int) := by
  have hg := bsS_gt J v w n
  unfold btV
  rw [bsS]
  by_cases b : bsS J v w n = -1
  · rw [if_pos b, if_pos b]
    by_cases a : J (wiV v w (n : Int)) w ≤ J v w
    · rw [if_pos a, if_pos a, if_pos b]
    · rw [if_neg a, if_neg a, if_neg (show ¬ (n : Int) = -1 by omega)]
  · have hg := hg b
    rw [if_neg b, if_neg b]
    by_cases a : J (wiV v w (n : Int)) w ≤ J v w
    · rw [if_pos a, if_pos (show J (wiV v w (n : Int)) w ≤ J (wiV v w (bsS J v w n)) w by omega), if_neg b]
    · rw [if_neg a]
      by_cases c : J (wiV v w (n : Int)) w ≤ J (wiV v w (bsS J v w n)) w
      · rw [if_pos c, if_pos c, if_neg b]
      · rw [if_neg c, if_neg c, if_neg (show ¬ (n : Int) = -1 by omega)]
theorem btV_same {J : Int → Int → Int} {v w : Int} {n : Nat} : btV J v w n = v ↔ bsS J v w n = -1 := by
  have hg := bsS_gt J v w n
  unfold btV
  by_cases b : bsS J v w n = -1
  · rw [if_pos b]; exact ⟨fun _ => b, fun _ => rfl⟩
  · rw [if_neg b]
    refine ⟨fun z => ?_, fun z => absurd z b⟩
    have hg := hg b
    rw [z] at hg
    omega
section CMOVE
variable {N : Mem} {V : TV} {J : Int → Int → Int}
theorem btV_rng (hV : VOK V) {v w : Int} (hv : 0 ≤ v ∧ v < vtV (V 0 2)) (hw : 0 ≤ w ∧ w < V 0 2) {n : Nat} (hn : n ≤ 4) : 0 ≤ btV J v w n ∧ btV J v w n < vtV (V 0 2) := by
  have hv1 := hV.1
  have hb := bsS_rng J v w n
  unfold btV
  by_cases b : bsS J v w n = -1
  · rw [if_pos b]; exact hv
  · rw [if_neg b]
    exact wi_rng (n := V 0 2) (v := v) (w := w) (d := bsS J v w n) (by omega) (by omega) hv.1 hv.2 hw.1 hw.2 (by omega) (by omega)
theorem c_moved_L15 (hV : VOK V) (h : TbR N V J) {v w : Int} {bk : Mem → Int → Option Int} (hv : 0 ≤ v ∧ v < vtV (V 0 2)) (hw : 0 ≤ w ∧ w < V 0 2) : ∀ (n d fu : Nat), d + n = 4 → n < fu → t_Laws_moved_L15 v bk fu N w (btV J v w d) (d : Int) = if bsS J v w 4 = -1 then bk N (w + 1) else some (wiV v w (bsS J v w 4)) := by
  have hv1 := hV.1
  intro n
  induction n with
  | zero =>
    intro d fu g0 g1
    obtain ⟨g, rfl⟩ : ∃ g, fu = g + 1 := ⟨fu - 1, by omega⟩
    have hd : d = 4 := by omega
    subst hd
    rw [t_Laws_moved_L15, if_pos (by omega), w32_id (x := w + 1) (by unfold InR; omega)]
    by_cases b : bsS J v w 4 = -1
    · rw [if_pos (btV_same.mpr b), if_pos b]
    · rw [if_neg (fun z => b (btV_same.mp z)), if_neg b]
      unfold btV
      rw [if_neg b]
  | succ n ih =>
    intro d fu g0 g1
    obtain ⟨g, rfl⟩ : ∃ g, fu = g + 1 := ⟨fu - 1, by omega⟩
    have hwi := wi_rng (n := V 0 2) (v := v) (w := w) (d := (d : Int)) (by omega) (by omega) hv.1 hv.2 hw.1 hw.2 (by omega) (by omega)
    have hbt := btV_rng (J := J) hV hv hw (n := d) (by omega)
    have ew : q_or (q_and v (q_xor (q_shl 3 (w32 (2 * w))) (-1))) (q_shl (d : Int) (w32 (2 * w))) = wiV v w (d : Int) := by
      unfold wiV
      rw [w32_id (x := 2 * w) (by unfold InR; omega)]
    rw [t_Laws_moved_L15, if_neg (by omega)]
    simp only [qlet]
    unfold t_Laws_moved_L58
    rw [ew, c_joyBy hV h hw.1 hw.2 hwi.1 hwi.2, c_joyBy hV h hw.1 hw.2 hbt.1 hbt.2, w32_succ (by omega)]
    have nx := ih (d + 1) g (by omega) (by omega)
    rw [btV_succ] at nx
    by_cases c : J (wiV v w (d : Int)) w ≤ J (btV J v w d) w
    · rw [if_pos c]
      rw [if_pos c] at nx
      exact nx
    · rw [if_neg c]
      rw [if_neg c] at nx
      exact nx
theorem c_moved_L2 (hV : VOK V) (h : TbR N V J) {v : Int} (hv : 0 ≤ v ∧ v < vtV (V 0 2)) : ∀ (n fu : Nat) (w : Int), w + (n : Int) = V 0 2 → 0 ≤ w → n < fu → t_Laws_moved_L2 v fu N w = some (mvS J v n w) := by
  have hv1 := hV.1
  intro n
  induction n with
  | zero =>
    intro fu w g0 g1 g2
    obtain ⟨g, rfl⟩ : ∃ g, fu = g + 1 := ⟨fu - 1, by omega⟩
    rw [t_Laws_moved_L2, h.1, if_pos (by omega)]
    rfl
  | succ n ih =>
    intro fu w g0 g1 g2
    obtain ⟨g, rfl⟩ : ∃ g, fu = g + 1 := ⟨fu - 1, by omega⟩
    rw [t_Laws_moved_L2, h.1, if_neg (by omega)]
    have e0 : btV J v w 0 = v := if_pos rfl
    have s := c_moved_L15 hV h (bk := fun a0_ a1_ => t_Laws_moved_L2 v g a0_ a1_) hv (w := w) ⟨g1, by omega⟩ 4 0 FU (by omega) (fu_big (by omega))
    rw [e0] at s
    have s : t_Laws_moved_L15 v (fun a0_ a1_ => t_Laws_moved_L2 v g a0_ a1_) FU N w v 0 = _ := s
    rw [s, mvS]
    by_cases b : bsS J v w 4 = -1
    · rw [if_pos b, if_pos b]
      exact ih g (w + 1) (by omega) (by omega) (by omega)
    · rw [if_neg b, if_neg b]
theorem c_moved (hV : VOK V) (h : TbR N V J) {v : Int} (hv : 0 ≤ v ∧ v < vtV (V 0 2)) : t_Laws_moved N v = some (mvS J v (V 0 2).toNat 0) := c_moved_L2 hV h hv (V 0 2).toNat FU 0 (by have := hV.1; omega) (by omega) (fu_big (by have := hV.1; omega))
theorem nb_bs (J : Int → Int → Int) (v w : Int) : ∀ n : Nat, nbS J v w n = true ↔ bsS J v w n = -1 := by
  intro n
  induction n with
  | zero => exact ⟨fun _ => rfl, fun _ => rfl⟩
  | succ n ih =>
    rw [nbS, bsS, Bool.and_eq_true, decide_eq_true_eq, ih]
    by_cases a : J (wiV v w (n : Int)) w ≤ J v w
    · rw [if_pos a]; exact ⟨fun z => z.1, fun z => ⟨z, a⟩⟩
    · rw [if_neg a]
      refine ⟨fun z => absurd z.2 a, fun z => ?_⟩
      exfalso
      by_cases b : bsS J v w n = -1
      · rw [if_pos b] at z; omega
      · rw [if_neg b] at z
        by_cases c : J (wiV v w (n : Int)) w ≤ J (wiV v w (bsS J v w n)) w
        · rw [if_pos c] at z; exact b z
        · rw [if_neg c] at z; omega
theorem stS_all (J : Int → Int → Int) (v : Int) : ∀ n : Nat, stS J v n = true ↔ ∀ x : Nat, x < n → bsS J v (x : Int) 4 = -1 := by
  intro n
  induction n with
  | zero => exact ⟨fun _ x hx => absurd hx (Nat.not_lt_zero x), fun _ => rfl⟩
  | succ n ih =>
    rw [stS, Bool.and_eq_true, ih, nb_bs]
    refine ⟨fun z x hx => ?_, fun z => ⟨fun x hx => z x (by omega), z n (by omega)⟩⟩
    by_cases e : x = n
    · rw [e]; exact z.2
    · exact z.1 x (by omega)
theorem mv_all (J : Int → Int → Int) (v : Int) : ∀ (m : Nat) (w : Nat), mvS J v m (w : Int) = v ↔ ∀ x : Nat, w ≤ x → x < w + m → bsS J v (x : Int) 4 = -1 := by
  intro m
  induction m with
  | zero => intro w; exact ⟨fun _ x h1 h2 => by omega, fun _ => rfl⟩
  | succ m ih =>
    intro w
    rw [mvS]
    by_cases b : bsS J v (w : Int) 4 = -1
    · rw [if_pos b]
      have i := ih (w + 1)
      rw [show (((w + 1 : Nat)) : Int) = (w : Int) + 1 by omega] at i
      rw [i]
      refine ⟨fun z x h1 h2 => ?_, fun z x h1 h2 => z x (by omega) (by omega)⟩
      by_cases e : x = w
      · rw [e]; exact b
      · exact z x (by omega) (by omega)
    · rw [if_neg b]
      have hg := bsS_gt J v (w : Int) 4 b
      refine ⟨fun z => ?_, fun z => absurd (z w (Nat.le_refl _) (by omega)) b⟩
      exfalso
      rw [z] at hg
      omega
theorem mv_st (J : Int → Int → Int) (v : Int) (n : Nat) : mvS J v n 0 = v ↔ stS J v n = true := by
  have h := mv_all J v n 0
  rw [stS_all]
  have h : mvS J v n 0 = v ↔ ∀ x : Nat, 0 ≤ x → x < 0 + n → bsS J v (x : Int) 4 = -1 := h
  rw [h]
  exact ⟨fun z x hx => z x (Nat.zero_le x) (by omega), fun z x _ hx => z x (by omega)⟩
theorem c_isStay (hV : VOK V) (h : TbR N V J) {v : Int} (hv : 0 ≤ v ∧ v < vtV (V 0 2)) : t_Laws_isStay N v = some (if stS J v (V 0 2).toNat = true then 1 else 0) := by
  unfold t_Laws_isStay
  rw [c_moved hV h hv, obind_some]
  by_cases b : stS J v (V 0 2).toNat = true
  · rw [if_pos ((mv_st J v _).mpr b), if_pos b]
  · rw [if_neg (fun z => b ((mv_st J v _).mp z)), if_neg b]
theorem c_stays_L30 (hV : VOK V) (h : TbR N V J) : ∀ (m fu : Nat) (v n : Int), v + (m : Int) = vtV (V 0 2) → 0 ≤ v → 0 ≤ n → n ≤ v → m < fu → t_WF_stays_L30 fu N n v = some (N, soS J (V 0 2).toNat (-1) m v n) := by
  have hv1 := hV.1
  have hvt := (vt_eq (n := V 0 2) (by omega) (by omega)).2
  intro m
  induction m with
  | zero =>
    intro fu v n g0 g1 g2 g3 g4
    obtain ⟨g, rfl⟩ : ∃ g, fu = g + 1 := ⟨fu - 1, by omega⟩
    rw [t_WF_stays_L30, h.2.1, if_pos (by omega), soS, if_pos rfl]
  | succ m ih =>
    intro fu v n g0 g1 g2 g3 g4
    obtain ⟨g, rfl⟩ : ∃ g, fu = g + 1 := ⟨fu - 1, by omega⟩
    rw [t_WF_stays_L30, h.2.1, if_neg (by omega), c_isStay hV h ⟨g1, by omega⟩, obind_some, soS]
    unfold t_WF_stays_L55
    rw [w32_id (x := v + 1) (by unfold InR; omega)]
    by_cases b : stS J v (V 0 2).toNat = true
    · rw [if_pos b, if_pos b, if_neg (show ¬ (1 : Int) = 0 by decide), if_neg (show ¬ n = -1 by omega), w32_id (x := n + 1) (by unfold InR; omega)]
      exact ih g (v + 1) (n + 1) (by omega) (by omega) (by omega) (by omega) (by omega)
    · rw [if_neg b, if_neg b, if_pos rfl]
      exact ih g (v + 1) n (by omega) (by omega) (by omega) (by omega) (by omega)
theorem c_stay_L36 (hV : VOK V) (h : TbR N V J) {k : Int} (hk : InR k) : ∀ (m fu : Nat) (v n : Int), v + (m : Int) = vtV (V 0 2) → 0 ≤ v → 0 ≤ n → n ≤ k → m < fu → t_WF_stay_L36 k fu N (k - n) v = some (N, soS J (V 0 2).toNat k m v n) := by
  have hv1 := hV.1
  have hvt := (vt_eq (n := V 0 2) (by omega) (by omega)).2
  intro m
  induction m with
  | zero =>
    intro fu v n g0 g1 g2 g3 g4
    obtain ⟨g, rfl⟩ : ∃ g, fu = g + 1 := ⟨fu - 1, by omega⟩
    rw [t_WF_stay_L36, h.2.1, if_pos (by omega), soS, if_neg (show ¬ k = -1 by omega)]
  | succ m ih =>
    intro fu v n g0 g1 g2 g3 g4
    obtain ⟨g, rfl⟩ : ∃ g, fu = g + 1 := ⟨fu - 1, by omega⟩
    rw [t_WF_stay_L36, h.2.1, if_neg (by omega), c_isStay hV h ⟨g1, by omega⟩, obind_some, soS]
    unfold t_WF_stay_L67
    rw [w32_id (x := v + 1) (by unfold InR; omega)]
    by_cases b : stS J v (V 0 2).toNat = true
    · rw [if_pos b, if_pos b, if_neg (show ¬ (1 : Int) = 0 by decide)]
      by_cases e : n = k
      · rw [if_pos (show k - n = 0 by omega), if_pos e]
      · rw [if_neg (show ¬ k - n = 0 by omega), if_neg e, w32_id (x := k - n + -1) (by unfold InR at hk ⊢; omega), show k - n + -1 = k - (n + 1) by omega]
        exact ih g (v + 1) (n + 1) (by omega) (by omega) (by omega) (by omega) (by omega)
    · rw [if_neg b, if_neg b, if_pos rfl]
      exact ih g (v + 1) n (by omega) (by omega) (by omega) (by omega) (by omega)
theorem c_moves_L61 (hV : VOK V) (h : TbR N V J) {x1 x2 : Int} : ∀ (m fu : Nat) (v n : Int), n + (m : Int) = 40 → 0 ≤ n → 0 ≤ v → v < vtV (V 0 2) → m + 1 < fu → t_WF_moves_L61 x1 x2 fu N v n = some (N, msS J (V 0 2).toNat x2 m v) := by
  have hv1 := hV.1
  intro m
  induction m with
  | zero =>
    intro fu v n g0 g1 g2 g3 g4
    obtain ⟨g, rfl⟩ : ∃ g, fu = g + 2 := ⟨fu - 2, by omega⟩
    rw [t_WF_moves_L61, if_neg (by omega), c_moved hV h ⟨g2, g3⟩, obind_some, msS]
    by_cases b : mvS J v (V 0 2).toNat 0 = v
    · rw [if_pos b, if_pos b]
      by_cases a : x2 = 0
      · rw [if_pos a, if_pos a, show n = 40 by omega]
      · rw [if_neg a, if_neg a]
    · rw [if_neg b, if_neg b, t_WF_moves_L61, w32_id (x := n + 1) (by unfold InR; omega), if_pos (by omega)]
  | succ m ih =>
    intro fu v n g0 g1 g2 g3 g4
    obtain ⟨g, rfl⟩ : ∃ g, fu = g + 1 := ⟨fu - 1, by omega⟩
    have mr := mv_rng (J := J) (n := V 0 2) (v := v) (by omega) (by omega) g2 g3 (V 0 2).toNat 0 (by omega) (by omega)
    rw [t_WF_moves_L61, if_neg (by omega), c_moved hV h ⟨g2, g3⟩, obind_some, msS]
    by_cases b : mvS J v (V 0 2).toNat 0 = v
    · rw [if_pos b, if_pos b]
      by_cases a : x2 = 0
      · rw [if_pos a, if_pos a, show n = 40 - ((m : Int) + 1) by omega]
      · rw [if_neg a, if_neg a]
    · rw [if_neg b, if_neg b, w32_id (x := n + 1) (by unfold InR; omega)]
      exact ih g _ (n + 1) (by omega) (by omega) mr.1 mr.2 (by omega)
end CMOVE
end
