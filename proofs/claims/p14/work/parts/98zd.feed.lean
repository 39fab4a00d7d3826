/-! ===== what the questions leave alone ===== -/
theorem LJ0_qm : ∀ k j, LJ0 k j → QmW k j := by
  intro k j z
  unfold LJ0 LJ JW W_MO_goesFrom GO CW at z
  unfold QmW CW
  omega
theorem LF0_qm : ∀ k j, LF0 k j → QmW k j := by
  intro k j z
  unfold LF0 LF W_MO_goesFrom CW at z
  unfold QmW CW
  omega
def KQ (M0 : Mem) (V : TV) (M : Mem) : Prop := RI M V ∧ Fr QmW M0 M
theorem kq_clock_L50 {M0 : Mem} {x1 : Int} {V : TV} {bk : Mem → Int → Int → Int → Int → Int → Option (Mem × Int)} {v6 : Int} (hw : 0 ≤ v6 ∧ v6 < 4) (hbk : ∀ (M : Mem) (a b c d : Int), KQ M0 V M → Ok (fun r => KQ M0 V r.1) (bk M a b c d (v6 + 1))) : ∀ (n fu : Nat) (M : Mem) (v2 v3 v4 v5 v7 : Int), v7 + (n : Int) = 5 → 0 ≤ v7 → n < fu → KQ M0 V M → Ok (fun r => KQ M0 V r.1) (t_MO_clock_L50 x1 bk fu M v2 v3 v4 v5 v6 v7) := by
  intro n
  induction n with
  | zero =>
    intro fu M v2 v3 v4 v5 v7 g0 g1 g2 h
    obtain ⟨g, rfl⟩ : ∃ g, fu = g + 1 := ⟨fu - 1, by omega⟩
    rw [t_MO_clock_L50, if_pos (by omega), w32_id (x := v6 + 1) (by unfold InR; omega)]
    exact hbk M _ _ _ _ h
  | succ n ih =>
    intro fu M v2 v3 v4 v5 v7 g0 g1 g2 h
    obtain ⟨g, rfl⟩ : ∃ g, fu = g + 1 := ⟨fu - 1, by omega⟩
    rw [t_MO_clock_L50, if_neg (by omega), qguard_pos ⟨hw.1, by omega⟩]
    have nx : ∀ (N : Mem) (a b c d : Int), KQ M0 V N → Ok (fun r => KQ M0 V r.1) (t_MO_clock_L120 x1 bk (fun a0_ a1_ a2_ a3_ a4_ a5_ a6_ => t_MO_clock_L50 x1 bk g a0_ a1_ a2_ a3_ a4_ a5_ a6_) N a b c d v6 v7) := by
      intro N a b c d hN
      unfold t_MO_clock_L120
      rw [w32_id (x := v7 + 1) (by unfold InR; omega)]
      exact ih g N a b c d (v7 + 1) (by omega) (by omega) (by omega) hN
    refine ok_ite (fun _ => nx M _ _ _ _ h) (fun _ => ?_)
    refine ok_bind h.1.cp1 (fun N hN => ?_)
    rw [w32_id (x := 4 + v6) (by unfold InR; omega), qguard_pos ⟨by omega, by omega⟩]
    refine ok_let (fun M19 e19 => ?_)
    have f19 : Fr (fun k j => k = 212 ∧ j = 4 + v6) N M19 := by rw [e19]; exact Fr.rf.setI ⟨rfl, rfl⟩
    have h19 : RI M19 V := hN.1.fr f19 (fun k j a q => by unfold RIc at a; omega)
    have hr := hN.2.1
    have r19 : RowOK M19 1 V := by
      rw [e19]
      refine ⟨fun w a b => ?_, fun t a b => ?_, hr.2.2⟩
      · by_cases e : 4 * 1 + w = 4 + v6
        · rw [e, sI_self]; omega
        · rw [sI_ne (by omega)]; exact hr.1 w a b
      · rw [sI_ne (by omega)]; exact hr.2.1 t a b
    refine ok_bind (ri_longest (by omega) h19 r19) (fun q hq => ?_)
    have hq2 : KQ M0 V q.1 := ⟨h19.fr hq LGW_RIc, ((h.2.trans (hN.2.2.2.mono (fun k j z => by unfold QmW; exact Or.inr (Or.inl z)))).trans (f19.mono (fun k j z => by unfold QmW CW; omega))).trans (hq.mono (fun k j z => by unfold LGW at z; unfold QmW; omega))⟩
    exact ok_ite (fun _ => nx _ _ _ _ _ hq2) (fun _ => nx _ _ _ _ _ hq2)
theorem kq_clock_L36 {M0 : Mem} {x1 : Int} {V : TV} : ∀ (n fu : Nat) (M : Mem) (v2 v3 v4 v5 v6 : Int), v6 + (n : Int) = V 0 2 → 0 ≤ v6 → n < fu → KQ M0 V M → Ok (fun r => KQ M0 V r.1) (t_MO_clock_L36 x1 fu M v2 v3 v4 v5 v6) := by
  intro n
  induction n with
  | zero =>
    intro fu M v2 v3 v4 v5 v6 g0 g1 g2 h
    obtain ⟨g, rfl⟩ : ∃ g, fu = g + 1 := ⟨fu - 1, by omega⟩
    rw [t_MO_clock_L36, h.1.1.2.1.1.2.2.1, if_pos (by omega)]
    exact ok_ite (fun _ => ok_some h) (fun _ => ok_ite (fun _ => ok_some h) (fun _ => ok_ite (fun _ => ok_some h) (fun _ => ok_some h)))
  | succ n ih =>
    intro fu M v2 v3 v4 v5 v6 g0 g1 g2 h
    obtain ⟨g, rfl⟩ : ∃ g, fu = g + 1 := ⟨fu - 1, by omega⟩
    have hv := h.1.1.1.1
    rw [t_MO_clock_L36, h.1.1.2.1.1.2.2.1, if_neg (by omega)]
    exact kq_clock_L50 ⟨g1, by omega⟩ (fun N a b c d hN => ih g N a b c d (v6 + 1) (by omega) (by omega) (by omega) hN) 5 FU M _ _ _ _ 0 (by omega) (by omega) (fu_big (by omega)) h
theorem kq_clock {M : Mem} {V : TV} (h : RI M V) (x1 : Int) : Ok (fun r => KQ M V r.1) (t_MO_clock M x1) := by
  unfold t_MO_clock
  refine ok_let (fun M1 e1 => ?_)
  have h1 : KQ M V M1 := ⟨by rw [e1]; exact h.set0 0, by rw [e1]; exact Fr.rf.setI (by unfold QmW; omega)⟩
  have hv := h.1.1.1
  refine ok_ite (fun _ => ok_some h1) (fun _ => ok_ite (fun _ => ?_) (fun _ => ok_some h1))
  refine ok_bind (ri_longest (by omega) h1.1 h1.1.row0) (fun q hq => ?_)
  have hq2 : KQ M V q.1 := ⟨h1.1.fr hq LGW_RIc, h1.2.trans (hq.mono (fun k j z => by unfold LGW at z; unfold QmW; omega))⟩
  exact kq_clock_L36 (V 0 2).toNat FU _ _ _ _ _ 0 (by omega) (by omega) (fu_big (by omega)) hq2
def FdW : Nat → Int → Prop := fun k j => (k = 0 ∧ j = 1) ∨ k = 1
theorem ff_loop {x1 : Int} : ∀ (m fu : Nat) (M : Mem) (v : Int), v = 8 * (m : Int) - 8 → m < fu → m ≤ 4 → 0 ≤ M.1 0 1 → M.1 0 1 + (m : Int) ≤ 1000 → Ok (fun r => r.1 0 1 = M.1 0 1 + (m : Int) ∧ Fr FdW M r) (t_WF_feedFour_L3 x1 fu M v) := by
  intro m
  induction m with
  | zero =>
    intro fu M v g0 g1 g2 g3 g4
    obtain ⟨g, rfl⟩ : ∃ g, fu = g + 1 := ⟨fu - 1, by omega⟩
    rw [t_WF_feedFour_L3, if_pos (by omega)]
    exact ok_some ⟨by omega, Fr.rf⟩
  | succ m ih =>
    intro fu M v g0 g1 g2 g3 g4
    obtain ⟨g, rfl⟩ : ∃ g, fu = g + 1 := ⟨fu - 1, by omega⟩
    have f1 : Fr FdW M (t_WF_put M 1 700 (M.1 0 1) (q_and (q_ushr x1 v) 255)) := fr_WF_put (fun k j z => by unfold W_WF_put at z; unfold FdW; omega) Fr.rf
    have e1 : (t_WF_put M 1 700 (M.1 0 1) (q_and (q_ushr x1 v) 255)).1 0 1 = M.1 0 1 := (fr_WF_put (W := fun k _ => k = 1) (M0 := M) (fun k j z => by unfold W_WF_put at z; exact z) Fr.rf 0 1 (by omega)).1
    rw [t_WF_feedFour_L3, if_neg (by omega), w32_id (x := v + -8) (by unfold InR; omega)]
    simp (config := { proj := false }) only [qlet]
    generalize t_WF_put M 1 700 (M.1 0 1) (q_and (q_ushr x1 v) 255) = N at *
    rw [e1, w32_id (x := M.1 0 1 + 1) (by unfold InR; omega)]
    have f2 : Fr FdW M (setI N 0 1 (M.1 0 1 + 1)) := f1.setI (by unfold FdW; omega)
    have v1 : (setI N 0 1 (M.1 0 1 + 1)).1 0 1 = M.1 0 1 + 1 := sI_self _ _ _ _
    exact ok_mono (ih g _ (v + -8) (by omega) (by omega) (by omega) (by omega) (by omega)) (fun r hr => ⟨by omega, f2.trans hr.2⟩)
theorem ff_one {x1 : Int} {M : Mem} (hx : InR x1) (hM : IM M) (g3 : 0 ≤ M.1 0 1) (g4 : M.1 0 1 ≤ 700) : Ok (fun r => IM r ∧ r.1 0 1 = M.1 0 1 + 4 ∧ Fr FdW M r) (t_WF_feedFour M x1) := by
  have a := ff_loop (x1 := x1) 4 FU M 24 (by omega) (fu_big (by omega)) (by omega) g3 (by omega)
  refine ok_mono (ok_and (sf_WF_feedFour hM hx) (Q := fun r => r.1 0 1 = M.1 0 1 + 4 ∧ Fr FdW M r) ?_) (fun r hr => ⟨hr.1, hr.2⟩)
  intro r e
  obtain ⟨r', e', h'⟩ := a
  have : r' = r := Option.some.inj (e'.symm.trans e)
  rw [← this]
  exact h'
theorem c_feed0 {x1 x2 x3 x4 x5 : Int} {M : Mem} (h1 : InR x1) (h2 : InR x2) (h3 : InR x3) (h4 : InR x4) (h5 : InR x5) (hM : IM M) (g3 : 0 ≤ M.1 0 1) (g4 : M.1 0 1 ≤ 700) : Ok (fun r => IM r.1 ∧ Fr FdW M r.1 ∧ ((M.1 0 1 ≤ 680 ∧ r.2 = M.1 0 1 + 20 ∧ r.1.1 0 1 = M.1 0 1 + 20) ∨ (¬ M.1 0 1 ≤ 680 ∧ r.2 = -1 ∧ r.1.1 0 1 = M.1 0 1))) (t_WF_feed M x1 x2 x3 x4 x5) := by
  unfold t_WF_feed
  rw [w32_id (x := M.1 0 1 + 20) (by unfold InR; omega)]
  by_cases a : M.1 0 1 ≤ 680
  · rw [if_pos (by omega)]
    refine ok_bind (ff_one h1 hM g3 g4) (fun q1 k1 => ok_bind (ff_one h2 k1.1 (by omega) (by omega)) (fun q2 k2 => ok_bind (ff_one h3 k2.1 (by omega) (by omega)) (fun q3 k3 => ok_bind (ff_one h4 k3.1 (by omega) (by omega)) (fun q4 k4 => ok_bind (ff_one h5 k4.1 (by omega) (by omega)) (fun q5 k5 => ok_some ⟨k5.1, (((k1.2.2.trans k2.2.2).trans k3.2.2).trans k4.2.2).trans k5.2.2, Or.inl ⟨a, ?_, ?_⟩⟩)))))
    · show q5.1 0 1 = _
      omega
    · show q5.1 0 1 = _
      omega
  · rw [if_neg (by omega)]
    exact ok_some ⟨hM, Fr.rf, Or.inr ⟨a, rfl, rfl⟩⟩
theorem c_feed {x1 x2 x3 x4 x5 : Int} {M : Mem} (h1 : InR x1) (h2 : InR x2) (h3 : InR x3) (h4 : InR x4) (h5 : InR x5) (hM : IM M) (g3 : 0 ≤ M.1 0 1) (g4 : M.1 0 1 ≤ 700) : Ok (fun r => IM r.1 ∧ Fr FdW M r.1 ∧ ((M.1 0 1 ≤ 680 ∧ r.2 = M.1 0 1 + 20 ∧ r.1.1 0 1 = M.1 0 1 + 20 ∧ (∀ j, 0 ≤ j → j < 20 → r.1.1 1 (M.1 0 1 + j) = fdB x1 x2 x3 x4 x5 j) ∧ (∀ j, j < M.1 0 1 → r.1.1 1 j = M.1 1 j)) ∨ (¬ M.1 0 1 ≤ 680 ∧ r.2 = -1 ∧ r.1.1 0 1 = M.1 0 1 ∧ r.1 = M))) (t_WF_feed M x1 x2 x3 x4 x5) := by
  by_cases a : M.1 0 1 ≤ 680
  · refine ok_mono (ok_and (c_feed0 h1 h2 h3 h4 h5 hM g3 g4) (c_fd g3 a)) (fun r hr => ⟨hr.1.1, hr.1.2.1, Or.inl ⟨a, ?_, ?_, hr.2⟩⟩)
    · rcases hr.1.2.2 with q | q
      · exact q.2.1
      · exact absurd a q.1
    · rcases hr.1.2.2 with q | q
      · exact q.2.2
      · exact absurd a q.1
  · refine ok_mono (ok_and (c_feed0 h1 h2 h3 h4 h5 hM g3 g4) (c_fd_no (by omega) a)) (fun r hr => ⟨hr.1.1, hr.1.2.1, Or.inr ⟨a, ?_, by rw [hr.2], hr.2⟩⟩)
    rcases hr.1.2.2 with q | q
    · exact absurd q.1 a
    · exact q.2.1
/-- feed, both sides -/
theorem bs_feed {x1 x2 x3 x4 x5 : Int} {M : Mem} (h : LI M) (h1 : InR x1) (h2 : InR x2) (h3 : InR x3) (h4 : InR x4) (h5 : InR x5) : Ok (fun q => Ok (fun r => q.2 = r.2 ∧ LI r.1) (t_MO_feed q.1 x1 x2 x3 x4 x5)) (t_WF_feed M x1 x2 x3 x4 x5) := by
  have hTT := h.T
  obtain ⟨hI, ⟨V, hR, hX, hRL⟩, hT, hP, hl, hE, hf⟩ := h
  have t0 := hT.1
  refine ok_mono (c_feed h1 h2 h3 h4 h5 hI (by omega) (by omega)) (fun q hq => ?_)
  obtain ⟨q1, q2, q3⟩ := hq
  have r1 : RI q.1 V := hR.fr q2 (fun k j a z => by unfold RIc at a; unfold FdW at z; omega)
  have rl1 : RL q.1 V := hRL.frf hR.1.1 hR.yr q2 (fun k j a z => by unfold RLf at a; unfold FdW at z; omega)
  have r2 : TInv q.1 := hT.fr q2 (fun k j a z => by unfold FdW at z; omega)
  have e2 : q.1.1 191 2 = M.1 191 2 := (q2 191 2 (by unfold FdW; omega)).1
  have e4 : q.1.1 0 4 = M.1 0 4 := (q2 0 4 (by unfold FdW; omega)).1
  have e5 : q.1.1 0 5 = M.1 0 5 := (q2 0 5 (by unfold FdW; omega)).1
  have x192 : ∀ j, q.1.1 192 j = M.1 192 j := fun j => (q2 192 j (by unfold FdW; omega)).1
  have X1 : CTx q.1 (M.1 0 4).toNat V := hX.fr q2 (fun k j a z => by unfold CxW at a; unfold FdW at z; omega)
  have F1 : FE q.1 := hf.fr q2 (fun k j a z => by unfold FdW at z; omega)
  have fd : Post (fun r => (q.1.1 191 2 ≤ 680 → (∀ j, 0 ≤ j → j < 20 → r.1.1 192 (q.1.1 191 2 + j) = fdB x1 x2 x3 x4 x5 j) ∧ (∀ j, j < q.1.1 191 2 → r.1.1 192 j = q.1.1 192 j)) ∧ (¬ q.1.1 191 2 ≤ 680 → ∀ j, r.1.1 192 j = q.1.1 192 j)) (t_MO_feed q.1 x1 x2 x3 x4 x5) := by
    intro r er
    by_cases a : q.1.1 191 2 ≤ 680
    · exact ⟨fun _ => m_fd (by omega) a r er, fun z => absurd a z⟩
    · exact ⟨fun z => absurd z a, fun _ => m_fd_no a r er⟩
  refine ok_mono (ok_and (ok_and (ok_and (ri_feed r1 r2 x1 x2 x3 x4 x5) (im_MO_feed q1 h1 h2 h3 h4 h5)) (fr_MO_feed (W := W_MO_feed) (M0 := q.1) (fun k j z => z) Fr.rf)) fd) (fun r hr => ?_)
  obtain ⟨⟨⟨⟨s1, s2, s3⟩, s4⟩, s5⟩, s6⟩ := hr
  have f1 : r.1.1 0 1 = q.1.1 0 1 := (s5 0 1 (by unfold W_MO_feed; omega)).1
  have f4 : r.1.1 0 4 = q.1.1 0 4 := (s5 0 4 (by unfold W_MO_feed; omega)).1
  have f5 : r.1.1 0 5 = q.1.1 0 5 := (s5 0 5 (by unfold W_MO_feed; omega)).1
  have y1 : ∀ j, r.1.1 1 j = q.1.1 1 j := fun j => (s5 1 j (by unfold W_MO_feed; omega)).1
  refine ⟨by omega, s4.1, ⟨V, s1, ?_, rl1.frf hR.1.1 r1.yr s5 (fun k j a z => by unfold RLf at a; unfold W_MO_feed at z; omega)⟩, s2, ?_, by omega, ?_, F1.fr s5 (fun k j a z => by unfold W_MO_feed at z; omega)⟩
  · rw [f4, e4]
    exact X1.fr s5 (fun k j a z => by unfold CxW at a; unfold W_MO_feed at z; omega)
  · unfold TPt at *
    omega
  · unfold TpE
    intro j a b
    rw [f1] at b
    rw [y1]
    rcases q3 with ⟨a1, a2, a3, a4, a5⟩ | ⟨a1, a2, a3, a4⟩
    · obtain ⟨b1, b2⟩ := s6.1 (by omega)
      by_cases c : j < M.1 0 1
      · rw [a5 j c, b2 j (by omega), x192]
        exact hE j a c
      · have p := a4 (j - M.1 0 1) (by omega) (by omega)
        have s := b1 (j - M.1 0 1) (by omega) (by omega)
        rw [show M.1 0 1 + (j - M.1 0 1) = j by omega] at p
        rw [show q.1.1 191 2 + (j - M.1 0 1) = j by omega] at s
        rw [p, s]
    · have b1 := s6.2 (by omega)
      rw [a4, b1 j, x192]
      exact hE j a (by omega)
/-- a new start, both sides -/
theorem rl_new {N P : Mem} {V : TV} {T : Nat} (hT : T = 2 ∨ T = 22) (hV : VOK V) (hX : CTx N T V) (hB : BgC N T) (hL : 0 ≤ N.1 70 1 ∧ N.1 70 1 < 20) (hO : BgO P V) (h42 : P.1 191 42 = 0) (h43 : P.1 191 43 = 0) (h60 : P.1 191 60 = 0) (h61 : P.1 191 61 = -1) (hF : Fr W_MO_text N P) : RL P V := by
  have hv := hV.1
  obtain ⟨b1, b2, ⟨b3, b4, b5⟩, ⟨b6, b7, b8⟩, b9, b10, b11, b12, b13⟩ := hB
  obtain ⟨⟨o1, o2, o3, o4, o5⟩, o6, o7⟩ := hO
  have x0 := hX.1
  have e : ∀ q j, q < 191 → P.1 q j = N.1 q j ∧ P.2 q j = N.2 q j := fun q j x => hF q j (by unfold W_MO_text; omega)
  refine ⟨⟨fun w x y => ?_, fun t x y => ⟨?_, ?_, ?_⟩, ?_, ?_, fun c x y => ?_⟩, ⟨?_, ?_, ?_, fun y x z => ?_⟩, past_none ?_ ?_ h43, ⟨?_, fun z => ?_⟩, ⟨?_, ?_, fun k x y => ?_⟩, CaR.zero ?_⟩
  · show P.1 48 w = P.1 212 (4 * 0 + w)
    rw [(e 48 w (by omega)).1, b1 w x (by omega), show (4 : Int) * 0 + w = w by omega, o6 w x (by omega), if_neg (by omega)]
    exact (x0.2.1 w x y).2.1
  · show P.1 49 t = P.1 213 (8 * 0 + t)
    rw [(e 49 t (by omega)).1, (b2 t x (by omega)).1, show (8 : Int) * 0 + t = t by omega, (o7 t x (by omega)).1, if_neg (by omega)]
    exact (x0.2.2.1 t x y).2.2
  · show P.1 50 t = P.1 214 (8 * 0 + t)
    rw [(e 50 t (by omega)).1, (b2 t x (by omega)).2.1, show (8 : Int) * 0 + t = t by omega, (o7 t x (by omega)).2.1]
  · show P.1 51 t = P.1 215 (8 * 0 + t)
    rw [(e 51 t (by omega)).1, (b2 t x (by omega)).2.2, show (8 : Int) * 0 + t = t by omega, (o7 t x (by omega)).2.2]
  · rw [(e 47 5 (by omega)).2, b4, o4]
  · rw [(e 47 6 (by omega)).2, b5, o5]
  · rw [(e 47 4 (by omega)).2, b3]; exact (x0.2.2.2 c x y).2.1
  · rw [(e 62 3 (by omega)).1, b6, o1]
  · rw [(e 62 4 (by omega)).1, b7, o2]
  · rw [(e 62 5 (by omega)).2, b8, o3, x0.1.2.2.2.2.2]
  · rw [o1] at z; omega
  · rw [(e 70 2 (by omega)).1]; exact b10
  · rw [(e 70 1 (by omega)).1]; exact hL
  · rw [(e 0 13 (by omega)).1, b9, h42]
  · rw [h42] at z; exact absurd z (by decide)
  · rw [(e 172 5 (by omega)).1, b11, h60]
  · rw [(e 172 6 (by omega)).1, b12, h61]
  · rw [h60] at y; omega
  · rw [(e 177 8 (by omega)).1]; exact b13
/-- text, both sides -/
theorem bs_text {x1 : Int} {M : Mem} (h : LI M) (h1 : InR x1) : Ok (fun q => Ok (fun r => q.2 = r.2 ∧ LI r.1) (t_MO_text q.1 x1)) (t_WF_text M x1) := by
  have hTT := h.T
  have h' := h
  obtain ⟨hI, ⟨V, hR, hX, hRL⟩, hT, hP, hl, hE, hf⟩ := h
  have t0 := hT.1
  have hT5 : M.1 0 5 = 2 ∨ M.1 0 5 = 22 := by unfold TPt at hP; omega
  have T5 : M.1 0 5 = (((M.1 0 5).toNat : Nat) : Int) := by omega
  by_cases hx : 0 ≤ x1 ∧ x1 ≤ M.1 0 1
  · have hB : TpC M (fun j => M.1 192 j) x1 := ⟨by omega, fun j a b => ⟨hE j a (by omega), hT.2 j a (by omega)⟩⟩
    have hPT : ((M.1 0 4).toNat = 2 ∧ (M.1 0 5).toNat = 22) ∨ ((M.1 0 4).toNat = 22 ∧ (M.1 0 5).toNat = 2) := by unfold TPt at hP; omega
    obtain ⟨N, r, n1, n2, n3, n4⟩ := cx_text hTT.1 T5 hPT hB hx
    obtain ⟨u, e, hu⟩ := sf_WF_text hI h1 hT5
    have : u = (N, r) := Option.some.inj (e.symm.trans n1)
    subst this
    have hIN : IM N := hu.1
    have e192 : ∀ j, N.1 192 j = M.1 192 j := fun j => (n3 192 j (by omega)).1
    have e2 : N.1 191 2 = M.1 191 2 := (n3 191 2 (by omega)).1
    have e70 : N.1 70 1 = M.1 70 1 := (n3 70 1 (by omega)).1
    have r1 : RI N V := hR.fr n3 (fun k j a z => by unfold RIc at a; omega)
    have r2 : TInv N := hT.fr n3 (fun k j a z => by omega)
    obtain ⟨P, s, p1, p2, p3, p4⟩ := ri_textV r1 r2 (x1 := x1) (by omega)
    have eB : (fun j => N.1 192 j) = (fun j => M.1 192 j) := funext e192
    rw [eB] at p4
    have hIP := im_MO_text hIN h1 _ p1
    have fP := fr_MO_text (W := W_MO_text) (M0 := N) (fun k j z => z) Fr.rf _ p1
    have g : ∀ j, P.1 0 j = N.1 0 j := fun j => (fP 0 j (by unfold W_MO_text; omega)).1
    refine ⟨(N, r), n1, (P, s), p1, ?_, hIP.1, ?_⟩
    · show r = s
      rcases n4 with ⟨a1, a2, -⟩ | ⟨a1, a2, -⟩
      · rcases p4 with ⟨b1, b2, -⟩ | ⟨b1, b2, -⟩
        · exact absurd a1 b1
        · rw [a2, b2]
      · rcases p4 with ⟨b1, b2, -⟩ | ⟨b1, b2, -⟩
        · rw [a2, b2]
        · exact absurd b1 a1
    · have tpe : TpE P := fun j a b => by
        have b : j < P.1 0 1 := b
        rw [g 1, n2] at b; omega
      rcases n4 with ⟨a1, a2, a3, a4, a5, a6, a7, a8⟩ | ⟨a1, a2, a3, a4, a5⟩
      · rcases p4 with ⟨b1, -⟩ | ⟨b1, b2, b3, b4, b5, b6, b7, b8, b9, b10, b11⟩
        · exact absurd a1 b1
        · refine ⟨⟨_, b3, ?_, rl_new (by omega) b6.1 a5 a8 (by rw [e70]; exact hRL.2.2.1.2.1) b7 b8 b9 b10 b11 fP⟩, p2, ?_, ?_, tpe, ?_, ?_⟩
          · show CTx P (P.1 0 4).toNat _
            rw [g 4, a3, Int.toNat_natCast]
            exact a5.fr fP (fun k j x z => by unfold CxW at x; unfold W_MO_text at z; omega)
          · show (P.1 0 4 = 2 ∧ P.1 0 5 = 22) ∨ (P.1 0 4 = 22 ∧ P.1 0 5 = 2)
            rw [g 4, g 5, a3, a4]; omega
          · show P.1 0 1 = P.1 191 2
            rw [g 1, n2, p3]
          · show P.1 0 2 = P.1 191 26
            rw [g 2, a6, b4]
          · show P.1 0 3 = P.1 191 27
            rw [g 3, a7, b5]
      · rcases p4 with ⟨b1, b2, b3, b4, b5, b6⟩ | ⟨b1, -⟩
        · have c4 : N.1 0 4 = M.1 0 4 := (a5 0 4 (by unfold TfC; omega)).1
          have c5 : N.1 0 5 = M.1 0 5 := (a5 0 5 (by unfold TfC; omega)).1
          have rN : RL N V := hRL.frf hR.1.1 hR.yr a5 (fun k j x z => by unfold RLf at x; unfold TfC at z; omega)
          refine ⟨⟨V, b3, ?_, rN.frf hR.1.1 r1.yr b6 (fun k j x z => by unfold RLf at x; unfold TfW StW at z; omega)⟩, p2, ?_, ?_, tpe, ?_, ?_⟩
          · show CTx P (P.1 0 4).toNat V
            rw [g 4, c4]
            exact (hX.fr a5 (fun k j x z => by unfold CxW at x; unfold TfC at z; omega)).fr fP (fun k j x z => by unfold CxW at x; unfold W_MO_text at z; omega)
          · show (P.1 0 4 = 2 ∧ P.1 0 5 = 22) ∨ (P.1 0 4 = 22 ∧ P.1 0 5 = 2)
            rw [g 4, g 5, c4, c5]; exact hP
          · show P.1 0 1 = P.1 191 2
            rw [g 1, n2, p3]
          · show P.1 0 2 = P.1 191 26
            rw [g 2, a3, b4]
          · show P.1 0 3 = P.1 191 27
            rw [g 3, a4, b5]
        · exact absurd b1 a1
  · have ec : t_WF_text M x1 = some (M, -2) := by
      unfold t_WF_text
      by_cases a : x1 < 0
      · rw [if_pos a]
      · rw [if_neg a, if_neg (by omega)]
    have em : t_MO_text M x1 = some (setI M 191 0 0, -2) := by
      rcases m_text (x1 := x1) hT with ⟨a, e⟩ | ⟨a, -⟩
      · exact e
      · exact absurd (show 0 ≤ x1 ∧ x1 ≤ M.1 0 1 by omega) hx
    exact ⟨(M, -2), ec, (setI M 191 0 0, -2), em, rfl, h'.at0⟩
