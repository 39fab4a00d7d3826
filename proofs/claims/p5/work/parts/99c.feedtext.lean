/-! ===== feed and text: both sides, one answer ===== -/
def FdW : Nat → Int → Prop := fun k j => (k = 0 ∧ j = 1) ∨ k = 1
theorem ff_loop {x1 : Int} : ∀ (m fu : Nat) (M : Mem) (v : Int), v = 8 * (m : Int) - 8 → m < fu → m ≤ 4 → 0 ≤ M.1 0 1 → M.1 0 1 + (m : Int) ≤ 1000 → Ok (fun r => r.1 0 1 = M.1 0 1 + (m : Int) ∧ Fr FdW M r) (t_WF_feedFour_L3 x1 fu M v) := by
  intro m
  induction m with
  | zero =>
    intro fu M v g0 g1 g2 g3 g4
    obtain ⟨g, rfl⟩ : ∃ g, fu = g + 1 := ⟨fu - 1, by omega⟩
    rw [t_WF_feedFour_L3, if_pos (by omega)]
    exact ok_some ⟨by omega, Fr.rf⟩
  | succ m ih =>
    intro fu M v g0 g1 g2 g3 g4
    obtain ⟨g, rfl⟩ : ∃ g, fu = g + 1 := ⟨fu - 1, by omega⟩
    have f1 : Fr FdW M (t_WF_put M 1 700 (M.1 0 1) (q_and (q_ushr x1 v) 255)) := fr_WF_put (fun k j z => by unfold W_WF_put at z; unfold FdW; omega) Fr.rf
    have e1 : (t_WF_put M 1 700 (M.1 0 1) (q_and (q_ushr x1 v) 255)).1 0 1 = M.1 0 1 := (fr_WF_put (W := fun k _ => k = 1) (M0 := M) (fun k j z => by unfold W_WF_put at z; exact z) Fr.rf 0 1 (by omega)).1
    rw [t_WF_feedFour_L3, if_neg (by omega), w32_id (x := v + -8) (by unfold InR; omega)]
    simp (config := { proj := false }) only [qlet]
    generalize t_WF_put M 1 700 (M.1 0 1) (q_and (q_ushr x1 v) 255) = N at *
    rw [e1, w32_id (x := M.1 0 1 + 1) (by unfold InR; omega)]
    have f2 : Fr FdW M (setI N 0 1 (M.1 0 1 + 1)) := f1.setI (by unfold FdW; omega)
    have v1 : (setI N 0 1 (M.1 0 1 + 1)).1 0 1 = M.1 0 1 + 1 := sI_self _ _ _ _
    exact ok_mono (ih g _ (v + -8) (by omega) (by omega) (by omega) (by omega) (by omega)) (fun r hr => ⟨by omega, f2.trans hr.2⟩)
theorem ff_one {x1 : Int} {M : Mem} (hx : InR x1) (hM : IM M) (g3 : 0 ≤ M.1 0 1) (g4 : M.1 0 1 ≤ 700) : Ok (fun r => IM r ∧ r.1 0 1 = M.1 0 1 + 4 ∧ Fr FdW M r) (t_WF_feedFour M x1) := by
  have a := ff_loop (x1 := x1) 4 FU M 24 (by omega) (fu_big (by omega)) (by omega) g3 (by omega)
  refine ok_mono (ok_and (sf_WF_feedFour hM hx) (Q := fun r => r.1 0 1 = M.1 0 1 + 4 ∧ Fr FdW M r) ?_) (fun r hr => ⟨hr.1, hr.2⟩)
  intro r e
  obtain ⟨r', e', h'⟩ := a
  have : r' = r := Option.some.inj (e'.symm.trans e)
  rw [← this]
  exact h'
theorem c_feed0 {x1 x2 x3 x4 x5 : Int} {M : Mem} (h1 : InR x1) (h2 : InR x2) (h3 : InR x3) (h4 : InR x4) (h5 : InR x5) (hM : IM M) (g3 : 0 ≤ M.1 0 1) (g4 : M.1 0 1 ≤ 700) : Ok (fun r => IM r.1 ∧ Fr FdW M r.1 ∧ ((M.1 0 1 ≤ 680 ∧ r.2 = M.1 0 1 + 20 ∧ r.1.1 0 1 = M.1 0 1 + 20) ∨ (¬ M.1 0 1 ≤ 680 ∧ r.2 = -1 ∧ r.1.1 0 1 = M.1 0 1))) (t_WF_feed M x1 x2 x3 x4 x5) := by
  unfold t_WF_feed
  rw [w32_id (x := M.1 0 1 + 20) (by unfold InR; omega)]
  by_cases a : M.1 0 1 ≤ 680
  · rw [if_pos (by omega)]
    refine ok_bind (ff_one h1 hM g3 g4) (fun q1 k1 => ok_bind (ff_one h2 k1.1 (by omega) (by omega)) (fun q2 k2 => ok_bind (ff_one h3 k2.1 (by omega) (by omega)) (fun q3 k3 => ok_bind (ff_one h4 k3.1 (by omega) (by omega)) (fun q4 k4 => ok_bind (ff_one h5 k4.1 (by omega) (by omega)) (fun q5 k5 => ok_some ⟨k5.1, (((k1.2.2.trans k2.2.2).trans k3.2.2).trans k4.2.2).trans k5.2.2, Or.inl ⟨a, ?_, ?_⟩⟩)))))
    · show q5.1 0 1 = _
      omega
    · show q5.1 0 1 = _
      omega
  · rw [if_neg (by omega)]
    exact ok_some ⟨hM, Fr.rf, Or.inr ⟨a, rfl, rfl⟩⟩
theorem c_feed {x1 x2 x3 x4 x5 : Int} {M : Mem} (h1 : InR x1) (h2 : InR x2) (h3 : InR x3) (h4 : InR x4) (h5 : InR x5) (hM : IM M) (g3 : 0 ≤ M.1 0 1) (g4 : M.1 0 1 ≤ 700) : Ok (fun r => IM r.1 ∧ Fr FdW M r.1 ∧ ((M.1 0 1 ≤ 680 ∧ r.2 = M.1 0 1 + 20 ∧ r.1.1 0 1 = M.1 0 1 + 20 ∧ (∀ j, 0 ≤ j → j < 20 → r.1.1 1 (M.1 0 1 + j) = fdB x1 x2 x3 x4 x5 j) ∧ (∀ j, j < M.1 0 1 → r.1.1 1 j = M.1 1 j)) ∨ (¬ M.1 0 1 ≤ 680 ∧ r.2 = -1 ∧ r.1.1 0 1 = M.1 0 1 ∧ r.1 = M))) (t_WF_feed M x1 x2 x3 x4 x5) := by
  by_cases a : M.1 0 1 ≤ 680
  · refine ok_mono (ok_and (c_feed0 h1 h2 h3 h4 h5 hM g3 g4) (c_fd g3 a)) (fun r hr => ⟨hr.1.1, hr.1.2.1, Or.inl ⟨a, ?_, ?_, hr.2⟩⟩)
    · rcases hr.1.2.2 with q | q
      · exact q.2.1
      · exact absurd a q.1
    · rcases hr.1.2.2 with q | q
      · exact q.2.2
      · exact absurd a q.1
  · refine ok_mono (ok_and (c_feed0 h1 h2 h3 h4 h5 hM g3 g4) (c_fd_no (by omega) a)) (fun r hr => ⟨hr.1.1, hr.1.2.1, Or.inr ⟨a, ?_, by rw [hr.2], hr.2⟩⟩)
    rcases hr.1.2.2 with q | q
    · exact absurd q.1 a
    · exact q.2.1
/-- feed, both sides -/
theorem feed_eq {x1 x2 x3 x4 x5 : Int} {M : Mem} (h : LI M) (h1 : InR x1) (h2 : InR x2) (h3 : InR x3) (h4 : InR x4) (h5 : InR x5) : Ok (fun q => Ok (fun r => q.2 = r.2 ∧ LI r.1) (t_MO_feed q.1 x1 x2 x3 x4 x5)) (t_WF_feed M x1 x2 x3 x4 x5) := by
  have hTT := h.T
  obtain ⟨hI, ⟨V, hR, hX⟩, hT, hP, hl, hE, hf⟩ := h
  have t0 := hT.1
  refine ok_mono (c_feed h1 h2 h3 h4 h5 hI (by omega) (by omega)) (fun q hq => ?_)
  obtain ⟨q1, q2, q3⟩ := hq
  have r1 : RI q.1 V := hR.fr q2 (fun k j a z => by unfold RIc at a; unfold FdW at z; omega)
  have r2 : TInv q.1 := hT.fr q2 (fun k j a z => by unfold FdW at z; omega)
  have e2 : q.1.1 191 2 = M.1 191 2 := (q2 191 2 (by unfold FdW; omega)).1
  have e4 : q.1.1 0 4 = M.1 0 4 := (q2 0 4 (by unfold FdW; omega)).1
  have e5 : q.1.1 0 5 = M.1 0 5 := (q2 0 5 (by unfold FdW; omega)).1
  have x192 : ∀ j, q.1.1 192 j = M.1 192 j := fun j => (q2 192 j (by unfold FdW; omega)).1
  have X1 : CTx q.1 (M.1 0 4).toNat V := hX.fr q2 (fun k j a z => by unfold CxW at a; unfold FdW at z; omega)
  have F1 : FE q.1 := hf.fr q2 (fun k j a z => by unfold FdW at z; omega)
  have fd : Post (fun r => (q.1.1 191 2 ≤ 680 → (∀ j, 0 ≤ j → j < 20 → r.1.1 192 (q.1.1 191 2 + j) = fdB x1 x2 x3 x4 x5 j) ∧ (∀ j, j < q.1.1 191 2 → r.1.1 192 j = q.1.1 192 j)) ∧ (¬ q.1.1 191 2 ≤ 680 → ∀ j, r.1.1 192 j = q.1.1 192 j)) (t_MO_feed q.1 x1 x2 x3 x4 x5) := by
    intro r er
    by_cases a : q.1.1 191 2 ≤ 680
    · exact ⟨fun _ => m_fd (by omega) a r er, fun z => absurd a z⟩
    · exact ⟨fun z => absurd z a, fun _ => m_fd_no a r er⟩
  refine ok_mono (ok_and (ok_and (ok_and (ri_feed r1 r2 x1 x2 x3 x4 x5) (im_MO_feed q1 h1 h2 h3 h4 h5)) (fr_MO_feed (W := W_MO_feed) (M0 := q.1) (fun k j z => z) Fr.rf)) fd) (fun r hr => ?_)
  obtain ⟨⟨⟨⟨s1, s2, s3⟩, s4⟩, s5⟩, s6⟩ := hr
  have f1 : r.1.1 0 1 = q.1.1 0 1 := (s5 0 1 (by unfold W_MO_feed; omega)).1
  have f4 : r.1.1 0 4 = q.1.1 0 4 := (s5 0 4 (by unfold W_MO_feed; omega)).1
  have f5 : r.1.1 0 5 = q.1.1 0 5 := (s5 0 5 (by unfold W_MO_feed; omega)).1
  have y1 : ∀ j, r.1.1 1 j = q.1.1 1 j := fun j => (s5 1 j (by unfold W_MO_feed; omega)).1
  refine ⟨by omega, s4.1, ⟨V, s1, ?_⟩, s2, ?_, by omega, ?_, F1.fr s5 (fun k j a z => by unfold W_MO_feed at z; omega)⟩
  · rw [f4, e4]
    exact X1.fr s5 (fun k j a z => by unfold CxW at a; unfold W_MO_feed at z; omega)
  · unfold TPt at *
    omega
  · unfold TpE
    intro j a b
    rw [f1] at b
    rw [y1]
    rcases q3 with ⟨a1, a2, a3, a4, a5⟩ | ⟨a1, a2, a3, a4⟩
    · obtain ⟨b1, b2⟩ := s6.1 (by omega)
      by_cases c : j < M.1 0 1
      · rw [a5 j c, b2 j (by omega), x192]
        exact hE j a c
      · have p := a4 (j - M.1 0 1) (by omega) (by omega)
        have s := b1 (j - M.1 0 1) (by omega) (by omega)
        rw [show M.1 0 1 + (j - M.1 0 1) = j by omega] at p
        rw [show q.1.1 191 2 + (j - M.1 0 1) = j by omega] at s
        rw [p, s]
    · have b1 := s6.2 (by omega)
      rw [a4, b1 j, x192]
      exact hE j a (by omega)
/-- text, both sides -/
theorem text_eq {x1 : Int} {M : Mem} (h : LI M) (h1 : InR x1) : Ok (fun q => Ok (fun r => q.2 = r.2 ∧ LI r.1) (t_MO_text q.1 x1)) (t_WF_text M x1) := by
  have hTT := h.T
  have h' := h
  obtain ⟨hI, ⟨V, hR, hX⟩, hT, hP, hl, hE, hf⟩ := h
  have t0 := hT.1
  have hT5 : M.1 0 5 = 2 ∨ M.1 0 5 = 22 := by unfold TPt at hP; omega
  have T5 : M.1 0 5 = (((M.1 0 5).toNat : Nat) : Int) := by omega
  by_cases hx : 0 ≤ x1 ∧ x1 ≤ M.1 0 1
  · have hB : TpC M (fun j => M.1 192 j) x1 := ⟨by omega, fun j a b => ⟨hE j a (by omega), hT.2 j a (by omega)⟩⟩
    have hPT : ((M.1 0 4).toNat = 2 ∧ (M.1 0 5).toNat = 22) ∨ ((M.1 0 4).toNat = 22 ∧ (M.1 0 5).toNat = 2) := by unfold TPt at hP; omega
    obtain ⟨N, r, n1, n2, n3, n4⟩ := cx_text hTT.1 T5 hPT hB hx
    obtain ⟨u, e, hu⟩ := sf_WF_text hI h1 hT5
    have : u = (N, r) := Option.some.inj (e.symm.trans n1)
    subst this
    have hIN : IM N := hu.1
    have e192 : ∀ j, N.1 192 j = M.1 192 j := fun j => (n3 192 j (by show ¬ (192 : Nat) < 191; omega)).1
    have e2 : N.1 191 2 = M.1 191 2 := (n3 191 2 (by show ¬ (191 : Nat) < 191; omega)).1
    have r1 : RI N V := hR.fr n3 (fun k j a z => by unfold RIc at a; have z : k < 191 := z; omega)
    have r2 : TInv N := hT.fr n3 (fun k j a z => by have z : k < 191 := z; omega)
    obtain ⟨P, s, p1, p2, p3, p4⟩ := ri_textV r1 r2 (x1 := x1) (by omega)
    have eB : (fun j => N.1 192 j) = (fun j => M.1 192 j) := funext e192
    rw [eB] at p4
    have hIP := im_MO_text hIN h1 _ p1
    have fP := fr_MO_text (W := W_MO_text) (M0 := N) (fun k j z => z) Fr.rf _ p1
    have g : ∀ j, P.1 0 j = N.1 0 j := fun j => (fP 0 j (by unfold W_MO_text; omega)).1
    refine ⟨(N, r), n1, (P, s), p1, ?_, hIP.1, ?_⟩
    · show r = s
      rcases n4 with ⟨a1, a2, -⟩ | ⟨a1, a2, -⟩
      · rcases p4 with ⟨b1, b2, -⟩ | ⟨b1, b2, -⟩
        · exact absurd a1 b1
        · rw [a2, b2]
      · rcases p4 with ⟨b1, b2, -⟩ | ⟨b1, b2, -⟩
        · rw [a2, b2]
        · exact absurd b1 a1
    · have tpe : TpE P := fun j a b => by
        have b : j < P.1 0 1 := b
        rw [g 1, n2] at b; omega
      rcases n4 with ⟨a1, a2, a3, a4, a5, a6, a7, a8⟩ | ⟨a1, a2, a3, a4, a5⟩
      · rcases p4 with ⟨b1, -⟩ | ⟨b1, b2, b3, b4, b5, -⟩
        · exact absurd a1 b1
        · refine ⟨⟨_, b3, ?_⟩, p2, ?_, ?_, tpe, ?_, ?_⟩
          · show CTx P (P.1 0 4).toNat _
            rw [g 4, a3, Int.toNat_natCast]
            exact a5.fr fP (fun k j x z => by unfold CxW at x; unfold W_MO_text at z; omega)
          · show (P.1 0 4 = 2 ∧ P.1 0 5 = 22) ∨ (P.1 0 4 = 22 ∧ P.1 0 5 = 2)
            rw [g 4, g 5, a3, a4]; omega
          · show P.1 0 1 = P.1 191 2
            rw [g 1, n2, p3]
          · show P.1 0 2 = P.1 191 26
            rw [g 2, a6, b4]
          · show P.1 0 3 = P.1 191 27
            rw [g 3, a7, b5]
      · rcases p4 with ⟨b1, b2, b3, b4, b5, b6⟩ | ⟨b1, -⟩
        · have c4 : N.1 0 4 = M.1 0 4 := (a5 0 4 (by unfold TfC; omega)).1
          have c5 : N.1 0 5 = M.1 0 5 := (a5 0 5 (by unfold TfC; omega)).1
          refine ⟨⟨V, b3, ?_⟩, p2, ?_, ?_, tpe, ?_, ?_⟩
          · show CTx P (P.1 0 4).toNat V
            rw [g 4, c4]
            exact (hX.fr a5 (fun k j x z => by unfold CxW at x; unfold TfC at z; omega)).fr fP (fun k j x z => by unfold CxW at x; unfold W_MO_text at z; omega)
          · show (P.1 0 4 = 2 ∧ P.1 0 5 = 22) ∨ (P.1 0 4 = 22 ∧ P.1 0 5 = 2)
            rw [g 4, g 5, c4, c5]; exact hP
          · show P.1 0 1 = P.1 191 2
            rw [g 1, n2, p3]
          · show P.1 0 2 = P.1 191 26
            rw [g 2, a3, b4]
          · show P.1 0 3 = P.1 191 27
            rw [g 3, a4, b5]
        · exact absurd b1 a1
  · have ec : t_WF_text M x1 = some (M, -2) := by
      unfold t_WF_text
      by_cases a : x1 < 0
      · rw [if_pos a]
      · rw [if_neg a, if_neg (by omega)]
    have em : t_MO_text M x1 = some (setI M 191 0 0, -2) := by
      rcases m_text (x1 := x1) hT with ⟨a, e⟩ | ⟨a, -⟩
      · exact e
      · exact absurd (show 0 ≤ x1 ∧ x1 ≤ M.1 0 1 by omega) hx
    refine ⟨(M, -2), ec, (setI M 191 0 0, -2), em, rfl, ?_⟩
    exact h'.ref (hI.setI (inr_c rfl)) (hR.set0 0) hX (Fr.rf.setI (by unfold MkW; omega))
theorem lb_220 {xs : Nat → Int32} {L : Nat} {bk : Mem → Int → Option Int} {M : Mem} {v : Int} (h : LI M) (hbk : ∀ N, LI N → Ok (fun r => r = 1) (bk N (w32 (v + 6)))) : Ok (fun r => r = 1) (t_Law_law_L220 xs L bk M v) := by
  unfold t_Law_law_L220 t_Law_law_L1540
  exact ok_bind (feed_eq h (xi _) (xi _) (xi _) (xi _) (xi _)) (fun q hq => ok_bind hq (fun r hr => hbk _ hr.2))
theorem lb_293 {xs : Nat → Int32} {L : Nat} {bk : Mem → Int → Option Int} {M : Mem} {v : Int} (h : LI M) (hbk : ∀ N, LI N → Ok (fun r => r = 1) (bk N (w32 (v + 6)))) : Ok (fun r => r = 1) (t_Law_law_L293 xs L bk M v) := by
  unfold t_Law_law_L293 t_Law_law_L1540
  exact ok_bind (text_eq h (xi _)) (fun q hq => ok_bind hq (fun r hr => hbk _ hr.2))
