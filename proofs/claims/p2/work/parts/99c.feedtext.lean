/-! ===== p2: feed and text, both sides -/
def FdW : Nat → Int → Prop := fun k j => (k = 0 ∧ j = 1) ∨ k = 1
theorem ff_loop {x1 : Int} : ∀ (m fu : Nat) (M : Mem) (v : Int), v = 8 * (m : Int) - 8 → m < fu → m ≤ 4 → 0 ≤ M.1 0 1 → M.1 0 1 + (m : Int) ≤ 1000 → Ok (fun r => r.1 0 1 = M.1 0 1 + (m : Int) ∧ Fr FdW M r) (t_WF_feedFour_L3 x1 fu M v) := by
  intro m
  induction m with
  | zero =>
    intro fu M v g0 g1 g2 g3 g4
    obtain ⟨g, rfl⟩ : ∃ g, fu = g + 1 := ⟨fu - 1, by omega⟩
    rw [t_WF_feedFour_L3, if_pos (by omega)]
    exact ok_some ⟨by omega, Fr.rf⟩
  | succ m ih =>
    intro fu M v g0 g1 g2 g3 g4
    obtain ⟨g, rfl⟩ : ∃ g, fu = g + 1 := ⟨fu - 1, by omega⟩
    have f1 : Fr FdW M (t_WF_put M 1 700 (M.1 0 1) (q_and (q_ushr x1 v) 255)) := fr_WF_put (fun k j z => by unfold W_WF_put at z; unfold FdW; omega) Fr.rf
    have e1 : (t_WF_put M 1 700 (M.1 0 1) (q_and (q_ushr x1 v) 255)).1 0 1 = M.1 0 1 := (fr_WF_put (W := fun k _ => k = 1) (M0 := M) (fun k j z => by unfold W_WF_put at z; exact z) Fr.rf 0 1 (by omega)).1
    rw [t_WF_feedFour_L3, if_neg (by omega), w32_id (x := v + -8) (by unfold InR; omega)]
    simp (config := { proj := false }) only [qlet]
    generalize t_WF_put M 1 700 (M.1 0 1) (q_and (q_ushr x1 v) 255) = N at *
    rw [e1, w32_id (x := M.1 0 1 + 1) (by unfold InR; omega)]
    have f2 : Fr FdW M (setI N 0 1 (M.1 0 1 + 1)) := f1.setI (by unfold FdW; omega)
    have v1 : (setI N 0 1 (M.1 0 1 + 1)).1 0 1 = M.1 0 1 + 1 := sI_self _ _ _ _
    exact ok_mono (ih g _ (v + -8) (by omega) (by omega) (by omega) (by omega) (by omega)) (fun r hr => ⟨by omega, f2.trans hr.2⟩)
theorem ff_one {x1 : Int} {M : Mem} (hx : InR x1) (hM : IM M) (g3 : 0 ≤ M.1 0 1) (g4 : M.1 0 1 ≤ 700) : Ok (fun r => IM r ∧ r.1 0 1 = M.1 0 1 + 4 ∧ Fr FdW M r) (t_WF_feedFour M x1) := by
  have a := ff_loop (x1 := x1) 4 FU M 24 (by omega) (fu_big (by omega)) (by omega) g3 (by omega)
  refine ok_mono (ok_and (sf_WF_feedFour hM hx) (Q := fun r => r.1 0 1 = M.1 0 1 + 4 ∧ Fr FdW M r) ?_) (fun r hr => ⟨hr.1, hr.2⟩)
  intro r e
  obtain ⟨r', e', h'⟩ := a
  have : r' = r := Option.some.inj (e'.symm.trans e)
  rw [← this]
  exact h'
theorem c_feed {x1 x2 x3 x4 x5 : Int} {M : Mem} (h1 : InR x1) (h2 : InR x2) (h3 : InR x3) (h4 : InR x4) (h5 : InR x5) (hM : IM M) (g3 : 0 ≤ M.1 0 1) (g4 : M.1 0 1 ≤ 700) : Ok (fun r => IM r.1 ∧ Fr FdW M r.1 ∧ ((M.1 0 1 ≤ 680 ∧ r.2 = M.1 0 1 + 20 ∧ r.1.1 0 1 = M.1 0 1 + 20) ∨ (¬ M.1 0 1 ≤ 680 ∧ r.2 = -1 ∧ r.1.1 0 1 = M.1 0 1))) (t_WF_feed M x1 x2 x3 x4 x5) := by
  unfold t_WF_feed
  rw [w32_id (x := M.1 0 1 + 20) (by unfold InR; omega)]
  by_cases a : M.1 0 1 ≤ 680
  · rw [if_pos (by omega)]
    refine ok_bind (ff_one h1 hM g3 g4) (fun q1 k1 => ok_bind (ff_one h2 k1.1 (by omega) (by omega)) (fun q2 k2 => ok_bind (ff_one h3 k2.1 (by omega) (by omega)) (fun q3 k3 => ok_bind (ff_one h4 k3.1 (by omega) (by omega)) (fun q4 k4 => ok_bind (ff_one h5 k4.1 (by omega) (by omega)) (fun q5 k5 => ok_some ⟨k5.1, (((k1.2.2.trans k2.2.2).trans k3.2.2).trans k4.2.2).trans k5.2.2, Or.inl ⟨a, ?_, ?_⟩⟩)))))
    · show q5.1 0 1 = _
      omega
    · show q5.1 0 1 = _
      omega
  · rw [if_neg (by omega)]
    exact ok_some ⟨hM, Fr.rf, Or.inr ⟨a, rfl, rfl⟩⟩
theorem lb_220 {xs : Nat → Int32} {L : Nat} {bk : Mem → Int → Option Int} {M : Mem} {v : Int} (h : LI M) (hbk : ∀ N, LI N → Ok (fun r => r = 1) (bk N (w32 (v + 6)))) : Ok (fun r => r = 1) (t_Law_law_L220 xs L bk M v) := by
  unfold t_Law_law_L220 t_Law_law_L1540
  obtain ⟨h1, ⟨V, h2⟩, h3, h4, h5⟩ := h
  have t0 := h3.1
  refine ok_bind (c_feed (xi _) (xi _) (xi _) (xi _) (xi _) h1 (by omega) (by omega)) (fun q hq => ?_)
  obtain ⟨q1, q2, q3⟩ := hq
  have r1 : RI q.1 V := h2.fr q2 (fun k j a z => by unfold RIc at a; unfold FdW at z; omega)
  have r2 : TInv q.1 := h3.fr q2 (fun k j a z => by unfold FdW at z; omega)
  have e2 : q.1.1 191 2 = M.1 191 2 := (q2 191 2 (by unfold FdW; omega)).1
  have e4 : q.1.1 0 4 = M.1 0 4 := (q2 0 4 (by unfold FdW; omega)).1
  have e5 : q.1.1 0 5 = M.1 0 5 := (q2 0 5 (by unfold FdW; omega)).1
  refine ok_bind (ok_and (ok_and (ri_feed r1 r2 _ _ _ _ _) (im_MO_feed q1 (xi _) (xi _) (xi _) (xi _) (xi _))) (fr_MO_feed (W := W_MO_feed) (M0 := q.1) (fun k j z => z) Fr.rf)) (fun r hr => ?_)
  obtain ⟨⟨⟨s1, s2, s3⟩, s4⟩, s5⟩ := hr
  have e : q.2 = r.2 := by omega
  have f1 : r.1.1 0 1 = q.1.1 0 1 := (s5 0 1 (by unfold W_MO_feed; omega)).1
  have f4 : r.1.1 0 4 = q.1.1 0 4 := (s5 0 4 (by unfold W_MO_feed; omega)).1
  have f5 : r.1.1 0 5 = q.1.1 0 5 := (s5 0 5 (by unfold W_MO_feed; omega)).1
  rw [if_pos e]
  refine hbk _ ⟨s4.1, ⟨V, s1⟩, s2, ?_, by omega⟩
  unfold TPt at *
  omega
def TxC (M N : Mem) : Prop := ∀ k j, ¬ CkW k j → ¬ (k = 0 ∧ (j = 4 ∨ j = 5)) → N.1 k j = M.1 k j ∧ N.2 k j = M.2 k j
theorem c_text {x1 : Int} {M : Mem} (hM : IM M) (hx : InR x1) (hT : TPt M) : Ok (fun r => IM r.1 ∧ TPt r.1 ∧ Fr (fun k _ => k < 191) M r.1 ∧ r.1.1 0 1 = if 0 ≤ x1 ∧ x1 ≤ M.1 0 1 then 0 else M.1 0 1) (t_WF_text M x1) := by
  have hT5 : M.1 0 5 = 2 ∨ M.1 0 5 = 22 := by unfold TPt at hT; omega
  refine ok_mono (ok_and (sf_WF_text hM hx hT5) (Q := fun r => TPt r.1 ∧ Fr (fun k _ => k < 191) M r.1 ∧ r.1.1 0 1 = if 0 ≤ x1 ∧ x1 ≤ M.1 0 1 then 0 else M.1 0 1) ?_) (fun r hr => ⟨hr.1.1, hr.2⟩)
  unfold t_WF_text
  by_cases a : x1 < 0
  · rw [if_pos a, if_neg (by omega)]; exact post_some ⟨hT, Fr.rf, rfl⟩
  · rw [if_neg a]
    by_cases b : x1 ≤ M.1 0 1
    · rw [if_pos b, if_pos ⟨by omega, b⟩]
      have T1 : (M.1 0 5).toNat = 2 ∨ (M.1 0 5).toNat = 22 := by omega
      refine post_bind (Q := fun r => Fr CkW M r) (fr_Tokens_scan (fun k j z => by unfold W_Tokens_scan at z; unfold CkW; omega) Fr.rf) (fun q4 h4 => ?_)
      simp (config := { proj := false }) only [qlet]
      have g5 : (setI q4 0 1 0).1 0 5 = M.1 0 5 := by rw [sI_ne (by omega)]; exact (h4 0 5 (by unfold CkW; omega)).1
      have g4 : (setI q4 0 1 0).1 0 4 = M.1 0 4 := by rw [sI_ne (by omega)]; exact (h4 0 4 (by unfold CkW; omega)).1
      have g1 : (setI q4 0 1 0).1 0 1 = 0 := sI_self _ _ _ _
      have g0 : Fr (fun k _ => k < 191) M (setI q4 0 1 0) ∨ True := Or.inr trivial
      have fx : ∀ k j, k = 191 ∨ k = 192 ∨ 191 ≤ k ∧ k ≠ 231 → ((setI q4 0 1 0).1 k j = M.1 k j ∧ (setI q4 0 1 0).2 k j = M.2 k j) := fun k j z => by
        have := h4 k j (by unfold CkW; omega)
        exact ⟨by rw [sI_ne (by omega)]; exact this.1, this.2⟩
      sorry
    · rw [if_neg b, if_neg (by omega)]; exact post_some ⟨hT, Fr.rf, rfl⟩
