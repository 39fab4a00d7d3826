/-! ===== p2: feed and text, both sides -/
def FdW : Nat → Int → Prop := fun k j => (k = 0 ∧ j = 1) ∨ k = 1
theorem ff_loop {x1 : Int} : ∀ (m fu : Nat) (M : Mem) (v : Int), v = 8 * (m : Int) - 8 → m < fu → m ≤ 4 → 0 ≤ M.1 0 1 → M.1 0 1 + (m : Int) ≤ 1000 → Ok (fun r => r.1 0 1 = M.1 0 1 + (m : Int) ∧ Fr FdW M r) (t_WF_feedFour_L3 x1 fu M v) := by
  intro m
  induction m with
  | zero =>
    intro fu M v g0 g1 g2 g3 g4
    obtain ⟨g, rfl⟩ : ∃ g, fu = g + 1 := ⟨fu - 1, by omega⟩
    rw [t_WF_feedFour_L3, if_pos (by omega)]
    exact ok_some ⟨by omega, Fr.rf⟩
  | succ m ih =>
    intro fu M v g0 g1 g2 g3 g4
    obtain ⟨g, rfl⟩ : ∃ g, fu = g + 1 := ⟨fu - 1, by omega⟩
    have f1 : Fr FdW M (t_WF_put M 1 700 (M.1 0 1) (q_and (q_ushr x1 v) 255)) := fr_WF_put (fun k j z => by unfold W_WF_put at z; unfold FdW; omega) Fr.rf
    have e1 : (t_WF_put M 1 700 (M.1 0 1) (q_and (q_ushr x1 v) 255)).1 0 1 = M.1 0 1 := (fr_WF_put (W := fun k _ => k = 1) (M0 := M) (fun k j z => by unfold W_WF_put at z; exact z) Fr.rf 0 1 (by omega)).1
    rw [t_WF_feedFour_L3, if_neg (by omega), w32_id (x := v + -8) (by unfold InR; omega)]
    simp (config := { proj := false }) only [qlet]
    generalize t_WF_put M 1 700 (M.1 0 1) (q_and (q_ushr x1 v) 255) = N at *
    rw [e1, w32_id (x := M.1 0 1 + 1) (by unfold InR; omega)]
    have f2 : Fr FdW M (setI N 0 1 (M.1 0 1 + 1)) := f1.setI (by unfold FdW; omega)
    have v1 : (setI N 0 1 (M.1 0 1 + 1)).1 0 1 = M.1 0 1 + 1 := sI_self _ _ _ _
    exact ok_mono (ih g _ (v + -8) (by omega) (by omega) (by omega) (by omega) (by omega)) (fun r hr => ⟨by omega, f2.trans hr.2⟩)
theorem ff_one {x1 : Int} {M : Mem} (hx : InR x1) (hM : IM M) (g3 : 0 ≤ M.1 0 1) (g4 : M.1 0 1 ≤ 700) : Ok (fun r => IM r ∧ r.1 0 1 = M.1 0 1 + 4 ∧ Fr FdW M r) (t_WF_feedFour M x1) := by
  have a := ff_loop (x1 := x1) 4 FU M 24 (by omega) (fu_big (by omega)) (by omega) g3 (by omega)
  refine ok_mono (ok_and (sf_WF_feedFour hM hx) (Q := fun r => r.1 0 1 = M.1 0 1 + 4 ∧ Fr FdW M r) ?_) (fun r hr => ⟨hr.1, hr.2⟩)
  intro r e
  obtain ⟨r', e', h'⟩ := a
  have : r' = r := Option.some.inj (e'.symm.trans e)
  rw [← this]
  exact h'
theorem c_feed {x1 x2 x3 x4 x5 : Int} {M : Mem} (h1 : InR x1) (h2 : InR x2) (h3 : InR x3) (h4 : InR x4) (h5 : InR x5) (hM : IM M) (g3 : 0 ≤ M.1 0 1) (g4 : M.1 0 1 ≤ 700) : Ok (fun r => IM r.1 ∧ Fr FdW M r.1 ∧ ((M.1 0 1 ≤ 680 ∧ r.2 = M.1 0 1 + 20 ∧ r.1.1 0 1 = M.1 0 1 + 20) ∨ (¬ M.1 0 1 ≤ 680 ∧ r.2 = -1 ∧ r.1.1 0 1 = M.1 0 1))) (t_WF_feed M x1 x2 x3 x4 x5) := by
  unfold t_WF_feed
  rw [w32_id (x := M.1 0 1 + 20) (by unfold InR; omega)]
  by_cases a : M.1 0 1 ≤ 680
  · rw [if_pos (by omega)]
    refine ok_bind (ff_one h1 hM g3 g4) (fun q1 k1 => ok_bind (ff_one h2 k1.1 (by omega) (by omega)) (fun q2 k2 => ok_bind (ff_one h3 k2.1 (by omega) (by omega)) (fun q3 k3 => ok_bind (ff_one h4 k3.1 (by omega) (by omega)) (fun q4 k4 => ok_bind (ff_one h5 k4.1 (by omega) (by omega)) (fun q5 k5 => ok_some ⟨k5.1, (((k1.2.2.trans k2.2.2).trans k3.2.2).trans k4.2.2).trans k5.2.2, Or.inl ⟨a, ?_, ?_⟩⟩)))))
    · show q5.1 0 1 = _
      omega
    · show q5.1 0 1 = _
      omega
  · rw [if_neg (by omega)]
    exact ok_some ⟨hM, Fr.rf, Or.inr ⟨a, rfl, rfl⟩⟩
theorem lb_220 {xs : Nat → Int32} {L : Nat} {bk : Mem → Int → Option Int} {M : Mem} {v : Int} (h : LI M) (hbk : ∀ N, LI N → Ok (fun r => r = 1) (bk N (w32 (v + 6)))) : Ok (fun r => r = 1) (t_Law_law_L220 xs L bk M v) := by
  unfold t_Law_law_L220 t_Law_law_L1540
  obtain ⟨h1, ⟨V, h2⟩, h3, h4, h5⟩ := h
  have t0 := h3.1
  refine ok_bind (c_feed (xi _) (xi _) (xi _) (xi _) (xi _) h1 (by omega) (by omega)) (fun q hq => ?_)
  obtain ⟨q1, q2, q3⟩ := hq
  have r1 : RI q.1 V := h2.fr q2 (fun k j a z => by unfold RIc at a; unfold FdW at z; omega)
  have r2 : TInv q.1 := h3.fr q2 (fun k j a z => by unfold FdW at z; omega)
  have e2 : q.1.1 191 2 = M.1 191 2 := (q2 191 2 (by unfold FdW; omega)).1
  have e4 : q.1.1 0 4 = M.1 0 4 := (q2 0 4 (by unfold FdW; omega)).1
  have e5 : q.1.1 0 5 = M.1 0 5 := (q2 0 5 (by unfold FdW; omega)).1
  refine ok_bind (ok_and (ok_and (ri_feed r1 r2 _ _ _ _ _) (im_MO_feed q1 (xi _) (xi _) (xi _) (xi _) (xi _))) (fr_MO_feed (W := W_MO_feed) (M0 := q.1) (fun k j z => z) Fr.rf)) (fun r hr => ?_)
  obtain ⟨⟨⟨s1, s2, s3⟩, s4⟩, s5⟩ := hr
  have e : q.2 = r.2 := by omega
  have f1 : r.1.1 0 1 = q.1.1 0 1 := (s5 0 1 (by unfold W_MO_feed; omega)).1
  have f4 : r.1.1 0 4 = q.1.1 0 4 := (s5 0 4 (by unfold W_MO_feed; omega)).1
  have f5 : r.1.1 0 5 = q.1.1 0 5 := (s5 0 5 (by unfold W_MO_feed; omega)).1
  rw [if_pos e]
  refine hbk _ ⟨s4.1, ⟨V, s1⟩, s2, ?_, by omega⟩
  unfold TPt at *
  omega
def CtW : Nat → Int → Prop := fun k j => k < 191 ∧ ¬ (k = 0 ∧ (j = 1 ∨ j = 4 ∨ j = 5))
theorem post_letX {α β : Type} {P : β → Prop} {x : α} {f : α → Option β} (h : ∀ v, v = x → Post P (f v)) : Post P (qlet x f) := h x rfl
theorem c_text {x1 : Int} {M : Mem} (hM : IM M) (hx : InR x1) (hT : TPt M) : Ok (fun r => IM r.1 ∧ TPt r.1 ∧ Fr (fun k _ => k < 191) M r.1 ∧ r.1.1 0 1 = if 0 ≤ x1 ∧ x1 ≤ M.1 0 1 then 0 else M.1 0 1) (t_WF_text M x1) := by
  have hT5 : M.1 0 5 = 2 ∨ M.1 0 5 = 22 := by unfold TPt at hT; omega
  refine ok_mono (ok_and (sf_WF_text hM hx hT5) (Q := fun r => TPt r.1 ∧ Fr (fun k _ => k < 191) M r.1 ∧ r.1.1 0 1 = if 0 ≤ x1 ∧ x1 ≤ M.1 0 1 then 0 else M.1 0 1) ?_) (fun r hr => ⟨hr.1.1, hr.2⟩)
  unfold t_WF_text
  by_cases a : x1 < 0
  · rw [if_pos a, if_neg (by omega)]; exact post_some ⟨hT, Fr.rf, rfl⟩
  · rw [if_neg a]
    by_cases b : x1 ≤ M.1 0 1
    · rw [if_pos b, if_pos ⟨by omega, b⟩]
      have w : ∀ k j, CtW k j → k < 191 := fun k j z => z.1
      have c : ∀ {A B : Mem}, Fr CtW A B → B.1 0 1 = A.1 0 1 ∧ B.1 0 4 = A.1 0 4 ∧ B.1 0 5 = A.1 0 5 := fun f => ⟨(f 0 1 (by unfold CtW; omega)).1, (f 0 4 (by unfold CtW; omega)).1, (f 0 5 (by unfold CtW; omega)).1⟩
      refine post_bind (Q := fun r => Fr CtW M r) (fr_Tokens_scan (fun k j z => by unfold W_Tokens_scan at z; unfold CtW; omega) Fr.rf) (fun q4 h4 => ?_)
      refine post_letX (fun M6 e6 => ?_)
      have c4 := c h4
      have f6 : Fr (fun k _ => k < 191) M M6 := by rw [e6]; exact (h4.mono w).setI (by show (0 : Nat) < 191; omega)
      have v1 : M6.1 0 1 = 0 := by rw [e6]; exact sI_self _ _ _ _
      have v4 : M6.1 0 4 = M.1 0 4 := by rw [e6, sI_ne (by omega)]; exact c4.2.1
      have v5 : M6.1 0 5 = M.1 0 5 := by rw [e6, sI_ne (by omega)]; exact c4.2.2
      refine post_bind (Q := fun r => Fr CtW M6 r) (fr_Town_clear (fun k j z => by unfold W_Town_clear at z; unfold CtW; omega) Fr.rf) (fun q8 h8 => ?_)
      have c8 := c h8
      refine post_bind (Q := fun r => Fr CtW q8 r.1) (fr_Reader_read (fun k j z => by unfold W_Reader_read at z; unfold CtW; omega) Fr.rf) (fun q11 h11 => ?_)
      have c11 := c h11
      refine post_letX (fun M14 e14 => post_letX (fun M16 e16 => ?_))
      have f16 : Fr CtW q11.1 M16 := by rw [e16, e14]; exact (Fr.rf.setI (by unfold CtW; omega)).setI (by unfold CtW; omega)
      have c16 := c f16
      have fA : Fr (fun k _ => k < 191) M M16 := ((f6.trans (h8.mono w)).trans (h11.mono w)).trans (f16.mono w)
      have TP16 : TPt M16 := by unfold TPt at *; omega
      by_cases d : 0 ≤ q11.2
      · rw [if_pos d]
        refine post_letX (fun M20 e20 => post_letX (fun M21 e21 => ?_))
        have f21 : Fr (fun k _ => k < 191) M M21 := by rw [e21, e20]; exact (fA.setI (by show (0 : Nat) < 191; omega)).setI (by show (0 : Nat) < 191; omega)
        have u1 : M21.1 0 1 = 0 := by rw [e21, e20, sI_ne (by omega), sI_ne (by omega)]; omega
        have u4 : M21.1 0 4 = M16.1 0 5 := by rw [e21, sI_self]; unfold TPt at TP16; omega
        have u5 : M21.1 0 5 = M16.1 0 4 := by rw [e21, sI_ne (by omega), e20, sI_self]; unfold TPt at TP16; omega
        refine post_bind (Q := fun r => Fr CtW M21 r) (fr_WF_startAnew (fun k j z => by unfold W_WF_startAnew at z; unfold CtW; omega) Fr.rf) (fun q22 h22 => post_some ⟨?_, f21.trans (h22.mono w), ?_⟩)
        · have c22 := c h22
          show TPt q22
          unfold TPt at *
          omega
        · have c22 := c h22
          show q22.1 0 1 = 0
          omega
      · rw [if_neg d]
        exact post_some ⟨TP16, fA, by show M16.1 0 1 = 0; omega⟩
    · rw [if_neg b, if_neg (by omega)]; exact post_some ⟨hT, Fr.rf, rfl⟩
theorem mt_len {M : Mem} {x1 : Int} (hT : TInv M) : Post (fun r => r.1.1 191 2 = if 0 ≤ x1 ∧ x1 ≤ M.1 191 2 then 0 else M.1 191 2) (t_MO_text M x1) := by
  intro r e
  rcases m_text (x1 := x1) hT with ⟨a, e'⟩ | ⟨a, N, r', e', o⟩
  · have : r = (setI M 191 0 0, -2) := Option.some.inj (e.symm.trans e')
    rw [this, if_neg a]
    exact sI_ne (by omega)
  · have : r = (N, r') := Option.some.inj (e.symm.trans e')
    rw [this, if_pos a]
    rcases o with o | o
    · exact o.2.2.2.2.2
    · exact o.2.2.2.2.1
theorem lb_293 {xs : Nat → Int32} {L : Nat} {bk : Mem → Int → Option Int} {M : Mem} {v : Int} (h : LI M) (hbk : ∀ N, LI N → Ok (fun r => r = 1) (bk N (w32 (v + 6)))) : Ok (fun r => r = 1) (t_Law_law_L293 xs L bk M v) := by
  unfold t_Law_law_L293 t_Law_law_L1540
  obtain ⟨h1, ⟨V, h2⟩, h3, h4, h5⟩ := h
  refine ok_bind (c_text h1 (xi _) h4) (fun q hq => ?_)
  obtain ⟨q1, q2, q3, q4⟩ := hq
  have r1 : RI q.1 V := h2.fr q3 (fun k j a z => by unfold RIc at a; have z : k < 191 := z; omega)
  have r2 : TInv q.1 := h3.fr q3 (fun k j a z => by have z : k < 191 := z; omega)
  have e2 : q.1.1 191 2 = M.1 191 2 := (q3 191 2 (by show ¬ (191 : Nat) < 191; omega)).1
  refine ok_bind (ok_and (ok_and (ok_and (ri_text r1 r2 _) (mt_len r2)) (im_MO_text q1 (xi _))) (fr_MO_text (W := W_MO_text) (M0 := q.1) (fun k j z => z) Fr.rf)) (fun r hr => ?_)
  obtain ⟨⟨⟨⟨s1, s2⟩, s3⟩, s4⟩, s5⟩ := hr
  have f1 : r.1.1 0 1 = q.1.1 0 1 := (s5 0 1 (by unfold W_MO_text; omega)).1
  have f4 : r.1.1 0 4 = q.1.1 0 4 := (s5 0 4 (by unfold W_MO_text; omega)).1
  have f5 : r.1.1 0 5 = q.1.1 0 5 := (s5 0 5 (by unfold W_MO_text; omega)).1
  refine hbk _ ⟨s4.1, s1, s2, ?_, ?_⟩
  · unfold TPt at *
    rw [f4, f5]
    exact q2
  · rw [f1, q4, s3, e2, h5]
