/-! ===== beats, tries, undo, keep, back ===== -/
theorem RI.beat {M : Mem} {V : TV} (h : RI M V) (hu : M.1 191 43 = 0) : ∃ N, t_MO_beat M 0 = some (N, (btS V (nxR M 0 V) true (AT M 0) (ST M 0) (LN M 0) (V 0 3).toNat).2.2.2) ∧ RI N V ∧ N.1 191 43 = 0 ∧ Fr (BW 0) M N ∧ (∀ t, 0 ≤ t → t < V 0 3 → AT N 0 t = (btS V (nxR M 0 V) true (AT M 0) (ST M 0) (LN M 0) (V 0 3).toNat).1 t ∧ ST N 0 t = (btS V (nxR M 0 V) true (AT M 0) (ST M 0) (LN M 0) (V 0 3).toNat).2.1 t ∧ LN N 0 t = (btS V (nxR M 0 V) true (AT M 0) (ST M 0) (LN M 0) (V 0 3).toNat).2.2.1 t) ∧ N.1 208 0 = w32 (M.1 208 0 + 1) := by
  have hC := h.1.1.cells
  have hr := h.row0
  have hv := h.1.1.1
  have hs : stepOK (nxR M 0 V) (cellsV V) := nx_ok h.1.1 _ _ _
  have h44 := h.2.1
  have hA : ∀ t, 0 ≤ t → t < V 0 3 → -1 ≤ AT M 0 t ∧ AT M 0 t < cellsV V := fun t a b => by have := hr.2.1 t a b; unfold AT; omega
  have hd : decide (M.1 191 44 ≠ 1) = true := by rw [h44]; decide
  obtain ⟨N, e1, e2, e3, e4⟩ := m_beat (M := M) (at_ := 0) (f := nxR M 0 V) (A := AT M 0) (S := ST M 0) (L := LN M 0) (by omega) h.1.1 hC.2 hs hA (fun t a b _ => (hr.2.1 t a b).1) (fun N hF => by
    have hN := (h.nb hr).fr hF (fun k j x q => by unfold TW at q; omega)
    have e : nxR N 0 V = nxR M 0 V := nxR_fr hF (fun k j x q => by unfold TW at q; omega)
    exact ⟨hN.2.1, fun c x y => by rw [hN.next (by omega) x y, e]⟩) (h.th 0)
  rw [hd] at e1 e3
  have h43 : N.1 191 43 = 0 := by rw [(e2 191 43 (by unfold BW; omega)).1]; exact hu
  have hT : ∀ t, 0 ≤ t → t < V 0 3 → AT N 0 t = (btS V (nxR M 0 V) true (AT M 0) (ST M 0) (LN M 0) (V 0 3).toNat).1 t ∧ ST N 0 t = (btS V (nxR M 0 V) true (AT M 0) (ST M 0) (LN M 0) (V 0 3).toNat).2.1 t ∧ LN N 0 t = (btS V (nxR M 0 V) true (AT M 0) (ST M 0) (LN M 0) (V 0 3).toNat).2.2.1 t := fun t a b => by
    rcases e3 t a b with q | q
    · exact absurd q.1 (by omega)
    · exact q.2
  have hy := h.2.2.1.2
  refine ⟨N, e1, ?_, h43, e2, hT, e4⟩
  refine h.now e2 (fun k j _ q => Or.inl (by unfold BW at q; unfold CW; omega)) ⟨fun w a b => ?_, fun t a b => ?_, fun c a b => ?_⟩ ?_ ?_ ⟨by omega, by omega⟩ (fun q => by omega)
  · rw [(e2 212 _ (by unfold BW; omega)).1]; exact hr.1 w a b
  · have q1 := (hT t a b).1
    have q2 := btS_rng (way := true) (S := ST M 0) (L := LN M 0) hs hA (V 0 3).toNat (by omega) t a b
    have q3 := btS_nn (V := V) (f := nxR M 0 V) (way := true) (A := AT M 0) (S := ST M 0) (L := LN M 0) (t := t) (hr.2.1 t a b).1 (V 0 3).toNat
    have q4 : N.1 213 (8 * 0 + t) = (btS V (nxR M 0 V) true (AT M 0) (ST M 0) (LN M 0) (V 0 3).toNat).1 t := q1
    rw [q4]
    exact ⟨q3, q2.2⟩
  · rw [(e2 210 _ (by unfold BW; omega)).2, (e2 211 _ (by unfold BW; omega)).2]; exact hr.2.2 c a b
  · rw [(e2 207 _ (by unfold BW; omega)).1]; exact ⟨hy.1, hy.2.1⟩
  · rw [(e2 209 _ (by unfold BW; omega)).1]; exact ⟨hy.2.2.1, hy.2.2.2⟩
theorem RI.no_undo {M : Mem} {V : TV} (h : RI M V) : RI (setI M 191 43 0) V := by
  have hy := h.2.2.1.2
  have hu := h.2.2.2.2.1
  refine h.now (W := fun k j => k = 191 ∧ j = 43) (Fr.rf.setI ⟨rfl, rfl⟩) (fun k j _ q => Or.inr q) ⟨fun w a b => ?_, fun t a b => ?_, fun c a b => ?_⟩ ?_ ?_ ?_ (fun q => ?_)
  · rw [sI_ne (by omega)]; exact h.row0.1 w a b
  · rw [sI_ne (by omega)]; exact h.row0.2.1 t a b
  · exact h.row0.2.2 c a b
  · rw [sI_ne (by omega)]; exact ⟨hy.1, hy.2.1⟩
  · rw [sI_ne (by omega)]; exact ⟨hy.2.2.1, hy.2.2.2⟩
  · rw [sI_self]; exact ⟨by omega, hu.1⟩
  · rw [sI_self] at q; omega
theorem ri_beats_loop {x1 : Int} {V : TV} (h2 : x1 ≤ 200) : ∀ (n fu : Nat) (M : Mem) (v2 v3 : Int), v3 + (n : Int) = x1 → 0 ≤ v3 → n < fu → RI M V → (0 < n → M.1 191 43 = 0) → Ok (fun r => RI r.1 V) (t_MO_beats_L31 x1 fu M v2 v3) := by
  intro n
  induction n with
  | zero =>
    intro fu M v2 v3 g0 g1 g2 h hu
    obtain ⟨g, rfl⟩ : ∃ g, fu = g + 1 := ⟨fu - 1, by omega⟩
    rw [t_MO_beats_L31, if_pos (by omega)]
    exact ok_some h
  | succ n ih =>
    intro fu M v2 v3 g0 g1 g2 h hu
    obtain ⟨g, rfl⟩ : ∃ g, fu = g + 1 := ⟨fu - 1, by omega⟩
    rw [t_MO_beats_L31, if_neg (by omega), w32_id (x := v3 + 1) (by unfold InR; omega)]
    obtain ⟨N, e1, e2, e3, -⟩ := h.beat (hu (by omega))
    rw [e1, obind_some]
    exact ih g N _ (v3 + 1) (by omega) (by omega) (by omega) e2 (fun _ => e3)
theorem ri_beats {M : Mem} {V : TV} (h : RI M V) (x1 : Int) : Ok (fun r => RI r.1 V) (t_MO_beats M x1) := by
  unfold t_MO_beats t_MO_beats_L27
  refine ok_let (fun M1 e1 => ?_)
  have h1 : RI M1 V := by rw [e1]; exact h.set0 0
  refine ok_ite (fun _ => ok_some h1) (fun c1 => ok_ite (fun c2 => ?_) (fun _ => ok_some h1))
  refine ok_ite (fun c3 => ?_) (fun c3 => ok_let (fun M5 e5 => ?_))
  · exact ri_beats_loop c2 x1.toNat FU M1 0 0 (by omega) (by omega) (fu_big (by omega)) h1 (fun q => by omega)
  · exact ri_beats_loop c2 x1.toNat FU M5 0 0 (by omega) (by omega) (fu_big (by omega)) (by rw [e5]; exact h1.no_undo) (fun _ => by rw [e5, sI_self])
theorem ri_tried_loop {x1 x2 x3 : Int} {V : TV} {M0 : Mem} (h : RI M0 V) (hr : RowOK M0 1 V) (h2 : x3 ≤ 200) : ∀ (n fu : Nat) (M : Mem) (A S L : Int → Int) (v2 v3 : Int), v3 + (n : Int) = x3 → 0 ≤ v3 → n < fu → Fr (fun k j => BW 1 k j ∨ (k = 191 ∧ (j = 44 ∨ j = 45))) M0 M → M.2 191 44 = M0.2 191 44 → M.1 191 44 = x1 → M.1 191 45 = x2 → MTh M 1 V x1 x2 A S L → (∀ t, 0 ≤ t → t < V 0 3 → -1 ≤ A t ∧ A t < cellsV V) → (∀ t, 0 ≤ t → t < V 0 3 → ¬ (x1 = 4 ∧ x2 = t) → 0 ≤ A t) → Ok (fun r => RI r.1 V) (t_MO_tried_L91 x1 x2 x3 fu M v2 v3) := by
  intro n
  induction n with
  | zero =>
    intro fu M A S L v2 v3 g0 g1 g2 hF hL e44 e45 hT hA hA2
    obtain ⟨g, rfl⟩ : ∃ g, fu = g + 1 := ⟨fu - 1, by omega⟩
    rw [t_MO_tried_L91, if_pos (by omega)]
    simp only [qlet]
    refine ok_some (h.fr (W := fun k j => BW 1 k j ∨ (k = 191 ∧ j = 45)) (fun k j hk => ?_) (fun k j a q => by unfold RIc at a; unfold BW at q; omega))
    by_cases q : k = 191 ∧ j = 44
    · obtain ⟨rfl, rfl⟩ := q
      refine ⟨?_, hL⟩
      · show (setI (setI M 191 44 (-1)) 191 45 (-1)).1 191 44 = M0.1 191 44
        rw [sI_ne (by omega), sI_self, h.2.1]
    · have hk2 : ¬ (BW 1 k j ∨ (k = 191 ∧ (j = 44 ∨ j = 45))) := fun p => p.elim (fun p => hk (Or.inl p)) (fun p => p.2.elim (fun p2 => q ⟨p.1, p2⟩) (fun p2 => hk (Or.inr ⟨p.1, p2⟩)))
      refine ⟨?_, (hF k j hk2).2⟩
      show (setI (setI M 191 44 (-1)) 191 45 (-1)).1 k j = M0.1 k j
      rw [sI_ne (fun p => hk (Or.inr p)), sI_ne q]
      exact (hF k j hk2).1
  | succ n ih =>
    intro fu M A S L v2 v3 g0 g1 g2 hF hL e44 e45 hT hA hA2
    obtain ⟨g, rfl⟩ : ∃ g, fu = g + 1 := ⟨fu - 1, by omega⟩
    have hC := h.1.1.cells
    rw [t_MO_tried_L91, if_neg (by omega), w32_id (x := v3 + 1) (by unfold InR; omega)]
    have hs : stepOK (nxV V (trD x1 x2 (DN M0 1)) (trN x1 (M0.2 210 1)) (trW x1 (wlV V))) (cellsV V) := nx_ok h.1.1 _ _ _
    have hmt : ∀ N, Fr (fun k j => BW 1 k j ∨ (k = 191 ∧ (j = 44 ∨ j = 45))) M0 N → N.1 191 44 = x1 → N.1 191 45 = x2 → MT0 N V ∧ ∀ c, 0 ≤ c → c < cellsV V → t_MO_nextOf N 1 c = some (nxV V (trD x1 x2 (DN M0 1)) (trN x1 (M0.2 210 1)) (trW x1 (wlV V)) c) := by
      intro N hN a b
      have m0 : MT0 N V := h.1.2.1.fr hN (fun k j x y q => by unfold BW at q; omega)
      refine ⟨m0, fun c p q => ?_⟩
      have := m_nextT (M := N) (at_ := 1) (D := DN M0 1) (A := AT N 1) (nets := M0.2 210 1) m0 h.1.1 ⟨fun w x y => (hN 212 _ (by unfold BW; omega)).1, fun t x y => rfl, (hN 210 1 (by unfold BW; omega)).2⟩ hr.1 (by omega) p q
      rw [a, b] at this; exact this
    obtain ⟨N, e1, e2, e3, e4⟩ := m_beat (M := M) (at_ := 1) (A := A) (S := S) (L := L) (by omega) h.1.1 hC.2 hs hA (by rw [e44, e45]; exact hA2) (fun N hN => hmt N (hF.trans (hN.mono (fun k j q => Or.inl (Or.inr q)))) (by rw [(hN 191 44 (by unfold TW; omega)).1]; exact e44) (by rw [(hN 191 45 (by unfold TW; omega)).1]; exact e45)) (by rw [e44, e45]; exact hT)
    rw [e1, obind_some]
    rw [e44, e45] at e3
    refine ih g N _ _ _ _ (v3 + 1) (by omega) (by omega) (by omega) (hF.trans (e2.mono (fun k j q => Or.inl q))) ((e2 191 44 (by unfold BW; omega)).2.trans hL) (by rw [(e2 191 44 (by unfold BW; omega)).1]; exact e44) (by rw [(e2 191 45 (by unfold BW; omega)).1]; exact e45) e3 (fun t a b => btS_rng hs hA _ (by have := h.1.1.1; omega) t a b) (fun t a b q => btS_nn (hA2 t a b q) _)
theorem ri_tried {M : Mem} {V : TV} (h : RI M V) (x1 x2 x3 : Int) : Ok (fun r => RI r.1 V) (t_MO_tried M x1 x2 x3) := by
  unfold t_MO_tried t_MO_tried_L48
  refine ok_let (fun M1 e1 => ?_)
  have h1 : RI M1 V := by rw [e1]; exact h.set0 0
  have main : ∀ v4 : Int, Ok (fun r => RI r.1 V) (t_MO_tried_L49 x1 x2 x3 M1 v4) := by
    intro v4
    unfold t_MO_tried_L49
    refine ok_ite (fun _ => ok_some h1) (fun _ => ok_ite (fun _ => ok_some h1) (fun c1 => ok_ite (fun c2 => ?_) (fun _ => ok_some h1)))
    refine ok_bind h1.cp1 (fun N hN => ?_)
    simp only [qlet]
    have hr := hN.2.1
    refine ri_tried_loop hN.1 hr c2 x3.toNat FU _ (fun t => if x1 = 4 ∧ x2 = t then -1 else AT N 1 t) (ST N 1) (LN N 1) 0 0 (by omega) (by omega) (fu_big (by omega)) ((Fr.rf.setI (Or.inr ⟨rfl, Or.inl rfl⟩)).setI (Or.inr ⟨rfl, Or.inr rfl⟩)) rfl ?_ (sI_self _ _ _ _) (fun t a b => ?_) (fun t a b => ?_) (fun t a b q => ?_)
    · rw [sI_ne (by omega), sI_self]
    · by_cases q : x1 = 4 ∧ x2 = t
      · exact Or.inl ⟨q.1, q.2, if_pos q⟩
      · refine Or.inr ⟨q, ?_, ?_, ?_⟩
        · rw [sI_ne (by omega), sI_ne (by omega)]; exact (if_neg q).symm
        · rw [sI_ne (by omega), sI_ne (by omega)]; rfl
        · rw [sI_ne (by omega), sI_ne (by omega)]; rfl
    · have := hr.2.1 t a b
      show -1 ≤ (if x1 = 4 ∧ x2 = t then -1 else AT N 1 t) ∧ (if x1 = 4 ∧ x2 = t then -1 else AT N 1 t) < cellsV V
      have hC := h.1.1.cells
      split
      · omega
      · unfold AT; omega
    · show 0 ≤ (if x1 = 4 ∧ x2 = t then -1 else AT N 1 t)
      rw [if_neg q]
      exact (hr.2.1 t a b).1
  exact ok_ite (fun _ => ok_let (fun _ _ => main _)) (fun _ => ok_ite (fun _ => ok_let (fun _ _ => main _)) (fun _ => ok_ite (fun _ => main _) (fun _ => ok_ite (fun _ => main _) (fun _ => ok_ite (fun _ => main _) (fun _ => main _)))))
def LW (to : Int) : Nat → Int → Prop := fun k j => (k = 216 ∨ k = 217 ∨ k = 218) ∧ 100 * to ≤ j ∧ j < 100 * to + 100
theorem m_copiesLog_loop {M0 : Mem} {x1 x2 : Int} (h1 : 0 ≤ x1 ∧ x1 < 3) (h2 : 0 ≤ x2 ∧ x2 < 3) (hne : x1 ≠ x2) : ∀ (n fu : Nat) (M : Mem) (v : Int), v + (n : Int) = 100 → 0 ≤ v → n < fu → Fr (LW x1) M0 M → (∀ k t, (k = 216 ∨ k = 217 ∨ k = 218) → 0 ≤ t → t < v → M.1 k (100 * x1 + t) = M0.1 k (100 * x2 + t)) →
    ∃ N, t_MO_copiesLog_L2 x1 x2 fu M v = some N ∧ Fr (LW x1) M0 N ∧ (∀ k t, (k = 216 ∨ k = 217 ∨ k = 218) → 0 ≤ t → t < 100 → N.1 k (100 * x1 + t) = M0.1 k (100 * x2 + t)) := by
  intro n
  induction n with
  | zero =>
    intro fu M v g0 g1 g2 hF hc
    obtain ⟨g, rfl⟩ : ∃ g, fu = g + 1 := ⟨fu - 1, by omega⟩
    rw [t_MO_copiesLog_L2, if_pos (by omega)]
    exact ⟨M, rfl, hF, fun k t q a b => hc k t q a (by omega)⟩
  | succ n ih =>
    intro fu M v g0 g1 g2 hF hc
    obtain ⟨g, rfl⟩ : ∃ g, fu = g + 1 := ⟨fu - 1, by omega⟩
    rw [t_MO_copiesLog_L2, if_neg (by omega), w32_id (x := 100 * x2) (by unfold InR; omega), w32_id (x := 100 * x1) (by unfold InR; omega), w32_id (x := 100 * x2 + v) (by unfold InR; omega), w32_id (x := 100 * x1 + v) (by unfold InR; omega), w32_id (x := v + 1) (by unfold InR; omega)]
    simp only [qlet]
    rw [qguard_pos ⟨by omega, by omega⟩, qguard_pos ⟨by omega, by omega⟩, qguard_pos ⟨by omega, by omega⟩, qguard_pos ⟨by omega, by omega⟩, qguard_pos ⟨by omega, by omega⟩, qguard_pos ⟨by omega, by omega⟩]
    have s1 : ∀ k, (k = 216 ∨ k = 217 ∨ k = 218) → M.1 k (100 * x2 + v) = M0.1 k (100 * x2 + v) := fun k hk => (hF k _ (by unfold LW; omega)).1
    refine ih g _ (v + 1) (by omega) (by omega) (by omega) (((hF.setI (by unfold LW; omega)).setI (by unfold LW; omega)).setI (by unfold LW; omega)) (fun k t hk a b => ?_)
    by_cases e : t = v
    · subst e
      rcases hk with rfl | rfl | rfl
      · rw [sI_ne (by omega), sI_ne (by omega), sI_self]; exact s1 216 (by omega)
      · rw [sI_ne (by omega), sI_self, uI_ne _ _ (by omega)]; exact s1 217 (by omega)
      · rw [sI_self, uI_ne _ _ (by omega), uI_ne _ _ (by omega)]; exact s1 218 (by omega)
    · rw [sI_ne (by omega), sI_ne (by omega), sI_ne (by omega)]; exact hc k t hk a (by omega)
theorem m_copiesLog {M : Mem} {x1 x2 : Int} (h1 : 0 ≤ x1 ∧ x1 < 3) (h2 : 0 ≤ x2 ∧ x2 < 3) (hne : x1 ≠ x2) : ∃ N, t_MO_copiesLog M x1 x2 = some N ∧ Fr (LW x1) M N ∧ (∀ k t, (k = 216 ∨ k = 217 ∨ k = 218) → 0 ≤ t → t < 100 → N.1 k (100 * x1 + t) = M.1 k (100 * x2 + t)) := m_copiesLog_loop h1 h2 hne 100 FU M 0 (by omega) (by omega) (fu_big (by omega)) Fr.rf (fun k t _ a b => by omega)
theorem RI.img {W : Nat → Int → Prop} {M N : Mem} {V : TV} (h : RI M V) (hF : Fr W M N) (hd : ∀ k j, RIc k j → W k j → CW 2 k j ∨ (k = 191 ∧ j = 42)) (h42 : N.1 191 42 = 1) (hr : RowEq N 2 M 0) : RI N V := by
  obtain ⟨⟨a1, a2, a3, a4⟩, b, ⟨c1, c2⟩, ⟨d1, d2⟩, ⟨e1, e2, e3⟩, f⟩ := h
  have row : ∀ a : Int, 0 ≤ a → a ≠ 1 → a ≠ 2 → RowEq N a M a := fun a x y z => RowEq.fr hF (fun k j hk q => by
    rcases hd k j (CW_RIc ⟨x, y⟩ k j hk) q with q | q
    · unfold CW at hk q; omega
    · unfold CW at hk; omega)
  have nn : ∀ k j, RIc k j → ¬ CW 2 k j → ¬ (k = 191 ∧ j = 42) → ¬ W k j := fun k j x y z q => (hd k j x q).elim y z
  have q : ∀ j : Int, (j = 43 ∨ j = 44) → N.1 191 j = M.1 191 j := fun j hj => (hF 191 j (nn _ _ (by unfold RIc; omega) (by unfold CW; omega) (by omega))).1
  have q0 := row 0 (by omega) (by omega) (by omega)
  refine ⟨⟨a1, MT0.fr hF (fun k j x y => nn _ _ (by unfold RIc; omega) (by unfold CW; omega) (by omega)) a2, a3, MF1.fr hF (fun k j x y => nn _ _ (by unfold RIc; omega) (by unfold CW; omega) (by omega)) a4.1, MF1.fr hF (fun k j x y => nn _ _ (by unfold RIc; omega) (by unfold CW; omega) (by omega)) a4.2⟩, by rw [q 44 (by omega)]; exact b, ⟨c1.of a1 q0, by rw [q0.1.1, q0.1.2.2.1]; exact c2⟩, ⟨Or.inr h42, fun _ => ⟨c1.of a1 hr, by rw [hr.1.1, hr.1.2.2.1]; exact c2⟩⟩, ⟨by rw [q 43 (by omega)]; exact e1, by rw [q 43 (by omega)]; exact e2, fun k x y => ?_⟩, f.fr hF (fun k j x => nn _ _ (by unfold RIc; omega) (by unfold CW; omega) (by omega))⟩
  rw [q 43 (by omega)] at y
  have q3 := row (3 + k) (by omega) (by omega) (by omega)
  obtain ⟨r1, r2, r3, r4⟩ := e3 k x y
  exact ⟨r1.of a1 q3, by rw [q3.1.1, q0.1.1]; exact r2, by rw [q3.1.2.1, q0.1.2.1]; exact r3, by rw [q3.1.2.2.1, q0.1.2.2.1]; exact r4⟩
theorem ri_keep {M : Mem} {V : TV} (h : RI M V) : Ok (fun r => RI r.1 V) (t_MO_keep M) := by
  unfold t_MO_keep
  refine ok_let (fun M1 e1 => ?_)
  have h1 : RI M1 V := by rw [e1]; exact h.set0 0
  obtain ⟨N, n1, n2, n3⟩ := m_copies (M := M1) (x1 := 2) (x2 := 0) (by omega) (by omega) (by omega)
  obtain ⟨O, o1, o2, -⟩ := m_copiesLog (M := N) (x1 := 2) (x2 := 0) (by omega) (by omega) (by omega)
  rw [n1, obind_some, o1, obind_some]
  refine ok_let (fun M6 e6 => ok_some ?_)
  have hF : Fr (fun k j => CW 2 k j ∨ LW 2 k j ∨ (k = 191 ∧ j = 42)) M1 M6 := by
    rw [e6]
    exact ((n2.mono (fun k j q => Or.inl q)).trans (o2.mono (fun k j q => Or.inr (Or.inl q)))).setI (Or.inr (Or.inr ⟨rfl, rfl⟩))
  have hF2 : Fr (fun k j => LW 2 k j ∨ (k = 191 ∧ j = 42)) N M6 := by
    rw [e6]
    exact (o2.mono (fun k j q => Or.inl q)).setI (Or.inr ⟨rfl, rfl⟩)
  exact h1.img hF (fun k j a q => q.elim Or.inl (fun q => q.elim (fun q => by unfold RIc at a; unfold LW at q; omega) Or.inr)) (by rw [e6, sI_self]) ((RowEq.fr hF2 (fun k j a q => by unfold CW at a; unfold LW at q; omega)).trans n3)
theorem ri_back {M : Mem} {V : TV} (h : RI M V) : Ok (fun r => RI r.1 V) (t_MO_back M) := by
  unfold t_MO_back
  refine ok_let (fun M1 e1 => ?_)
  have h1 : RI M1 V := by rw [e1]; exact h.set0 0
  refine ok_ite (fun _ => ok_some h1) (fun c => ?_)
  have hi := h1.2.2.2.1
  have h2 := hi.2 (by omega)
  obtain ⟨N, n1, n2, n3⟩ := m_copies (M := M1) (x1 := 0) (x2 := 2) (by omega) (by omega) (by omega)
  obtain ⟨O, o1, o2, -⟩ := m_copiesLog (M := N) (x1 := 0) (x2 := 2) (by omega) (by omega) (by omega)
  rw [n1, obind_some, o1, obind_some]
  refine ok_let (fun M6 e6 => ok_some ?_)
  have hF : Fr (fun k j => CW 0 k j ∨ LW 0 k j ∨ (k = 191 ∧ j = 43)) M1 M6 := by
    rw [e6]
    exact ((n2.mono (fun k j q => Or.inl q)).trans (o2.mono (fun k j q => Or.inr (Or.inl q)))).setI (Or.inr (Or.inr ⟨rfl, rfl⟩))
  have hF2 : Fr (fun k j => LW 0 k j ∨ (k = 191 ∧ j = 43)) N M6 := by
    rw [e6]
    exact (o2.mono (fun k j q => Or.inl q)).setI (Or.inr ⟨rfl, rfl⟩)
  have hr := (RowEq.fr hF2 (a := 0) (fun k j a q => by unfold CW at a; unfold LW at q; omega)).trans n3
  have h43 : M6.1 191 43 = 0 := by rw [e6, sI_self]
  exact h1.now hF (fun k j a q => q.elim Or.inl (fun q => q.elim (fun q => by unfold RIc at a; unfold LW at q; omega) Or.inr)) (h2.1.of h.1.1 hr) (by rw [hr.1.1]; exact ⟨h2.2.1, h2.2.2.1⟩) (by rw [hr.1.2.2.1]; exact h2.2.2.2) (by rw [h43]; exact ⟨by omega, h1.2.2.2.2.1.1⟩) (fun q => absurd q (by show ¬ 0 < M6.1 191 43; rw [h43]; decide))
theorem ri_undo {M : Mem} {V : TV} (h : RI M V) : Ok (fun r => RI r.1 V) (t_MO_undo M) := by
  unfold t_MO_undo
  refine ok_let (fun M1 e1 => ?_)
  have h1 : RI M1 V := by rw [e1]; exact h.set0 0
  refine ok_ite (fun _ => ok_some h1) (fun c => ?_)
  have hu := h1.2.2.2.2.1
  rw [w32_id (x := M1.1 191 43 - 1) (by unfold InR; omega)]
  refine ok_let (fun M5 e5 => ?_)
  have e43 : M5.1 191 43 = M1.1 191 43 - 1 := by rw [e5, sI_self]
  rw [e43, w32_id (by unfold InR; omega)]
  obtain ⟨N, n1, n2, n3⟩ := m_copies (M := M5) (x1 := 0) (x2 := 3 + (M1.1 191 43 - 1)) (by omega) (by omega) (by omega)
  rw [n1, obind_some]
  refine ok_some ?_
  have hF5 : Fr (fun k j => k = 191 ∧ j = 43) M1 M5 := by rw [e5]; exact Fr.rf.setI ⟨rfl, rfl⟩
  have hr := n3.trans (RowEq.fr hF5 (fun k j a q => by unfold CW at a; omega))
  obtain ⟨r1, r2, r3, r4⟩ := hu.2.2 (M1.1 191 43 - 1) (by omega) (by omega)
  have n43 : N.1 191 43 = M1.1 191 43 - 1 := by rw [(n2 191 43 (by unfold CW; omega)).1]; exact e43
  have hy := h1.2.2.1.2
  refine h1.now (W := fun k j => CW 0 k j ∨ (k = 191 ∧ j = 43)) ((hF5.mono (fun k j q => Or.inr q)).trans (n2.mono (fun k j q => Or.inl q))) (fun k j a q => q) (r1.of h.1.1 hr) (by rw [hr.1.1, r2]; exact ⟨hy.1, hy.2.1⟩) (by rw [hr.1.2.2.1, r4]; exact hy.2.2) (by rw [n43]; omega) (fun _ => ⟨by rw [hr.1.1]; exact r2, by rw [hr.1.2.1]; exact r3, by rw [hr.1.2.2.1]; exact r4⟩)
