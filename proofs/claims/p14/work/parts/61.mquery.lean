/-! ===== the reference's questions by ways ===== -/
abbrev opV (V : TV) (c : Int) : Prop := 0 ≤ c ∧ c < cellsV V ∧ V 8 c = 0
theorem m_isOpen {M : Mem} {V : TV} (h : MT0 M V) (hV : VOK V) (c : Int) : (opV V c ∧ t_MO_isOpen M c = some 1) ∨ (¬ opV V c ∧ t_MO_isOpen M c = some 0) := by
  have hC := hV.cells
  unfold t_MO_isOpen opV
  simp only [qlet]
  rw [m_isCell h hV]
  by_cases h0 : 0 ≤ c ∧ c < cellsV V
  · have hw := (hV.2.2.2 c h0.1 (by omega)).2.2.1
    rw [if_pos h0, if_neg (show ¬ (1 : Int) = 0 by decide), qguard_pos ⟨h0.1, by omega⟩, (h.2.2.2 c h0.1 (by omega)).2.1]
    rcases hw with hw | hw
    · exact Or.inl ⟨⟨h0.1, h0.2, hw⟩, by rw [if_pos hw]⟩
    · exact Or.inr ⟨fun q => by omega, by rw [if_neg (by omega)]⟩
  · rw [if_neg h0, if_pos rfl]
    exact Or.inr ⟨fun q => h0 ⟨q.1, q.2.1⟩, rfl⟩
theorem nx_ok {V : TV} (hV : VOK V) (D : Int → Int) (nets : Int64) (wl : Int → Bool) : stepOK (nxV V D nets wl) (cellsV V) := fun _ h0 h1 => nx_rng hV D nets wl h0 h1
theorem nxR_fr {W : Nat → Int → Prop} {M N : Mem} {a : Int} {V : TV} (hF : Fr W M N) (hd : ∀ k j, (k = 210 ∨ k = 212) → ¬ W k j) : nxR N a V = nxR M a V := by
  have e1 : DN N a = DN M a := funext (fun w => (hF 212 _ (hd _ _ (by omega))).1)
  unfold nxR
  rw [e1, (hF 210 a (hd _ _ (by omega))).2]
theorem RI.next {M : Mem} {V : TV} (h : RI M V) {a c : Int} (ha : 0 ≤ a ∧ a < 23) (hr : RowOK M a V) (h0 : 0 ≤ c) (h1 : c < cellsV V) : t_MO_nextOf M a c = some (nxR M a V c) := m_next h.1.2.1 h.1.1 (MSc.self M a V) hr.1 h.2.1 ha h0 h1
theorem RI.goes {M : Mem} {V : TV} (h : RI M V) {a c : Int} (ha : 0 ≤ a ∧ a < 23) (hr : RowOK M a V) (h0 : 0 ≤ c) (h1 : c < cellsV V) : ∃ N, t_MO_goesFrom M a c = some N ∧ Fr W_MO_goesFrom M N ∧ GoR N V (nxR M a V) c (wayS (nxR M a V) c) := m_goes h.1.1 h.1.2.1 (MSc.self M a V) hr.1 h.2.1 ha h0 h1
theorem RI.goesOk {M : Mem} {V : TV} (h : RI M V) {a c : Int} (ha : 0 ≤ a ∧ a < 23) (hr : RowOK M a V) (h0 : 0 ≤ c) (h1 : c < cellsV V) : Ok (fun N => Fr W_MO_goesFrom M N ∧ GoR N V (nxR M a V) c (wayS (nxR M a V) c)) (t_MO_goesFrom M a c) := by
  obtain ⟨N, e1, e2, e3⟩ := h.goes ha hr h0 h1
  exact ⟨N, e1, e2, e3⟩
theorem RI.set0 {M : Mem} {V : TV} (h : RI M V) (v : Int) : RI (setI M 191 0 v) V := h.fr (W := fun k j => k = 191 ∧ j = 0) (Fr.rf.setI ⟨rfl, rfl⟩) (fun k j hk q => by unfold RIc at hk; omega)
theorem RI.row0 {M : Mem} {V : TV} (h : RI M V) : RowOK M 0 V := h.2.2.1.1
theorem RI.goesFr {M N : Mem} {V : TV} (h : RI M V) (hF : Fr W_MO_goesFrom M N) : RI N V := h.fr hF (fun k j hk q => by unfold RIc at hk; unfold W_MO_goesFrom at q; omega)
theorem ok_pos {α : Type} {P : α → Prop} {x : Option α} {r : α} (h : x = some r) (hp : P r) : Ok P x := ⟨r, h, hp⟩
theorem ri_rest {M : Mem} {V : TV} (h : RI M V) (x1 : Int) : Ok (fun r => RI r.1 V) (t_MO_rest M x1) := by
  unfold t_MO_rest
  refine ok_let (fun M1 e1 => ?_)
  have h1 : RI M1 V := by rw [e1]; exact h.set0 0
  rcases m_isOpen h1.1.2.1 h1.1.1 x1 with ⟨o, e⟩ | ⟨o, e⟩
  · rw [e, obind_some, if_neg (by decide)]
    refine ok_bind (h1.goesOk (by omega) h1.row0 o.1 o.2.1) (fun N hN => ?_)
    exact ok_ite (fun _ => ok_some (h1.goesFr hN.1)) (fun _ => ok_some (h1.goesFr hN.1))
  · rw [e, obind_some, if_pos rfl]; exact ok_some h1
theorem ri_falls {M : Mem} {V : TV} (h : RI M V) (x1 x2 : Int) : Ok (fun r => RI r.1 V) (t_MO_falls M x1 x2) := by
  unfold t_MO_falls
  refine ok_let (fun M1 e1 => ?_)
  have h1 : RI M1 V := by rw [e1]; exact h.set0 0
  rcases m_isOpen h1.1.2.1 h1.1.1 x1 with ⟨o, e⟩ | ⟨o, e⟩
  · rw [e, obind_some, if_neg (by decide)]
    refine ok_ite (fun _ => ok_some h1) (fun _ => ok_ite (fun _ => ?_) (fun _ => ok_some h1))
    refine ok_bind (h1.goesOk (by omega) h1.row0 o.1 o.2.1) (fun N hN => ?_)
    have h2 := h1.goesFr hN.1
    exact ok_ite (fun _ => ok_some h2) (fun _ => ok_ite (fun _ => ok_some h2) (fun _ => ok_ite (fun _ => ok_some h2) (fun _ => ok_some h2)))
  · rw [e, obind_some, if_pos rfl]; exact ok_some h1
theorem ri_war_loop {x1 x2 : Int} {V : TV} (hw : 0 ≤ x1 ∧ x1 < V 0 2) : ∀ (n fu : Nat) (M : Mem) (v3 v4 : Int), v4 + (n : Int) = cellsV V → 0 ≤ v4 → n < fu → RI M V → Ok (fun r => RI r.1 V) (t_MO_war_L33 x1 x2 fu M v3 v4) := by
  intro n
  induction n with
  | zero =>
    intro fu M v3 v4 g0 g1 g2 h
    obtain ⟨g, rfl⟩ : ∃ g, fu = g + 1 := ⟨fu - 1, by omega⟩
    rw [t_MO_war_L33]
    simp only [qlet]
    rw [m_cells h.1.2.1 h.1.1, if_pos (by omega)]
    exact ok_some h
  | succ n ih =>
    intro fu M v3 v4 g0 g1 g2 h
    obtain ⟨g, rfl⟩ : ∃ g, fu = g + 1 := ⟨fu - 1, by omega⟩
    have hC := h.1.1.cells
    rw [t_MO_war_L33]
    simp only [qlet]
    rw [m_cells h.1.2.1 h.1.1, if_neg (by omega), qguard_pos ⟨by omega, by omega⟩]
    have nx : ∀ (N : Mem) (v : Int), RI N V → Ok (fun r => RI r.1 V) (t_MO_war_L100 x1 x2 (fun a0_ a1_ a2_ => t_MO_war_L33 x1 x2 g a0_ a1_ a2_) N v v4) := by
      intro N v hN
      unfold t_MO_war_L100
      rw [w32_id (x := v4 + 1) (by unfold InR; omega)]
      exact ih g N v (v4 + 1) (by omega) (by omega) (by omega) hN
    refine ok_ite (fun _ => ?_) (fun _ => nx M v3 h)
    rw [qguard_pos ⟨by omega, by omega⟩]
    refine ok_ite (fun _ => ?_) (fun _ => nx M v3 h)
    refine ok_bind (h.goesOk (by omega) h.row0 g1 (by omega)) (fun N hN => ?_)
    have h2 := h.goesFr hN.1
    unfold t_MO_war_L97 t_MO_war_L98
    exact ok_ite (fun _ => nx N _ h2) (fun _ => ok_ite (fun _ => nx N _ h2) (fun _ => nx N _ h2))
theorem ri_war {M : Mem} {V : TV} (h : RI M V) (x1 x2 : Int) : Ok (fun r => RI r.1 V) (t_MO_war M x1 x2) := by
  unfold t_MO_war
  refine ok_let (fun M1 e1 => ?_)
  have h1 : RI M1 V := by rw [e1]; exact h.set0 0
  simp only [qlet]
  rw [m_isWard h1.1.2.1]
  by_cases c1 : 0 ≤ x1 ∧ x1 < V 0 2
  · rw [if_pos c1, if_neg (by decide)]
    refine ok_ite (fun _ => ok_some h1) (fun _ => ok_ite (fun _ => ok_some h1) (fun _ => ?_))
    have hC := h1.1.1.cells
    exact ri_war_loop c1 (cellsV V).toNat FU M1 0 0 (by omega) (by omega) (fu_big (by omega)) h1
  · rw [if_neg c1, if_pos rfl]; exact ok_some h1
theorem ri_nets_loop {V : TV} : ∀ (n fu : Nat) (M : Mem) (v1 : Int64) (v2 : Int), v2 + (n : Int) = cellsV V → 0 ≤ v2 → n < fu → RI M V → Ok (fun r => RI r.1 V) (t_MO_nets_L9 fu M v1 v2) := by
  intro n
  induction n with
  | zero =>
    intro fu M v1 v2 g0 g1 g2 h
    obtain ⟨g, rfl⟩ : ∃ g, fu = g + 1 := ⟨fu - 1, by omega⟩
    rw [t_MO_nets_L9]
    simp only [qlet]
    rw [m_cells h.1.2.1 h.1.1, if_pos (by omega)]
    exact ok_some h
  | succ n ih =>
    intro fu M v1 v2 g0 g1 g2 h
    obtain ⟨g, rfl⟩ : ∃ g, fu = g + 1 := ⟨fu - 1, by omega⟩
    have hC := h.1.1.cells
    rw [t_MO_nets_L9]
    simp only [qlet]
    rw [m_cells h.1.2.1 h.1.1, if_neg (by omega), qguard_pos ⟨by omega, by omega⟩]
    have nx : ∀ (v : Int64), Ok (fun r => RI r.1 V) (t_MO_nets_L59 (fun a0_ a1_ a2_ => t_MO_nets_L9 g a0_ a1_ a2_) M v v2) := by
      intro v
      unfold t_MO_nets_L59
      rw [w32_id (x := v2 + 1) (by unfold InR; omega)]
      exact ih g M v (v2 + 1) (by omega) (by omega) (by omega) h
    refine ok_ite (fun _ => ?_) (fun _ => nx v1)
    rw [h.next (by omega) h.row0 g1 (by omega), obind_some]
    have hr := nx_ok h.1.1 (DN M 0) (M.2 210 0) (wlV V) v2 g1 (by omega)
    unfold nxR
    refine ok_ite (fun _ => nx v1) (fun c => ?_)
    rw [m_line h.1.2.1 (by omega) (by omega) (by omega) (by omega), obind_some]
    exact ok_ite (fun _ => nx v1) (fun _ => nx _)
theorem ri_nets {M : Mem} {V : TV} (h : RI M V) : Ok (fun r => RI r.1 V) (t_MO_nets M) := by
  unfold t_MO_nets
  have hC := h.1.1.cells
  exact ok_let (fun M1 e1 => ri_nets_loop (cellsV V).toNat FU M1 0 0 (by omega) (by omega) (fu_big (by omega)) (by rw [e1]; exact h.set0 0))
