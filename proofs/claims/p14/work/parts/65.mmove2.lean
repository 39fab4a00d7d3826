/-! ===== net, lay, pour, drain, flood, beats ===== -/
/-- writes to row 0 that leave year, beats, draws and what can be brought back -/
theorem RI.now0 {W : Nat → Int → Prop} {M N : Mem} {V : TV} (h : RI M V) (hF : Fr W M N) (hd : ∀ k j, RIc k j → W k j → (k = 210 ∨ k = 211) ∧ j = 0 ∨ (k = 212 ∧ 0 ≤ j ∧ j < 4) ∨ ((k = 213 ∨ k = 214 ∨ k = 215) ∧ 0 ≤ j ∧ j < 8)) (hr : RowOK N 0 V) : RI N V := by
  have nn : ∀ k j, (k = 207 ∨ k = 208 ∨ k = 209) ∧ j = 0 ∨ (k = 191 ∧ j = 43) → ¬ W k j := fun k j x q => by
    have := hd k j (by unfold RIc; omega) q
    omega
  have hy := h.2.2.1.2
  refine h.now hF (fun k j a b => Or.inl ?_) hr ?_ ?_ ?_ (fun _ => ?_)
  · have := hd k j a b
    unfold CW; omega
  · rw [(hF 207 _ (nn _ _ (by omega))).1]; exact ⟨hy.1, hy.2.1⟩
  · rw [(hF 209 _ (nn _ _ (by omega))).1]; exact ⟨hy.2.2.1, hy.2.2.2⟩
  · rw [(hF 191 _ (nn _ _ (by omega))).1]; exact ⟨h.2.2.2.2.1.1, Int.le_refl _⟩
  · rw [(hF 207 _ (nn _ _ (by omega))).1, (hF 208 _ (nn _ _ (by omega))).1, (hF 209 _ (nn _ _ (by omega))).1]; exact ⟨rfl, rfl, rfl⟩
theorem ri_net {M : Mem} {V : TV} (h : RI M V) (x1 x2 : Int) : Ok (fun r => RI r.1 V) (t_MO_net M x1 x2) := by
  unfold t_MO_net
  refine ok_let (fun M1 e1 => ?_)
  have h1 : RI M1 V := by rw [e1]; exact h.set0 0
  have hC := h.1.1.cells
  rcases m_isOpen h1.1.2.1 h1.1.1 x1 with ⟨o, e⟩ | ⟨o, e⟩
  · rw [e, obind_some, if_neg (by decide)]
    have main : ∀ v3 : Int, Ok (fun r => RI r.1 V) (t_MO_net_L33 x1 x2 M1 v3) := by
      intro v3
      unfold t_MO_net_L33
      refine ok_ite (fun _ => ok_some h1) (fun _ => ?_)
      refine ok_bind (ri_keepNow h1) (fun N hN => ?_)
      refine ok_let (fun M9 e9 => ok_some ?_)
      have hr := hN.1.row0
      rw [e9]
      refine hN.1.now0 (W := fun k j => k = 210 ∧ j = 0) (Fr.rf.setL ⟨rfl, rfl⟩) (fun k j _ q => by omega) ⟨hr.1, hr.2.1, fun c a b => ⟨?_, ?_⟩⟩
      · rw [sL_self, tb_xor _ o.1 (by omega) (by omega) b, (hr.2.2 c a b).1]
        simp; omega
      · rw [sL_ne (by omega)]; exact (hr.2.2 c a b).2
    exact ok_ite (fun _ => main 1) (fun _ => main 0)
  · rw [e, obind_some, if_pos rfl]; exact ok_some h1
theorem RI.th {M : Mem} {V : TV} (h : RI M V) (a : Int) : MTh M a V (M.1 191 44) (M.1 191 45) (AT M a) (ST M a) (LN M a) := fun t _ _ => Or.inr ⟨fun q => by have := h.2.1; omega, rfl, rfl, rfl⟩
theorem ri_lay {M : Mem} {V : TV} (h : RI M V) (x1 x2 : Int) : Ok (fun r => RI r.1 V) (t_MO_lay M x1 x2) := by
  unfold t_MO_lay
  refine ok_let (fun M1 e1 => ?_)
  have h1 : RI M1 V := by rw [e1]; exact h.set0 0
  have hv := h.1.1.1
  simp only [qlet]
  rw [m_isThing h1.1.2.1]
  by_cases c1 : 0 ≤ x1 ∧ x1 < V 0 3
  · rw [if_pos c1, if_neg (by decide)]
    rcases m_isOpen h1.1.2.1 h1.1.1 x2 with ⟨o, e⟩ | ⟨o, e⟩
    · rw [e, obind_some, if_neg (by decide), m_thingIn (by omega) h1.1.1 h1.1.2.1 o.1 (h1.th 0), obind_some]
      refine ok_ite (fun _ => ?_) (fun _ => ok_some h1)
      refine ok_bind (ri_keepNow h1) (fun N hN => ?_)
      rw [qguard_pos ⟨c1.1, by omega⟩]
      refine ok_some ?_
      have hr := hN.1.row0
      refine hN.1.now0 (W := fun k j => k = 213 ∧ j = x1) (Fr.rf.setI ⟨rfl, rfl⟩) (fun k j _ q => by omega) ⟨fun w a b => ?_, fun t a b => ?_, hr.2.2⟩
      · rw [sI_ne (by omega)]; exact hr.1 w a b
      · by_cases e : 8 * 0 + t = x1
        · rw [e, sI_self]; exact ⟨o.1, o.2.1⟩
        · rw [sI_ne (by omega)]; exact hr.2.1 t a b
    · rw [e, obind_some, if_pos rfl]; exact ok_some h1
  · rw [if_neg c1, if_pos rfl]; exact ok_some h1
theorem RI.cp1 {M : Mem} {V : TV} (h : RI M V) : Ok (fun N => RI N V ∧ RowOK N 1 V ∧ RowEq N 1 M 0 ∧ Fr (CW 1) M N) (t_MO_copies M 1 0) := by
  obtain ⟨N, e1, e2, e3⟩ := m_copies (M := M) (x1 := 1) (x2 := 0) (by omega) (by omega) (by omega)
  exact ⟨N, e1, h.fr e2 (fun k j a q => by unfold RIc at a; unfold CW at q; omega), h.row0.of h.1.1 e3, e3, e2⟩
theorem RowOK.water {M N : Mem} {a : Int} {V : TV} (hF : Fr (fun k j => k = 211 ∧ j = a) M N) (h : RowOK M a V) (hb : ∀ c, cellsV V ≤ c → c < 64 → tb (N.2 211 a) c = false) : RowOK N a V :=
  ⟨fun w x y => by rw [(hF 212 _ (by omega)).1]; exact h.1 w x y, fun t x y => by rw [(hF 213 _ (by omega)).1]; exact h.2.1 t x y, fun c x y => ⟨by rw [(hF 210 _ (by omega)).2]; exact (h.2.2 c x y).1, hb c x y⟩⟩
theorem ri_pour_loop {x1 x2 : Int} {V : TV} (hx : 0 ≤ x1 ∧ x1 < cellsV V) (h2 : x2 ≤ 99) : ∀ (n fu : Nat) (M : Mem) (v3 v4 : Int), v4 + (n : Int) = x2 → 0 ≤ v4 → n < fu → RI M V → RowOK M 1 V → Ok (fun r => RI r.1 V) (t_MO_pour_L37 x1 x2 fu M v3 v4) := by
  intro n
  induction n with
  | zero =>
    intro fu M v3 v4 g0 g1 g2 h hr
    obtain ⟨g, rfl⟩ : ∃ g, fu = g + 1 := ⟨fu - 1, by omega⟩
    rw [t_MO_pour_L37, if_pos (by omega)]
    refine ok_ite (fun _ => ok_some h) (fun _ => ?_)
    refine ok_bind (ri_keepNow h) (fun N hN => ?_)
    refine ok_let (fun M9 e9 => ok_some ?_)
    have hr0 := hN.1.row0
    rw [e9]
    refine hN.1.now0 (W := fun k j => k = 211 ∧ j = 0) (Fr.rf.setL ⟨rfl, rfl⟩) (fun k j _ q => by omega) (RowOK.water (Fr.rf.setL ⟨rfl, rfl⟩) hr0 (fun c a b => ?_))
    rw [sL_self, (hN.2 211 1 (by unfold KW; omega)).2]
    exact (hr.2.2 c a b).2
  | succ n ih =>
    intro fu M v3 v4 g0 g1 g2 h hr
    obtain ⟨g, rfl⟩ : ∃ g, fu = g + 1 := ⟨fu - 1, by omega⟩
    have hC := h.1.1.cells
    rw [t_MO_pour_L37, if_neg (by omega)]
    obtain ⟨N, e1, e2, e3⟩ := (h.nb hr).pours (x2 := x1) (by omega) hx.1 hx.2
    rw [e1, obind_some]
    have hN : RI N V := h.fr e3 (fun k j a q => by unfold RIc at a; omega)
    have hrN : RowOK N 1 V := RowOK.water e3 hr (fun c a b => by rw [e2]; exact prS_bits (nx_ok h.1.1 _ _ _) hC.2 ⟨a, b⟩ (by omega) 49 _ _ hx.1 hx.2 (hr.2.2 c a b).2)
    unfold t_MO_pour_L58
    rw [w32_id (x := v4 + 1) (by unfold InR; omega)]
    exact ok_ite (fun _ => ih g N _ (v4 + 1) (by omega) (by omega) (by omega) hN hrN) (fun _ => ih g N _ (v4 + 1) (by omega) (by omega) (by omega) hN hrN)
theorem ri_pour {M : Mem} {V : TV} (h : RI M V) (x1 x2 : Int) : Ok (fun r => RI r.1 V) (t_MO_pour M x1 x2) := by
  unfold t_MO_pour
  refine ok_let (fun M1 e1 => ?_)
  have h1 : RI M1 V := by rw [e1]; exact h.set0 0
  rcases m_isOpen h1.1.2.1 h1.1.1 x1 with ⟨o, e⟩ | ⟨o, e⟩
  · rw [e, obind_some, if_neg (by decide)]
    refine ok_ite (fun _ => ok_some h1) (fun c1 => ok_ite (fun c2 => ?_) (fun _ => ok_some h1))
    refine ok_bind h1.cp1 (fun N hN => ?_)
    exact ri_pour_loop ⟨o.1, o.2.1⟩ c2 x2.toNat FU N 0 0 (by omega) (by omega) (fu_big (by omega)) hN.1 hN.2.1
  · rw [e, obind_some, if_pos rfl]; exact ok_some h1
theorem bitsOf_ok {x1 : Int64} : ∀ (n fu : Nat) (M : Mem) (v1 v2 : Int), v2 + (n : Int) = 48 → 0 ≤ v2 → n < fu → Ok (fun _ => True) (t_MO_bitsOf_L4 x1 fu M v1 v2) := by
  intro n
  induction n with
  | zero =>
    intro fu M v1 v2 g0 g1 g2
    obtain ⟨g, rfl⟩ : ∃ g, fu = g + 1 := ⟨fu - 1, by omega⟩
    rw [t_MO_bitsOf_L4, if_pos (by omega)]
    exact ok_some trivial
  | succ n ih =>
    intro fu M v1 v2 g0 g1 g2
    obtain ⟨g, rfl⟩ : ∃ g, fu = g + 1 := ⟨fu - 1, by omega⟩
    rw [t_MO_bitsOf_L4, if_neg (by omega), w32_id (x := v2 + 1) (by unfold InR; omega)]
    exact ih g M _ (v2 + 1) (by omega) (by omega) (by omega)
theorem ri_drain {M : Mem} {V : TV} (h : RI M V) : Ok (fun r => RI r.1 V) (t_MO_drain M) := by
  unfold t_MO_drain
  refine ok_let (fun M1 e1 => ?_)
  have h1 : RI M1 V := by rw [e1]; exact h.set0 0
  refine ok_ite (fun _ => ok_some h1) (fun _ => ?_)
  refine ok_bind (ri_keepNow h1) (fun N hN => ?_)
  refine ok_bind (Q := fun _ => True) (by unfold t_MO_bitsOf; exact bitsOf_ok 48 FU _ _ _ (by omega) (by omega) (fu_big (by omega))) (fun _ _ => ?_)
  refine ok_let (fun M9 e9 => ok_some ?_)
  rw [e9]
  exact hN.1.now0 (W := fun k j => k = 211 ∧ j = 0) (Fr.rf.setL ⟨rfl, rfl⟩) (fun k j _ q => by omega) (RowOK.water (Fr.rf.setL ⟨rfl, rfl⟩) hN.1.row0 (fun c a b => by rw [sL_self]; exact tb_zero c))
theorem ri_flood {M : Mem} {V : TV} (h : RI M V) (x1 x2 : Int) : Ok (fun r => RI r.1 V) (t_MO_flood M x1 x2) := by
  unfold t_MO_flood
  refine ok_let (fun M1 e1 => ?_)
  have h1 : RI M1 V := by rw [e1]; exact h.set0 0
  have hv := h.1.1.1
  simp only [qlet]
  rw [m_isWard h1.1.2.1]
  by_cases c1 : 0 ≤ x1 ∧ x1 < V 0 2
  · rw [if_pos c1, if_neg (by decide)]
    by_cases c2 : 0 ≤ x2 ∧ x2 ≤ 4
    · have ed : t_MO_isDown M1 x2 = 1 := by unfold t_MO_isDown; rw [if_neg (by omega), if_neg (by omega)]
      rw [ed, if_neg (by decide)]
      refine ok_bind h1.cp1 (fun N hN => ?_)
      rw [w32_id (x := 4 + x1) (by unfold InR; omega), qguard_pos ⟨by omega, by omega⟩]
      have h2 : RI (setI N 212 (4 + x1) x2) V := hN.1.fr (W := fun k j => k = 212 ∧ j = 4 + x1) (Fr.rf.setI ⟨rfl, rfl⟩) (fun k j a q => by unfold RIc at a; omega)
      have hr := hN.2.1
      have nb : NB (setI N 212 (4 + x1) x2) 1 V := ⟨h2.1.1, h2.1.2.1, h2.2.1, fun w a b => by
        by_cases e : 4 * 1 + w = 4 + x1
        · rw [e, sI_self]; exact c2
        · rw [sI_ne (by omega)]; exact hr.1 w a b⟩
      obtain ⟨O, e1, e2, e3⟩ := nb.floods (by omega)
      rw [e1, obind_some]
      exact ok_some (h2.fr e3 (fun k j a q => by unfold RIc at a; omega))
    · have ed : t_MO_isDown M1 x2 = 0 := by
        unfold t_MO_isDown
        by_cases q : x2 < 0
        · rw [if_pos q]
        · rw [if_neg q, if_pos (by omega)]
      rw [ed, if_pos rfl]; exact ok_some h1
  · rw [if_neg c1, if_pos rfl]; exact ok_some h1
