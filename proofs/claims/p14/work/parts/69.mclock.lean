/-! ===== the reference's clock ===== -/
def LGW : Nat → Int → Prop := fun k j => (k = 191 ∧ (j = 46 ∨ j = 47 ∨ j = 48 ∨ j = 49 ∨ j = 50 ∨ j = 57)) ∨ k = 219
theorem LGW_RIc : ∀ k j, RIc k j → ¬ LGW k j := by intro k j a q; unfold RIc at a; unfold LGW at q; omega
theorem RowOK.fr {W : Nat → Int → Prop} {M N : Mem} {a : Int} {V : TV} (hV : VOK V) (hF : Fr W M N) (h : RowOK M a V) (hd : ∀ k j, CW a k j → ¬ W k j) : RowOK N a V := h.of hV (RowEq.fr hF hd)
theorem ri_longest_loop {V : TV} {a : Int} (ha : 0 ≤ a ∧ a < 23) {M0 : Mem} (h : RI M0 V) (hr : RowOK M0 a V) : ∀ (n fu : Nat) (M : Mem) (v2 v3 : Int), v3 + (n : Int) = cellsV V → 0 ≤ v3 → n < fu → Fr LGW M0 M → Ok (fun r => Fr LGW M0 r.1) (t_MO_longest_L9 a fu M v2 v3) := by
  have hC := h.1.1.cells
  intro n
  induction n with
  | zero =>
    intro fu M v2 v3 g0 g1 g2 hF
    obtain ⟨g, rfl⟩ : ∃ g, fu = g + 1 := ⟨fu - 1, by omega⟩
    have hM := h.fr hF LGW_RIc
    rw [t_MO_longest_L9]
    simp only [qlet]
    rw [m_cells hM.1.2.1 h.1.1, if_pos (by omega)]
    exact ok_some hF
  | succ n ih =>
    intro fu M v2 v3 g0 g1 g2 hF
    obtain ⟨g, rfl⟩ : ∃ g, fu = g + 1 := ⟨fu - 1, by omega⟩
    have hM := h.fr hF LGW_RIc
    have hrM : RowOK M a V := hr.fr h.1.1 hF (fun k j x q => by unfold CW at x; unfold LGW at q; omega)
    rw [t_MO_longest_L9]
    simp only [qlet]
    rw [m_cells hM.1.2.1 h.1.1, if_neg (by omega), qguard_pos ⟨by omega, by omega⟩]
    have nx : ∀ (N : Mem) (v : Int), Fr LGW M0 N → Ok (fun r => Fr LGW M0 r.1) (t_MO_longest_L63 a (fun a0_ a1_ a2_ => t_MO_longest_L9 a g a0_ a1_ a2_) N v v3) := by
      intro N v hN
      unfold t_MO_longest_L63
      rw [w32_id (x := v3 + 1) (by unfold InR; omega)]
      exact ih g N v (v3 + 1) (by omega) (by omega) (by omega) hN
    refine ok_ite (fun _ => ?_) (fun _ => nx M _ hF)
    refine ok_bind (hM.goesOk ha hrM g1 (by omega)) (fun N hN => ?_)
    have hFN : Fr LGW M0 N := hF.trans (hN.1.mono (fun k j q => by unfold W_MO_goesFrom at q; unfold LGW; omega))
    exact ok_ite (fun _ => nx N _ hFN) (fun _ => ok_ite (fun _ => nx _ _ (hFN.setI (by unfold LGW; omega))) (fun _ => nx N _ hFN))
theorem ri_longest {V : TV} {a : Int} (ha : 0 ≤ a ∧ a < 23) {M : Mem} (h : RI M V) (hr : RowOK M a V) : Ok (fun r => Fr LGW M r.1) (t_MO_longest M a) := by
  have hC := h.1.1.cells
  unfold t_MO_longest
  refine ok_let (fun M1 e1 => ?_)
  have hF : Fr LGW M M1 := by rw [e1]; exact Fr.rf.setI (by unfold LGW; omega)
  exact ri_longest_loop ha h hr (cellsV V).toNat FU M1 0 0 (by omega) (by omega) (fu_big (by omega)) hF
theorem ri_clock_L50 {x1 : Int} {V : TV} {bk : Mem → Int → Int → Int → Int → Int → Option (Mem × Int)} {v6 : Int} (hw : 0 ≤ v6 ∧ v6 < 4) (hbk : ∀ (M : Mem) (a b c d : Int), RI M V → Ok (fun r => RI r.1 V) (bk M a b c d (v6 + 1))) : ∀ (n fu : Nat) (M : Mem) (v2 v3 v4 v5 v7 : Int), v7 + (n : Int) = 5 → 0 ≤ v7 → n < fu → RI M V → Ok (fun r => RI r.1 V) (t_MO_clock_L50 x1 bk fu M v2 v3 v4 v5 v6 v7) := by
  intro n
  induction n with
  | zero =>
    intro fu M v2 v3 v4 v5 v7 g0 g1 g2 h
    obtain ⟨g, rfl⟩ : ∃ g, fu = g + 1 := ⟨fu - 1, by omega⟩
    rw [t_MO_clock_L50, if_pos (by omega), w32_id (x := v6 + 1) (by unfold InR; omega)]
    exact hbk M _ _ _ _ h
  | succ n ih =>
    intro fu M v2 v3 v4 v5 v7 g0 g1 g2 h
    obtain ⟨g, rfl⟩ : ∃ g, fu = g + 1 := ⟨fu - 1, by omega⟩
    rw [t_MO_clock_L50, if_neg (by omega), qguard_pos ⟨hw.1, by omega⟩]
    have nx : ∀ (N : Mem) (a b c d : Int), RI N V → Ok (fun r => RI r.1 V) (t_MO_clock_L120 x1 bk (fun a0_ a1_ a2_ a3_ a4_ a5_ a6_ => t_MO_clock_L50 x1 bk g a0_ a1_ a2_ a3_ a4_ a5_ a6_) N a b c d v6 v7) := by
      intro N a b c d hN
      unfold t_MO_clock_L120
      rw [w32_id (x := v7 + 1) (by unfold InR; omega)]
      exact ih g N a b c d (v7 + 1) (by omega) (by omega) (by omega) hN
    refine ok_ite (fun _ => nx M _ _ _ _ h) (fun _ => ?_)
    refine ok_bind h.cp1 (fun N hN => ?_)
    rw [w32_id (x := 4 + v6) (by unfold InR; omega), qguard_pos ⟨by omega, by omega⟩]
    refine ok_let (fun M19 e19 => ?_)
    have h19 : RI M19 V := by rw [e19]; exact hN.1.fr (W := fun k j => k = 212 ∧ j = 4 + v6) (Fr.rf.setI ⟨rfl, rfl⟩) (fun k j a q => by unfold RIc at a; omega)
    have hr := hN.2.1
    have r19 : RowOK M19 1 V := by
      rw [e19]
      refine ⟨fun w a b => ?_, fun t a b => ?_, hr.2.2⟩
      · by_cases e : 4 * 1 + w = 4 + v6
        · rw [e, sI_self]; omega
        · rw [sI_ne (by omega)]; exact hr.1 w a b
      · rw [sI_ne (by omega)]; exact hr.2.1 t a b
    refine ok_bind (ri_longest (by omega) h19 r19) (fun q hq => ?_)
    have hq2 := h19.fr hq LGW_RIc
    exact ok_ite (fun _ => nx _ _ _ _ _ hq2) (fun _ => nx _ _ _ _ _ hq2)
theorem ri_clock_L36 {x1 : Int} {V : TV} : ∀ (n fu : Nat) (M : Mem) (v2 v3 v4 v5 v6 : Int), v6 + (n : Int) = V 0 2 → 0 ≤ v6 → n < fu → RI M V → Ok (fun r => RI r.1 V) (t_MO_clock_L36 x1 fu M v2 v3 v4 v5 v6) := by
  intro n
  induction n with
  | zero =>
    intro fu M v2 v3 v4 v5 v6 g0 g1 g2 h
    obtain ⟨g, rfl⟩ : ∃ g, fu = g + 1 := ⟨fu - 1, by omega⟩
    rw [t_MO_clock_L36, h.1.2.1.1.2.2.1, if_pos (by omega)]
    exact ok_ite (fun _ => ok_some h) (fun _ => ok_ite (fun _ => ok_some h) (fun _ => ok_ite (fun _ => ok_some h) (fun _ => ok_some h)))
  | succ n ih =>
    intro fu M v2 v3 v4 v5 v6 g0 g1 g2 h
    obtain ⟨g, rfl⟩ : ∃ g, fu = g + 1 := ⟨fu - 1, by omega⟩
    have hv := h.1.1.1
    rw [t_MO_clock_L36, h.1.2.1.1.2.2.1, if_neg (by omega)]
    exact ri_clock_L50 ⟨g1, by omega⟩ (fun N a b c d hN => ih g N a b c d (v6 + 1) (by omega) (by omega) (by omega) hN) 5 FU M _ _ _ _ 0 (by omega) (by omega) (fu_big (by omega)) h
theorem ri_clock {M : Mem} {V : TV} (h : RI M V) (x1 : Int) : Ok (fun r => RI r.1 V) (t_MO_clock M x1) := by
  unfold t_MO_clock
  refine ok_let (fun M1 e1 => ?_)
  have h1 : RI M1 V := by rw [e1]; exact h.set0 0
  have hv := h.1.1.1
  refine ok_ite (fun _ => ok_some h1) (fun _ => ok_ite (fun _ => ?_) (fun _ => ok_some h1))
  refine ok_bind (ri_longest (by omega) h1 h1.row0) (fun q hq => ?_)
  have hq2 := h1.fr hq LGW_RIc
  exact ri_clock_L36 (V 0 2).toNat FU _ _ _ _ _ 0 (by omega) (by omega) (fu_big (by omega)) hq2
