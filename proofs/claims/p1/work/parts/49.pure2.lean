/-! ===== p1: each call on the fresh object answers alike on both sides ===== -/
theorem sI_self (M : Mem) (k : Nat) (j v : Int) : (setI M k j v).1 k j = v := uI_self M.1 k j v
theorem sI_ne {M : Mem} {k k' : Nat} {j j' v : Int} (h : ¬ (k' = k ∧ j' = j)) : (setI M k j v).1 k' j' = M.1 k' j' := uI_ne M.1 v h
def okA (x : Option (Mem × Int)) (g : Mem → Option (Mem × Int)) : Bool := match x with
  | none => false
  | some q => match g q.1 with
    | none => false
    | some r => decide (q.2 = r.2)
def okL (x : Option (Mem × Int64)) (g : Mem → Option (Mem × Int64)) : Bool := match x with
  | none => false
  | some q => match g q.1 with
    | none => false
    | some r => decide (q.2 = r.2)
theorem obind_some {α β : Type} (v : α) (f : α → Option β) : obind (some v) f = f v := rfl
theorem okA_some {x : Option (Mem × Int)} {g : Mem → Option (Mem × Int)} (h : okA x g = true) : ∃ q r, x = some q ∧ g q.1 = some r ∧ q.2 = r.2 := by
  unfold okA at h
  cases x with
  | none => cases h
  | some q =>
    cases e : g q.1 with
    | none => simp only [e] at h; cases h
    | some r => simp only [e] at h; exact ⟨q, r, rfl, e, of_decide_eq_true h⟩
theorem okL_some {x : Option (Mem × Int64)} {g : Mem → Option (Mem × Int64)} (h : okL x g = true) : ∃ q r, x = some q ∧ g q.1 = some r ∧ q.2 = r.2 := by
  unfold okL at h
  cases x with
  | none => cases h
  | some q =>
    cases e : g q.1 with
    | none => simp only [e] at h; cases h
    | some r => simp only [e] at h; exact ⟨q, r, rfl, e, of_decide_eq_true h⟩
theorem okA_of {x : Option (Mem × Int)} {g : Mem → Option (Mem × Int)} {q r : Mem × Int} (h1 : x = some q) (h2 : g q.1 = some r) (h3 : q.2 = r.2) : okA x g = true := by
  subst h1
  unfold okA
  simp only [h2]
  exact decide_eq_true h3
theorem okL_of {x : Option (Mem × Int64)} {g : Mem → Option (Mem × Int64)} {q r : Mem × Int64} (h1 : x = some q) (h2 : g q.1 = some r) (h3 : q.2 = r.2) : okL x g = true := by
  subst h1
  unfold okL
  simp only [h2]
  exact decide_eq_true h3
theorem br_o {x : Option (Mem × Int)} {g : Mem → Option (Mem × Int)} {k : Mem → Option Int} (h : okA x g = true) (hk : ∀ M, k M = some 1) : (obind x fun q => obind (g q.1) fun r => if q.2 = r.2 then k r.1 else some 0) = some 1 := by
  obtain ⟨q, r, rfl, h2, h3⟩ := okA_some h
  show obind (g q.1) _ = _
  rw [h2]
  exact (if_pos h3).trans (hk _)
theorem br_l {x : Option (Mem × Int64)} {g : Mem → Option (Mem × Int64)} {k : Mem → Option Int} (h : okL x g = true) (hk : ∀ M, k M = some 1) : (obind x fun q => obind (g q.1) fun r => if q.2 = r.2 then k r.1 else some 0) = some 1 := by
  obtain ⟨q, r, rfl, h2, h3⟩ := okL_some h
  show obind (g q.1) _ = _
  rw [h2]
  exact (if_pos h3).trans (hk _)
theorem rngI (P : Int → Prop) (n : Nat) (h : ∀ k : Nat, k < n → P (k : Int)) {a : Int} (h0 : 0 ≤ a) (h1 : a < (n : Int)) : P a := by
  have h2 := h a.toNat (by omega)
  rwa [Int.toNat_of_nonneg h0] at h2
/-- the fresh memory behind 'thrown = 0' -/
def m3 : Mem := setI m2 191 0 0
theorem m3_e : setI m2 191 0 0 = m3 := rfl
theorem m2_town : (m2.1 0 4).toNat = 2 := by rw [m2_a.1]; rfl
theorem m2_b : m2.1 0 1 = 0 ∧ m2.1 0 2 = 0 ∧ m2.1 0 3 = -1 ∧ m2.1 0 13 = 0 ∧ m2.1 2 13 = 16 ∧ m2.1 2 14 = 0 ∧ m2.1 2 15 = 0 ∧ m2.1 62 3 = 0 ∧ m2.1 172 5 = 0 ∧ m2.1 70 2 = 0 ∧ m2.1 177 8 = 0 := by decide +kernel
theorem m3_b : m3.1 191 2 = 0 ∧ m3.1 193 0 = 4 ∧ m3.1 193 1 = 4 ∧ m3.1 193 2 = 0 ∧ m3.1 193 6 = 0 ∧ m3.1 193 8 = 0 ∧ m3.1 207 0 = 0 ∧ m3.1 191 26 = 0 ∧ m3.1 191 27 = -1 ∧ m3.1 191 60 = 0 ∧ m3.1 191 43 = 0 ∧ m3.1 191 42 = 0 ∧ m3.1 191 44 = -1 ∧ m3.1 191 45 = -1 := by decide +kernel
theorem c_cells : m2.1 2 13 = 16 := m2_b.2.2.2.2.1
theorem c_wards : m2.1 2 14 = 0 := m2_b.2.2.2.2.2.1
theorem c_things : m2.1 2 15 = 0 := m2_b.2.2.2.2.2.2.1
theorem c_year : m2.1 62 3 = 0 := m2_b.2.2.2.2.2.2.2.1
theorem c_notes : m2.1 172 5 = 0 := m2_b.2.2.2.2.2.2.2.2.1
theorem d_taped : m3.1 191 2 = 0 := m3_b.1
theorem d_wide : m3.1 193 0 = 4 := m3_b.2.1
theorem d_high : m3.1 193 1 = 4 := m3_b.2.2.1
theorem d_wards : m3.1 193 2 = 0 := m3_b.2.2.2.1
theorem d_things : m3.1 193 6 = 0 := m3_b.2.2.2.2.1
theorem d_year : m3.1 207 0 = 0 := m3_b.2.2.2.2.2.2.1
theorem d_notes : m3.1 191 60 = 0 := m3_b.2.2.2.2.2.2.2.2.2.1
theorem h_ward (a : Int) : t_Town_hasWard m2 2 a = 0 := by
  unfold t_Town_hasWard
  rw [c_wards]
  by_cases h : a < 0
  · rw [if_pos h]
  · rw [if_neg h, if_pos (by omega)]
theorem h_thing (a : Int) : t_Town_hasThing m2 2 a = 0 := by
  unfold t_Town_hasThing
  rw [c_things]
  by_cases h : a < 0
  · rw [if_pos h]
  · rw [if_neg h, if_pos (by omega)]
theorem h_cell {a : Int} (h : ¬ (0 ≤ a ∧ a < 16)) : t_Town_hasCell m2 2 a = 0 := by
  unfold t_Town_hasCell
  rw [c_cells]
  by_cases h1 : a < 0
  · rw [if_pos h1]
  · rw [if_neg h1, if_pos (by omega)]
theorem h_free {a : Int} (h : ¬ (0 ≤ a ∧ a < 16)) : t_WF_isFree m2 a = 0 := by
  unfold t_WF_isFree
  rw [m2_town, h_cell h]
  rfl
theorem g_ward (a : Int) : t_MO_isWard m3 a = 0 := by
  unfold t_MO_isWard
  rw [d_wards]
  by_cases h : a < 0
  · rw [if_pos h]
  · rw [if_neg h, if_pos (by omega)]
theorem g_thing (a : Int) : t_MO_isThing m3 a = 0 := by
  unfold t_MO_isThing
  rw [d_things]
  by_cases h : a < 0
  · rw [if_pos h]
  · rw [if_neg h, if_pos (by omega)]
theorem g_cells : t_MO_cells m3 = 16 := by decide +kernel
theorem g_cell {a : Int} (h : ¬ (0 ≤ a ∧ a < 16)) : t_MO_isCell m3 a = 0 := by
  unfold t_MO_isCell
  rw [g_cells]
  by_cases h1 : a < 0
  · rw [if_pos h1]
  · rw [if_neg h1]
    exact if_pos (by omega)
theorem g_open {a : Int} (h : ¬ (0 ≤ a ∧ a < 16)) : t_MO_isOpen m3 a = some 0 := by
  unfold t_MO_isOpen
  rw [g_cell h]
  rfl
/-! no wards, no things, nothing to undo, no notes -/
theorem op_ward (a b : Int) : okA (t_WF_ward m2 a b) (fun M => t_MO_ward M a b) = true := by
  refine okA_of (q := (m2, -1)) (r := (m3, -1)) ?_ ?_ rfl
  · unfold t_WF_ward; rw [m2_town, h_ward]; rfl
  · show t_MO_ward m2 a b = _
    unfold t_MO_ward; rw [m3_e]; simp only [qlet]; rw [g_ward]; rfl
theorem op_thing (a b : Int) : okA (some (m2, t_WF_thing m2 a b)) (fun M => t_MO_thing M a b) = true := by
  refine okA_of (q := (m2, -1)) (r := (m3, -1)) ?_ ?_ rfl
  · unfold t_WF_thing; rw [m2_town, h_thing]; rfl
  · show t_MO_thing m2 a b = _
    unfold t_MO_thing; rw [m3_e]; simp only [qlet]; rw [g_thing]; rfl
theorem op_vote (a b : Int) : okA (t_WF_vote m2 a b) (fun M => t_MO_vote M a b) = true := by
  refine okA_of (q := (m2, 0)) (r := (m3, 0)) ?_ ?_ rfl
  · unfold t_WF_vote; rw [m2_town, h_ward]; rfl
  · show t_MO_vote m2 a b = _
    unfold t_MO_vote; rw [m3_e]; simp only [qlet]; rw [g_ward]; rfl
theorem op_lay (a b : Int) : okA (t_WF_lay m2 a b) (fun M => t_MO_lay M a b) = true := by
  refine okA_of (q := (m2, 0)) (r := (m3, 0)) ?_ ?_ rfl
  · unfold t_WF_lay; rw [m2_town, h_thing]; rfl
  · show t_MO_lay m2 a b = _
    unfold t_MO_lay; rw [m3_e]; simp only [qlet]; rw [g_thing]; rfl
theorem op_flood (a b : Int) : okL (t_WF_flood m2 a b) (fun M => t_MO_flood M a b) = true := by
  refine okL_of (q := (m2, -1)) (r := (m3, -1)) ?_ ?_ rfl
  · unfold t_WF_flood; rw [m2_town, h_ward]; rfl
  · show t_MO_flood m2 a b = _
    unfold t_MO_flood; rw [m3_e]; simp only [qlet]; rw [g_ward]; rfl
theorem op_war (a b : Int) : okA (t_WF_war m2 a b) (fun M => t_MO_war M a b) = true := by
  refine okA_of (q := (m2, -1)) (r := (m3, -1)) ?_ ?_ rfl
  · unfold t_WF_war; rw [m2_town, h_ward]; rfl
  · show t_MO_war m2 a b = _
    unfold t_MO_war; rw [m3_e]; simp only [qlet]; rw [g_ward]; rfl
theorem op_may (a : Int) : okA (t_WF_may m2 a) (fun M => t_MO_may M a) = true := by
  refine okA_of (q := (m2, -1)) (r := (m3, -1)) ?_ ?_ rfl
  · unfold t_WF_may; rw [m2_town, h_ward]; rfl
  · show t_MO_may m2 a = _
    unfold t_MO_may; rw [m3_e]; simp only [qlet]; rw [g_ward]; rfl
theorem op_strike (a : Int) : okA (some (t_WF_strike m2 a)) (fun M => t_MO_strike M a) = true := by
  refine okA_of (q := (m2, -1)) (r := (m3, -1)) ?_ ?_ rfl
  · unfold t_WF_strike
    rw [c_notes]
    by_cases h : a < 0
    · rw [if_pos h]
    · rw [if_neg h, if_neg h]
  · show t_MO_strike m2 a = _
    unfold t_MO_strike; rw [m3_e]; simp only [qlet]
    by_cases h : a < 0
    · rw [if_pos h]
    · rw [if_neg h, if_pos (show m3.1 191 60 ≤ a by rw [d_notes]; omega)]
theorem op_voted (a b : Int) : okA (some (m2, t_WF_voted m2 a b)) (fun M => t_MO_voted M a b) = true := by
  refine okA_of (q := (m2, -1)) (r := (m3, -1)) ?_ ?_ rfl
  · unfold t_WF_voted
    rw [c_year]
    by_cases h : a < 0
    · rw [if_pos h]
    · rw [if_neg h, if_neg h]
  · show t_MO_voted m2 a b = _
    unfold t_MO_voted; rw [m3_e]; simp only [qlet]
    rw [d_year]
    by_cases h : a < 0
    · rw [if_pos h]
    · rw [if_neg h, if_neg h]
theorem op_known (a : Int) : okA (some (t_WF_known m2 a)) (fun M => some (t_MO_known M a)) = true := by
  unfold t_WF_known
  rw [c_notes]
  by_cases h : a < -1
  · rw [if_pos h]
    refine okA_of (q := (m2, 0)) (r := (m3, 0)) rfl ?_ rfl
    show some (t_MO_known m2 a) = _
    unfold t_MO_known; rw [m3_e]; simp only [qlet]
    rw [if_pos h]
  · rw [if_neg h]
    by_cases h2 : a ≤ 0
    · rw [if_pos h2]
      have h3 : a = -1 ∨ a = 0 := by omega
      rcases h3 with rfl | rfl <;> decide +kernel
    · rw [if_neg h2]
      refine okA_of (q := (m2, 0)) (r := (m3, 0)) rfl ?_ rfl
      show some (t_MO_known m2 a) = _
      unfold t_MO_known; rw [m3_e]; simp only [qlet]
      rw [d_notes, if_neg h, if_neg h2]
theorem op_fault (a : Int) : okA (some (m2, t_WF_fault m2 a)) (fun M => some (t_MO_fault M a)) = true := by
  by_cases h0 : a = 0
  · subst h0; decide +kernel
  · by_cases h1 : a = 1
    · subst h1; decide +kernel
    · refine okA_of (q := (m2, -1)) (r := (m3, -1)) ?_ ?_ rfl
      · unfold t_WF_fault; rw [if_neg h0, if_neg h1]
      · show some (t_MO_fault m2 a) = _
        unfold t_MO_fault; rw [m3_e]; simp only [qlet]
        rw [if_neg h0, if_neg h1]
theorem op_text (a : Int) : okA (t_WF_text m2 a) (fun M => t_MO_text M a) = true := by
  by_cases h0 : a = 0
  · subst h0; decide +kernel
  · refine okA_of (q := (m2, -2)) (r := (m3, -2)) ?_ ?_ rfl
    · unfold t_WF_text
      rw [m2_b.1]
      by_cases h : a < 0
      · rw [if_pos h]
      · rw [if_neg h, if_neg (by omega)]
    · show t_MO_text m2 a = _
      unfold t_MO_text; rw [m3_e]; simp only [qlet]
      rw [d_taped]
      by_cases h : a < 0
      · rw [if_pos h]
      · rw [if_neg h, if_neg (by omega)]
theorem op_drain : okA (some (t_WF_drain m2)) (fun M => t_MO_drain M) = true := by decide +kernel
theorem op_nets : okL ((t_WF_nets m2).map (fun v => (m2, v))) (fun M => t_MO_nets M) = true := by decide +kernel
theorem op_stays : okA (t_WF_stays m2) (fun M => t_MO_stays M) = true := by decide +kernel
theorem op_fits : okA (t_WF_fits m2) (fun M => t_MO_fits M) = true := by decide +kernel
theorem op_undo : okA (some (t_WF_undo m2)) (fun M => t_MO_undo M) = true := by decide +kernel
theorem op_keep : okA (some (t_WF_keep m2)) (fun M => t_MO_keep M) = true := by decide +kernel
theorem op_back : okA (some (t_WF_back m2)) (fun M => t_MO_back M) = true := by decide +kernel
