/-! ===== p1: calls with a cell, closed calls ===== -/
theorem found0 (M : Mem) (r N : Nat) (x2 x4 : Int) : t_MO_found M r N x2 0 x4 = some (-1) := by
  unfold t_MO_found
  rw [fu_s1, t_MO_found_L3, if_pos (by decide)]
theorem index0 (M : Mem) (r N : Nat) (x : Int) : t_WF_indexOf M r N 0 x = some (-1) := by
  unfold t_WF_indexOf
  rw [fu_s1, t_WF_indexOf_L2, if_pos (by decide)]
theorem op_named (a b : Int) : okA ((t_WF_named m2 a b).map (fun v => (m2, v))) (fun M => t_MO_named M a b) = true := by
  refine okA_of (q := (m2, -1)) (r := (m3, -1)) ?_ ?_ rfl
  · unfold t_WF_named
    rw [m2_town, c_wards, c_things]
    rw [index0, index0]
    by_cases h0 : a = 0
    · rw [if_pos h0]; rfl
    · rw [if_neg h0]
      by_cases h1 : a = 1
      · rw [if_pos h1]; rfl
      · rw [if_neg h1]; rfl
  · show t_MO_named m2 a b = _
    unfold t_MO_named; rw [m3_e]; simp only [qlet]
    rw [d_wards, d_things, found0, found0]
    by_cases h0 : a = 0
    · rw [if_pos h0]; rfl
    · rw [if_neg h0]
      by_cases h1 : a = 1
      · rw [if_pos h1]; rfl
      · rw [if_neg h1]
theorem op_rest (a : Int) : okA (t_WF_rest m2 a) (fun M => t_MO_rest M a) = true := by
  by_cases h : 0 ≤ a ∧ a < 16
  · exact rngI (fun a => okA (t_WF_rest m2 a) (fun M => t_MO_rest M a) = true) 16 (by decide +kernel) h.1 h.2
  · refine okA_of (q := (m2, -1)) (r := (m3, -1)) ?_ ?_ rfl
    · unfold t_WF_rest; rw [h_free h]; rfl
    · show t_MO_rest m2 a = _
      unfold t_MO_rest; rw [m3_e]; simp only [qlet]; rw [g_open h]; rfl
/-- the WAY of each cell of the fresh town: the cell alone -/
def wayC (a : Int) : Bool := match t_Trail_follow m2 189 2 47 a with
  | none => false
  | some q => decide (q.1 189 1 = 1) && decide (q.1 189 2 = 0) && decide (q.1 189 3 = 0) && decide (q.1 189 4 = 0) && decide (t_WF_isFree m2 a = 1) && decide (t_WF_look q (189 + 1) 48 0 = a) &&
    (match t_MO_isOpen (setI q 191 0 0) a with | some v => decide (v = 1) | none => false) &&
    (match t_MO_goesFrom (setI q 191 0 0) 0 a with | none => false | some r => decide (r.1 191 46 = 0) && decide (r.1 191 48 = 0) && decide (r.1 191 49 = 0))
theorem wayC_all : ∀ k : Nat, k < 16 → wayC (k : Int) = true := by decide +kernel
theorem way_of {a : Int} (h : 0 ≤ a ∧ a < 16) : ∃ q r, t_Trail_follow m2 189 2 47 a = some q ∧ q.1 189 1 = 1 ∧ q.1 189 2 = 0 ∧ q.1 189 3 = 0 ∧ q.1 189 4 = 0 ∧ t_WF_isFree m2 a = 1 ∧ t_WF_look q (189 + 1) 48 0 = a ∧ t_MO_isOpen (setI q 191 0 0) a = some 1 ∧ t_MO_goesFrom (setI q 191 0 0) 0 a = some r ∧ r.1 191 46 = 0 ∧ r.1 191 48 = 0 ∧ r.1 191 49 = 0 := by
  have hw : wayC a = true := rngI (fun a => wayC a = true) 16 wayC_all h.1 h.2
  unfold wayC at hw
  cases e : t_Trail_follow m2 189 2 47 a with
  | none => simp only [e] at hw; cases hw
  | some q =>
    simp only [e] at hw
    cases e2 : t_MO_isOpen (setI q 191 0 0) a with
    | none => simp only [e2] at hw; simp at hw
    | some v =>
      cases e3 : t_MO_goesFrom (setI q 191 0 0) 0 a with
      | none => simp only [e2, e3] at hw; simp at hw
      | some r =>
        simp only [e2, e3, Bool.and_eq_true, decide_eq_true_eq] at hw
        obtain ⟨⟨⟨⟨⟨⟨⟨h1, h2⟩, h3⟩, h4⟩, h5⟩, h6⟩, h7⟩, ⟨h8, h9⟩, h10⟩ := hw
        subst h7
        exact ⟨q, r, rfl, h1, h2, h3, h4, h5, h6, e2, e3, h8, h9, h10⟩
theorem op_way (a b : Int) : okA (t_WF_way m2 a b) (fun M => t_MO_way M a b) = true := by
  by_cases h : 0 ≤ a ∧ a < 16
  · obtain ⟨q, r, e1, e2, e3, e4, e5, e6, e7, e8, e9, e10, e11, e12⟩ := way_of h
    by_cases hb : 0 ≤ b
    · by_cases hb1 : 1 ≤ b
      · refine okA_of (q := (q, -2)) (r := (r, -2)) ?_ ?_ rfl
        · unfold t_WF_way; rw [m2_town]; simp only [qlet]
          rw [e6, if_neg (by decide), if_pos hb, e1]
          show obind (t_Trail_cellAt q 189 b) _ = _
          unfold t_Trail_cellAt
          rw [e2, e4, if_pos hb1]; rfl
        · show t_MO_way q a b = _
          unfold t_MO_way; simp only [qlet]
          rw [e8]
          rw [obind_some]
          rw [if_neg (by decide), if_pos hb, e9]
          rw [obind_some]
          rw [e10, e11, if_neg (by omega)]; rfl
      · have hb0 : b = 0 := by omega
        subst hb0
        refine okA_of (q := (q, a)) (r := (r, a)) ?_ ?_ rfl
        · unfold t_WF_way; rw [m2_town]; simp only [qlet]
          rw [e6, if_neg (by decide), if_pos hb, e1]
          show obind (t_Trail_cellAt q 189 0) _ = _
          unfold t_Trail_cellAt
          rw [e2, if_neg (by decide)]
          simp only [qlet]
          rw [e7]; rfl
        · show t_MO_way q a 0 = _
          unfold t_MO_way; simp only [qlet]
          rw [e8]
          rw [obind_some]
          rw [if_neg (by decide), if_pos hb, e9]
          rw [obind_some]
          rw [e10, if_pos (by decide)]
          unfold t_MO_way_L62
          rw [fu_s1, t_MO_way_L68, if_pos (by decide)]
    · refine okA_of (q := (m2, -1)) (r := (m3, -1)) ?_ ?_ rfl
      · unfold t_WF_way; simp only [qlet]
        rw [e6, if_neg (by decide), if_neg hb]
      · show t_MO_way m2 a b = _
        unfold t_MO_way; rw [m3_e]; simp only [qlet]
        rw [rngI (fun a => t_MO_isOpen m3 a = some 1) 16 (by decide +kernel) h.1 h.2]
        rw [obind_some]
        rw [if_neg (by decide), if_neg hb]
  · refine okA_of (q := (m2, -1)) (r := (m3, -1)) ?_ ?_ rfl
    · unfold t_WF_way; rw [h_free h]; rfl
    · show t_MO_way m2 a b = _
      unfold t_MO_way; rw [m3_e]; simp only [qlet]; rw [g_open h]; rfl
theorem g_openI {a : Int} (h : 0 ≤ a ∧ a < 16) : t_MO_isOpen m3 a = some 1 := rngI (fun a => t_MO_isOpen m3 a = some 1) 16 (by decide +kernel) h.1 h.2
theorem op_falls (a b : Int) : okA (t_WF_falls m2 a b) (fun M => t_MO_falls M a b) = true := by
  by_cases h : 0 ≤ a ∧ a < 16
  · obtain ⟨q, r, e1, e2, e3, e4, e5, e6, e7, e8, e9, e10, e11, e12⟩ := way_of h
    have ew : t_WF_falls m2 a b = some (q, if b = 0 then 0 else if b = 1 then 0 else if b = 2 then 0 else -1) := by
      unfold t_WF_falls; rw [m2_town]; simp only [qlet]
      rw [e6, if_neg (by decide), e1]
      rw [obind_some]
      rw [e3, e4, e5]
      by_cases h0 : b = 0
      · rw [if_pos h0, if_pos h0]
      · rw [if_neg h0, if_neg h0]
        by_cases h1 : b = 1
        · rw [if_pos h1, if_pos h1]
        · rw [if_neg h1, if_neg h1]
          by_cases h2 : b = 2
          · rw [if_pos h2, if_pos h2]; rfl
          · rw [if_neg h2, if_neg h2]
    by_cases hb : 0 ≤ b ∧ b ≤ 2
    · refine okA_of (q := (q, 0)) (r := (r, 0)) ?_ ?_ rfl
      · rw [ew]
        have h3 : b = 0 ∨ b = 1 ∨ b = 2 := by omega
        rcases h3 with rfl | rfl | rfl <;> rfl
      · show t_MO_falls q a b = _
        unfold t_MO_falls; simp only [qlet]
        rw [e8]
        rw [obind_some]
        rw [if_neg (by decide), if_neg (by omega), if_pos hb.2, e9]
        rw [obind_some]
        rw [e10, e11, e12]
        have h3 : b = 0 ∨ b = 1 ∨ b = 2 := by omega
        rcases h3 with rfl | rfl | rfl <;> rfl
    · refine okA_of (q := (q, -1)) (r := (setI q 191 0 0, -1)) ?_ ?_ rfl
      · rw [ew, if_neg (by omega), if_neg (by omega), if_neg (by omega)]
      · show t_MO_falls q a b = _
        unfold t_MO_falls; simp only [qlet]
        rw [e8]
        rw [obind_some]
        rw [if_neg (by decide)]
        by_cases hb0 : b < 0
        · rw [if_pos hb0]
        · rw [if_neg hb0, if_neg (by omega)]
  · refine okA_of (q := (m2, -1)) (r := (m3, -1)) ?_ ?_ rfl
    · unfold t_WF_falls; rw [h_free h]; rfl
    · show t_MO_falls m2 a b = _
      unfold t_MO_falls; rw [m3_e]; simp only [qlet]; rw [g_open h]; rfl
theorem op_net (a b : Int) (hb : b = 0 ∨ b = 1) : okA (some (t_WF_net m2 a b)) (fun M => t_MO_net M a b) = true := by
  by_cases h : 0 ≤ a ∧ a < 16
  · rcases hb with rfl | rfl
    · exact rngI (fun a => okA (some (t_WF_net m2 a 0)) (fun M => t_MO_net M a 0) = true) 16 (by decide +kernel) h.1 h.2
    · exact rngI (fun a => okA (some (t_WF_net m2 a 1)) (fun M => t_MO_net M a 1) = true) 16 (by decide +kernel) h.1 h.2
  · refine okA_of (q := (m2, 0)) (r := (m3, 0)) ?_ ?_ rfl
    · unfold t_WF_net; rw [h_free h]; rfl
    · show t_MO_net m2 a b = _
      unfold t_MO_net; rw [m3_e]; simp only [qlet]; rw [g_open h]; rfl
theorem h_stand {a : Int} (h : 0 ≤ a ∧ a < 16) : t_Scene_standsIn m2 47 2 a = 0 := rngI (fun a => t_Scene_standsIn m2 47 2 a = 0) 16 (by decide +kernel) h.1 h.2
theorem g_stand {a : Int} (h : 0 ≤ a ∧ a < 16) : t_MO_stands m3 a = some 0 := rngI (fun a => t_MO_stands m3 a = some 0) 16 (by decide +kernel) h.1 h.2
theorem h_walk (a b : Int) : t_WF_canWalk m2 a b = 0 := by
  unfold t_WF_canWalk
  rw [m2_town]; simp only [qlet]
  by_cases h : 0 ≤ a ∧ a < 16
  · rw [h_stand h]
    by_cases h1 : t_Town_hasCell m2 2 a = 0
    · rw [if_pos h1]
    · rw [if_neg h1]
      by_cases h2 : t_Town_hasCell m2 2 b = 0
      · rw [if_pos h2]
      · rw [if_neg h2]; rfl
  · rw [h_cell h]; rfl
theorem g_walk (a b : Int) : t_MO_isWalk m3 a b = some 0 := by
  unfold t_MO_isWalk
  simp only [qlet]
  by_cases h : 0 ≤ a ∧ a < 16
  · rw [g_stand h]
    by_cases h1 : t_MO_isCell m3 a = 0
    · rw [if_pos h1]
    · rw [if_neg h1]
      by_cases h2 : t_MO_isCell m3 b = 0
      · rw [if_pos h2]
      · rw [if_neg h2]; rfl
  · rw [g_cell h]; rfl
theorem op_walk (a b : Int) : okA (t_WF_walk m2 a b) (fun M => t_MO_walk M a b) = true := by
  refine okA_of (q := (m2, -1)) (r := (m3, -1)) ?_ ?_ rfl
  · unfold t_WF_walk; rw [h_walk]; rfl
  · show t_MO_walk m2 a b = _
    unfold t_MO_walk; rw [m3_e]; simp only [qlet]; rw [g_walk]; rfl
theorem op_step (a b k : Int) : okA (t_WF_step m2 a b k) (fun M => t_MO_step M a b k) = true := by
  refine okA_of (q := (m2, -1)) (r := (m3, -1)) ?_ ?_ rfl
  · unfold t_WF_step; rw [h_walk]; rfl
  · show t_MO_step m2 a b k = _
    unfold t_MO_step; rw [m3_e]; simp only [qlet]; rw [g_walk]; rfl
