/-! ===== p1: laws, notes, clocks, votes, counts, cells ===== -/
theorem h_beside (b c : Int) (h : ¬ ((0 ≤ b ∧ b < 16) ∧ (0 ≤ c ∧ c < 4))) : t_Town_beside m2 2 b c = -1 := by
  unfold t_Town_beside
  simp only [qlet]
  by_cases hb : 0 ≤ b ∧ b < 16
  · by_cases h1 : t_Town_hasCell m2 2 b = 0
    · rw [if_pos h1]
    · rw [if_neg h1]
      by_cases h2 : c < 0
      · rw [if_pos h2]
      · rw [if_neg h2, if_pos (by omega)]
  · rw [h_cell hb]; rfl
theorem g_law (a : Int) (h0 : 0 ≤ a) (h1 : a < 2) : t_MO_hasLaw m3 a = some 0 := rngI (fun a => t_MO_hasLaw m3 a = some 0) 2 (by decide +kernel) h0 h1
theorem g_lawM (a b c : Int) : t_MO_law m2 a b c = some (m3, -9223372036854775808) := by
  unfold t_MO_law; rw [m3_e]; simp only [qlet]
  by_cases h0 : a < 0
  · rw [if_pos h0]
  · rw [if_neg h0]
    by_cases h1 : 1 < a
    · rw [if_pos h1]
    · rw [if_neg h1, g_law a (by omega) (by omega)]; rfl
theorem op_law (a b c : Int) : okL (t_WF_law m2 a b c) (fun M => t_MO_law M a b c) = true := by
  by_cases h0 : a = 0
  · subst h0
    by_cases h : (0 ≤ b ∧ b < 16) ∧ (0 ≤ c ∧ c < 4)
    · have h2 := rngI (fun b => ∀ j : Nat, j < 4 → okL (t_WF_law m2 0 b (j : Int)) (fun M => t_MO_law M 0 b (j : Int)) = true) 16 (by decide +kernel) h.1.1 h.1.2
      exact rngI (fun c => okL (t_WF_law m2 0 b c) (fun M => t_MO_law M 0 b c) = true) 4 h2 h.2.1 h.2.2
    · refine okL_of (q := (m2, -9223372036854775808)) (r := (m3, -9223372036854775808)) ?_ (g_lawM _ _ _) rfl
      unfold t_WF_law
      rw [m2_town, if_pos rfl]
      unfold t_Laws_pushFrom
      simp only [qlet]
      rw [h_beside b c h]; rfl
  · refine okL_of (q := (m2, -9223372036854775808)) (r := (m3, -9223372036854775808)) ?_ (g_lawM _ _ _) rfl
    unfold t_WF_law
    rw [m2_town, if_neg h0]
    simp only [qlet]
    rw [h_ward]
    by_cases h1 : a = 1
    · rw [if_pos h1]; rfl
    · rw [if_neg h1]
theorem op_note (a b : Int) : okA (some (t_WF_note m2 a b)) (fun M => t_MO_note M a b) = true := by
  by_cases h : 0 ≤ a ∧ a < 16
  · by_cases hb : b = -1
    · subst hb
      exact rngI (fun a => okA (some (t_WF_note m2 a (-1))) (fun M => t_MO_note M a (-1)) = true) 16 (by decide +kernel) h.1 h.2
    · by_cases hb2 : 0 ≤ b ∧ b < 16
      · have h2 := rngI (fun a => ∀ j : Nat, j < 16 → okA (some (t_WF_note m2 a (j : Int))) (fun M => t_MO_note M a (j : Int)) = true) 16 (by decide +kernel) h.1 h.2
        exact rngI (fun b => okA (some (t_WF_note m2 a b)) (fun M => t_MO_note M a b) = true) 16 h2 hb2.1 hb2.2
      · refine okA_of (q := (m2, -1)) (r := (m3, -1)) ?_ ?_ rfl
        · unfold t_WF_note
          simp only [qlet]
          rw [rngI (fun a => t_WF_isFree m2 a = 1) 16 (by decide +kernel) h.1 h.2, if_neg (by decide), if_neg hb, h_free hb2]; rfl
        · show t_MO_note m2 a b = _
          unfold t_MO_note; rw [m3_e]; simp only [qlet]
          rw [g_openI h]
          rw [obind_some]
          rw [if_neg (by decide), if_neg hb, g_open hb2]; rfl
  · refine okA_of (q := (m2, -1)) (r := (m3, -1)) ?_ ?_ rfl
    · unfold t_WF_note; rw [h_free h]; rfl
    · show t_MO_note m2 a b = _
      unfold t_MO_note; rw [m3_e]; simp only [qlet]; rw [g_open h]; rfl
theorem op_clock (a : Int) : okA (t_WF_clock m2 a) (fun M => t_MO_clock M a) = true := by
  by_cases h : 0 ≤ a ∧ a < 4
  · exact rngI (fun a => okA (t_WF_clock m2 a) (fun M => t_MO_clock M a) = true) 4 (by decide +kernel) h.1 h.2
  · refine okA_of (q := (m2, -1)) (r := (m3, -1)) ?_ ?_ rfl
    · unfold t_WF_clock
      by_cases h0 : a < 0
      · rw [if_pos h0]
      · rw [if_neg h0, if_neg (by omega)]
    · show t_MO_clock m2 a = _
      unfold t_MO_clock; rw [m3_e]; simp only [qlet]
      by_cases h0 : a < 0
      · rw [if_pos h0]
      · rw [if_neg h0, if_neg (by omega)]
theorem op_treaty (a : Int) : okA (t_WF_treaty m2 a) (fun M => t_MO_treaty M a) = true := by
  by_cases h : 0 ≤ a ∧ a < 2
  · exact rngI (fun a => okA (t_WF_treaty m2 a) (fun M => t_MO_treaty M a) = true) 2 (by decide +kernel) h.1 h.2
  · refine okA_of (q := (m2, -1)) (r := (m3, -1)) ?_ ?_ rfl
    · unfold t_WF_treaty
      by_cases h0 : a < 0
      · rw [if_pos h0]
      · rw [if_neg h0, if_neg (by omega)]
    · show t_MO_treaty m2 a = _
      unfold t_MO_treaty; rw [m3_e]; simp only [qlet]
      by_cases h0 : a < 0
      · rw [if_pos h0]
      · rw [if_neg h0, if_neg (by omega)]
theorem op_moves (a b : Int) : okA (t_WF_moves m2 a b) (fun M => t_MO_moves M a b) = true := by
  by_cases h : a = 0 ∧ (0 ≤ b ∧ b < 2)
  · obtain ⟨rfl, h1, h2⟩ := h
    exact rngI (fun b => okA (t_WF_moves m2 0 b) (fun M => t_MO_moves M 0 b) = true) 2 (by decide +kernel) h1 h2
  · refine okA_of (q := (m2, -1)) (r := (m3, -1)) ?_ ?_ rfl
    · unfold t_WF_moves
      rw [m2_town, c_wards, show q_shl 1 (w32 (2 * 0)) = 1 from by decide +kernel]
      by_cases h0 : a < 0
      · rw [if_pos h0]
      · rw [if_neg h0]
        by_cases h1 : 1 ≤ a
        · rw [if_pos h1]
        · rw [if_neg h1]
          by_cases h2 : b < 0
          · rw [if_pos h2]
          · rw [if_neg h2, if_neg (by omega)]
    · show t_MO_moves m2 a b = _
      unfold t_MO_moves; rw [m3_e]; simp only [qlet]
      rw [show t_MO_votes m3 = 1 from by decide +kernel]
      by_cases h0 : a < 0
      · rw [if_pos h0]
      · rw [if_neg h0]
        by_cases h1 : 1 ≤ a
        · rw [if_pos h1]
        · rw [if_neg h1]
          by_cases h2 : b < 0
          · rw [if_pos h2]
          · rw [if_neg h2, if_neg (by omega)]
theorem op_count (a : Int) : okA ((t_WF_count m2 a).map (fun v => (m2, v))) (fun M => t_MO_count M a) = true := by
  by_cases h : 0 ≤ a ∧ a < 13
  · exact rngI (fun a => okA ((t_WF_count m2 a).map (fun v => (m2, v))) (fun M => t_MO_count M a) = true) 13 (by decide +kernel) h.1 h.2
  · refine okA_of (q := (m2, -1)) (r := (m3, -1)) ?_ ?_ rfl
    · unfold t_WF_count
      rw [if_neg (by omega), if_neg (by omega), if_neg (by omega), if_neg (by omega), if_neg (by omega), if_neg (by omega), if_neg (by omega), if_neg (by omega), if_neg (by omega), if_neg (by omega), if_neg (by omega), if_neg (by omega), if_neg (by omega)]; rfl
    · show t_MO_count m2 a = _
      unfold t_MO_count; rw [m3_e]; simp only [qlet]
      rw [if_neg (by omega), if_neg (by omega), if_neg (by omega), if_neg (by omega), if_neg (by omega), if_neg (by omega), if_neg (by omega), if_neg (by omega), if_neg (by omega), if_neg (by omega), if_neg (by omega), if_neg (by omega), if_neg (by omega)]
/-- the fresh votes -/
theorem votes_ex : ∃ S T : Mem, t_Laws_tryVotes m2 2 47 52 0 = some S ∧ t_MO_layJoys (setI S 191 0 0) = some T ∧ (S.1 177 7 = 1 ∧ t_Laws_isStay S 0 = some 1) ∧ (t_MO_votes T = 1 ∧ t_MO_isStay T 0 = some 1) := by
  have h : (match t_Laws_tryVotes m2 2 47 52 0 with
    | none => false
    | some S => match t_MO_layJoys (setI S 191 0 0) with
      | none => false
      | some T => (decide (S.1 177 7 = 1) && decide (t_Laws_isStay S 0 = some 1)) && (decide (t_MO_votes T = 1) && decide (t_MO_isStay T 0 = some 1))) = true := by decide +kernel
  cases e : t_Laws_tryVotes m2 2 47 52 0 with
  | none => simp only [e] at h; cases h
  | some S =>
    simp only [e] at h
    cases e2 : t_MO_layJoys (setI S 191 0 0) with
    | none => simp only [e2] at h; cases h
    | some T =>
      simp only [e2, Bool.and_eq_true, decide_eq_true_eq] at h
      exact ⟨S, T, rfl, e2, h.1, h.2⟩
theorem op_stay (a : Int) : okA (t_WF_stay m2 a) (fun M => t_MO_stay M a) = true := by
  obtain ⟨mS, mT, mS_e, mT_e, mS_b, mT_b⟩ := votes_ex
  by_cases h : 0 ≤ a
  · have ec : t_WF_stay m2 a = some (mS, if a = 0 then 0 else -2) := by
      unfold t_WF_stay
      rw [if_pos h, m2_town, c_year, mS_e, obind_some]
      rw [fu_s1, t_WF_stay_L36, mS_b.1, mS_b.2, if_neg (by decide)]
      rw [obind_some]
      rw [if_neg (by decide)]
      by_cases h0 : a = 0
      · rw [if_pos h0, if_pos h0]
      · rw [if_neg h0, if_neg h0]
        unfold t_WF_stay_L67
        simp only []
        rw [fu_s2, t_WF_stay_L36, mS_b.1, if_pos (by decide)]
    have e3 : ((mS, if a = 0 then (0 : Int) else -2) : Mem × Int).2 = ((mT, if a = 0 then (0 : Int) else -2) : Mem × Int).2 := by
      show (if a = 0 then (0 : Int) else -2) = (if a = 0 then (0 : Int) else -2)
      rfl
    refine okA_of (q := (mS, if a = 0 then 0 else -2)) (r := (mT, if a = 0 then 0 else -2)) ec ?_ e3
    show t_MO_stay mS a = _
    unfold t_MO_stay; simp only [qlet]
    rw [if_pos h]
    unfold t_MO_stayOf
    rw [mT_e, obind_some]
    have em : t_MO_stayOf_L8 a FU mT 0 0 = some (mT, if a = 0 then 0 else -2) := by
      rw [fu_s1, t_MO_stayOf_L8]
      simp only [qlet]
      rw [mT_b.1, mT_b.2, if_neg (by decide)]
      rw [obind_some]
      rw [if_neg (by decide)]
      by_cases h0 : a = 0
      · rw [if_pos h0.symm, if_pos h0]
      · rw [if_neg (fun q => h0 q.symm), if_neg h0]
        unfold t_MO_stayOf_L37
        simp only []
        rw [fu_s2, t_MO_stayOf_L8]
        simp only [qlet]
        rw [mT_b.1, if_pos (by decide), if_neg (by omega)]
    rw [em]; rfl
  · refine okA_of (q := (m2, -1)) (r := (m3, -1)) ?_ ?_ rfl
    · unfold t_WF_stay; rw [if_neg h]
    · show t_MO_stay m2 a = _
      unfold t_MO_stay; rw [m3_e]; simp only [qlet]; rw [if_neg h]
/-- cell, with what it throws -/
def okC (a b : Int) : Bool := match t_Law_cell m2 a b with
  | none => false
  | some q => match t_MO_cell q.1 a b with
    | none => false
    | some r => decide (t_MO_thrown r.1 = q.2) && (decide (¬ q.2 = 0) || decide (r.1.2 231 0 = q_i2l r.2))
theorem thrown_set (M : Mem) (v : Int) : t_MO_thrown (setI M 191 0 v) = v := by
  unfold t_MO_thrown
  exact sI_self _ _ _ _
theorem okC_of {a b : Int} {q r : Mem × Int} (h1 : t_Law_cell m2 a b = some q) (h2 : t_MO_cell q.1 a b = some r) (h3 : t_MO_thrown r.1 = q.2) (h4 : ¬ q.2 = 0) : okC a b = true := by
  unfold okC
  simp only [h1, h2]
  simp [h3, h4]
theorem e_cells : t_MO_cells m2 = 16 := by decide +kernel
theorem e_cell {a : Int} (h : ¬ (0 ≤ a ∧ a < 16)) : t_MO_isCell m2 a = 0 := by
  unfold t_MO_isCell
  rw [e_cells]
  by_cases h1 : a < 0
  · rw [if_pos h1]
  · rw [if_neg h1]
    exact if_pos (by omega)
theorem e_L28 (a b v : Int) (hv : ¬ v = 0) : t_MO_cell_L28 a b m2 v = some (setI m2 191 0 v, 0) := by
  unfold t_MO_cell_L28
  simp only [qlet]
  rw [if_neg (by rw [uI_self]; exact hv)]
theorem op_cell (a b : Int) : okC a b = true := by
  by_cases h : 0 ≤ a ∧ a < 16
  · by_cases hb : 0 ≤ b ∧ b < 8
    · have h2 := rngI (fun a => ∀ j : Nat, j < 8 → okC a (j : Int) = true) 16 (by decide +kernel) h.1 h.2
      exact rngI (fun b => okC a b = true) 8 h2 hb.1 hb.2
    · have ec : t_Law_cell m2 a b = some (m2, 2) := by
        unfold t_Law_cell t_WF_cell
        rw [m2_town]
        simp only [qlet]
        rw [rngI (fun a => t_Town_hasCell m2 2 a = 1) 16 (by decide +kernel) h.1 h.2]
        rw [if_neg (by decide), if_neg (by omega), if_neg (by omega), if_neg (by omega), if_neg (by omega), if_neg (by omega), if_neg (by omega), if_neg (by omega), if_neg (by omega)]
        rfl
      have em : t_MO_cell m2 a b = some (setI m2 191 0 2, 0) := by
        unfold t_MO_cell
        simp only [qlet]
        rw [rngI (fun a => t_MO_isCell m2 a = 1) 16 (by decide +kernel) h.1 h.2, if_neg (by decide)]
        unfold t_MO_cell_L23
        rw [e_L28 a b 2 (by decide)]
        by_cases hb1 : b < 0
        · rw [if_pos hb1]
        · rw [if_neg hb1, if_neg (by omega)]
      exact okC_of ec em (thrown_set m2 _) (by decide)
  · have ec : t_Law_cell m2 a b = some (m2, 1) := by
      unfold t_Law_cell t_WF_cell
      rw [m2_town, h_cell h]; rfl
    have em : t_MO_cell m2 a b = some (setI m2 191 0 1, 0) := by
      unfold t_MO_cell
      simp only [qlet]
      rw [e_cell h, if_pos rfl, e_L28 a b 1 (by decide)]
    exact okC_of ec em (thrown_set m2 _) (by decide)
