/-! ===== p1: feed, beats, years, tried, pour ===== -/
theorem qguard_pos {β : Type} {c : Prop} [Decidable c] {x : Option β} (h : c) : qguard c x = x := if_pos h
theorem put_ne {M : Mem} {r N k : Nat} {i x j : Int} (h : k ≠ r) : (t_WF_put M r N i x).1 k j = M.1 k j := by
  unfold t_WF_put
  by_cases h1 : i < 0
  · rw [if_pos h1]
  · rw [if_neg h1]
    by_cases h2 : (N : Int) ≤ i
    · rw [if_pos h2]
    · rw [if_neg h2]
      exact sI_ne (fun q => h q.1)
theorem fu_big {n : Nat} (h : n < 1000000) : n < FU := Nat.lt_trans h (by unfold FU; decide)
theorem beat0 (M : Mem) (k0 : Nat) (x : Int) (h : M.1 2 15 = 0) : t_Scene_beat M k0 2 x = some (M, 0) := by
  unfold t_Scene_beat
  rw [fu_s1, t_Scene_beat_L5, if_pos (by rw [h]; decide)]
theorem mbeat0 (M : Mem) (x : Int) (hx : 0 ≤ x ∧ x < 23) (h : M.1 193 6 = 0) : t_MO_beat M x = some (setI M 208 x (w32 (M.1 208 x + 1)), 0) := by
  unfold t_MO_beat
  rw [fu_s1, t_MO_beat_L4, if_pos (by rw [h]; decide), qguard_pos hx, qguard_pos hx]
def mB (n : Int) : Mem := setI (t_Past_clear (setI m2 62 4 (w32 (m2.1 62 4 + n)))) 177 8 0
theorem cbeats (n : Int) (hn : n ≤ 200) : ∀ (d fu : Nat) (v : Int), 0 ≤ v → v + (d : Int) = n → d < fu → t_WF_beats_L17 n fu m2 0 v = some (if n ≤ 0 then m2 else mB n, 0) := by
  intro d
  induction d with
  | zero =>
    intro fu v h0 h1 h2
    obtain ⟨f, rfl⟩ : ∃ f, fu = f + 1 := ⟨fu - 1, by omega⟩
    rw [t_WF_beats_L17, if_pos (by omega)]
    by_cases h3 : n ≤ 0
    · rw [if_pos h3, if_pos h3]
    · rw [if_neg h3, if_neg h3]; rfl
  | succ d ih =>
    intro fu v h0 h1 h2
    obtain ⟨f, rfl⟩ : ∃ f, fu = f + 1 := ⟨fu - 1, by omega⟩
    rw [t_WF_beats_L17, if_neg (by omega), m2_town, beat0 m2 47 1 c_things]
    show t_WF_beats_L17 n f m2 (w32 (0 + 0)) (w32 (v + 1)) = _
    rw [show w32 (0 + 0) = 0 from rfl, w32_id (x := v + 1) (by unfold InR; omega)]
    exact ih f (v + 1) (by omega) (by omega) (by omega)
theorem mbeats (n : Int) (hn : n ≤ 200) : ∀ (d fu : Nat) (M : Mem) (v : Int), M.1 193 6 = 0 → 0 ≤ v → v + (d : Int) = n → d < fu → ∃ M', t_MO_beats_L31 n fu M 0 v = some (M', 0) := by
  intro d
  induction d with
  | zero =>
    intro fu M v h h0 h1 h2
    obtain ⟨f, rfl⟩ : ∃ f, fu = f + 1 := ⟨fu - 1, by omega⟩
    rw [t_MO_beats_L31, if_pos (by omega)]
    exact ⟨_, rfl⟩
  | succ d ih =>
    intro fu M v h h0 h1 h2
    obtain ⟨f, rfl⟩ : ∃ f, fu = f + 1 := ⟨fu - 1, by omega⟩
    rw [t_MO_beats_L31, if_neg (by omega), mbeat0 M 0 (by decide) h]
    show ∃ M', t_MO_beats_L31 n f _ (w32 (0 + 0)) (w32 (v + 1)) = _
    rw [show w32 (0 + 0) = 0 from rfl, w32_id (x := v + 1) (by unfold InR; omega)]
    exact ih f _ (v + 1) ((sI_ne (by omega)).trans h) (by omega) (by omega) (by omega)
theorem e_things : m2.1 193 6 = 0 := by decide +kernel
theorem op_beats (a : Int) : okA (t_WF_beats m2 a) (fun M => t_MO_beats M a) = true := by
  by_cases h : 0 ≤ a ∧ a ≤ 200
  · have h1 := cbeats a h.2 a.toNat FU 0 (by decide) (by omega) (fu_big (by omega))
    have hq : ∀ (M : Mem), M.1 193 6 = 0 → ∃ M', t_MO_beats M a = some (M', 0) := by
      intro M hM
      unfold t_MO_beats
      simp only [qlet]
      rw [if_neg (by omega), if_pos h.2]
      unfold t_MO_beats_L27
      by_cases h3 : a ≤ 0
      · rw [if_pos h3]
        exact mbeats a h.2 a.toNat FU _ 0 ((sI_ne (by omega)).trans hM) (by decide) (by omega) (fu_big (by omega))
      · rw [if_neg h3]
        exact mbeats a h.2 a.toNat FU _ 0 ((sI_ne (by omega)).trans ((sI_ne (by omega)).trans hM)) (by decide) (by omega) (fu_big (by omega))
    have hM : (if a ≤ 0 then m2 else mB a).1 193 6 = 0 := by
      by_cases h3 : a ≤ 0
      · rw [if_pos h3]; exact e_things
      · rw [if_neg h3]
        exact (sI_ne (by omega)).trans ((sI_ne (by omega)).trans ((sI_ne (by omega)).trans e_things))
    obtain ⟨M', hM'⟩ := hq _ hM
    refine okA_of (q := (if a ≤ 0 then m2 else mB a, 0)) ?_ hM' rfl
    unfold t_WF_beats
    rw [if_neg (by omega), if_pos h.2]
    exact h1
  · refine okA_of (q := (m2, -1)) (r := (m3, -1)) ?_ ?_ rfl
    · unfold t_WF_beats
      by_cases h0 : a < 0
      · rw [if_pos h0]
      · rw [if_neg h0, if_neg (by omega)]
    · show t_MO_beats m2 a = _
      unfold t_MO_beats; rw [m3_e]; simp only [qlet]
      by_cases h0 : a < 0
      · rw [if_pos h0]
      · rw [if_neg h0, if_neg (by omega)]
/-! years -/
theorem goOn0 (M : Mem) (h : M.1 2 14 = 0) : ∃ M1, t_Chronicle_goOn M 62 2 47 = some M1 ∧ M1.1 62 3 = w32 (M.1 62 3 + 1) ∧ ∀ (k : Nat) (j : Int), (k < 62 ∨ 65 < k) → M1.1 k j = M.1 k j := by
  unfold t_Chronicle_goOn
  rw [if_pos (by rw [h]; decide)]
  unfold t_Chronicle_goOn_L61
  simp only [qlet]
  refine ⟨_, rfl, ?_, fun k j hk => ?_⟩
  · rw [sI_self, put_ne (by decide), put_ne (by decide), put_ne (by decide)]
  · exact (sI_ne (fun q => by omega)).trans ((put_ne (by omega)).trans ((put_ne (by omega)).trans (put_ne (by omega))))
theorem cyears (n : Int) (hn : n ≤ 99) : ∀ (d fu : Nat) (M : Mem) (v : Int), M.1 0 4 = 2 → M.1 2 14 = 0 → M.1 62 3 = v → M.1 193 2 = 0 → M.1 207 0 = 0 → 0 ≤ v → v + (d : Int) = n → d < fu → ∃ M', t_WF_years_L28 n fu M v = some (M', n) ∧ M'.1 193 2 = 0 ∧ M'.1 207 0 = 0 := by
  intro d
  induction d with
  | zero =>
    intro fu M v a1 a2 a3 a4 a5 h0 h1 h2
    obtain ⟨f, rfl⟩ : ∃ f, fu = f + 1 := ⟨fu - 1, by omega⟩
    rw [t_WF_years_L28, if_pos (by omega)]
    unfold t_WF_years_L73 t_Past_clear
    simp only [qlet]
    by_cases h3 : n ≤ 0
    · rw [if_pos h3]
      exact ⟨M, by rw [a3, show v = n by omega], a4, a5⟩
    · rw [if_neg h3]
      refine ⟨setI (setI M 70 2 0) 177 8 0, ?_, by simp [uI, a4], by simp [uI, a5]⟩
      simp [uI, a3]
      omega
  | succ d ih =>
    intro fu M v a1 a2 a3 a4 a5 h0 h1 h2
    obtain ⟨f, rfl⟩ : ∃ f, fu = f + 1 := ⟨fu - 1, by omega⟩
    rw [t_WF_years_L28, if_neg (by omega), a1, show (2 : Int).toNat = 2 from rfl]
    obtain ⟨M1, e1, e2, e3⟩ := goOn0 M a2
    rw [e1]
    show ∃ M', t_WF_years_L28 n f M1 (w32 (v + 1)) = _ ∧ _
    rw [w32_id (x := v + 1) (by unfold InR; omega)]
    exact ih f M1 (v + 1) ((e3 _ _ (by decide)).trans a1) ((e3 _ _ (by decide)).trans a2) (by rw [e2, a3]; exact w32_id (by unfold InR; omega)) ((e3 _ _ (by decide)).trans a4) ((e3 _ _ (by decide)).trans a5) (by omega) (by omega) (by omega)
theorem myears (n : Int) (hn : n ≤ 99) : ∀ (d fu : Nat) (M : Mem) (v : Int), M.1 193 2 = 0 → M.1 207 0 = v → 0 ≤ v → v + (d : Int) = n → d < fu → ∃ M', t_MO_years_L41 n fu M v = some (M', n) := by
  intro d
  induction d with
  | zero =>
    intro fu M v a1 a2 h0 h1 h2
    obtain ⟨f, rfl⟩ : ∃ f, fu = f + 1 := ⟨fu - 1, by omega⟩
    rw [t_MO_years_L41, if_pos (by omega), a2]
    exact ⟨_, by rw [show v = n by omega]⟩
  | succ d ih =>
    intro fu M v a1 a2 h0 h1 h2
    obtain ⟨f, rfl⟩ : ∃ f, fu = f + 1 := ⟨fu - 1, by omega⟩
    have hg : 0 ≤ v ∧ v < 300 := ⟨h0, by omega⟩
    rw [t_MO_years_L41, if_neg (by omega), a2, qguard_pos hg]
    simp only [qlet]
    rw [qguard_pos hg, qguard_pos hg, if_pos (by simp [uI, a1])]
    unfold t_MO_years_L149
    simp only [qlet]
    rw [w32_id (x := v + 1) (by unfold InR; omega)]
    refine ih f _ (v + 1) ?_ ?_ (by omega) (by omega) (by omega)
    · simp [uI, a1]
    · simp [uI, a2]
      exact w32_id (by unfold InR; omega)
theorem e_yw : m2.1 193 2 = 0 ∧ m2.1 207 0 = 0 := by decide +kernel
theorem op_years (a : Int) : okA (t_WF_years m2 a) (fun M => t_MO_years M a) = true := by
  by_cases h : 0 ≤ a ∧ a ≤ 99
  · obtain ⟨M', h1, h2, h3⟩ := cyears a h.2 a.toNat FU m2 0 m2_a.1 c_wards c_year e_yw.1 e_yw.2 (by decide) (by omega) (fu_big (by omega))
    have hq : ∃ M2, t_MO_years M' a = some (M2, a) := by
      unfold t_MO_years
      simp only [qlet]
      rw [if_neg (by omega), if_neg (by omega), uI_ne _ _ (by omega), h3, w32_id (x := 0 + a) (by unfold InR; omega), if_pos (by omega)]
      unfold t_MO_years_L39
      by_cases h5 : a ≤ 0
      · rw [if_pos h5]
        exact myears a h.2 a.toNat FU _ 0 ((sI_ne (by omega)).trans h2) ((sI_ne (by omega)).trans h3) (by decide) (by omega) (fu_big (by omega))
      · rw [if_neg h5]
        exact myears a h.2 a.toNat FU _ 0 ((sI_ne (by omega)).trans ((sI_ne (by omega)).trans h2)) ((sI_ne (by omega)).trans ((sI_ne (by omega)).trans h3)) (by decide) (by omega) (fu_big (by omega))
    obtain ⟨M2, hM2⟩ := hq
    refine okA_of (q := (M', a)) ?_ hM2 rfl
    unfold t_WF_years
    rw [if_neg (by omega), if_neg (by omega), c_year, w32_id (x := 0 + a) (by unfold InR; omega), if_pos (by omega)]
    exact h1
  · refine okA_of (q := (m2, -1)) (r := (m3, -1)) ?_ ?_ rfl
    · unfold t_WF_years
      by_cases h0 : a < 0
      · rw [if_pos h0]
      · rw [if_neg h0, if_pos (by omega)]
    · show t_MO_years m2 a = _
      unfold t_MO_years; rw [m3_e]; simp only [qlet]
      by_cases h0 : a < 0
      · rw [if_pos h0]
      · rw [if_neg h0, if_pos (by omega)]
/-! tried -/
def mX (a : Int) : Mem := if a = 0 then setL (t_Scene_copy m2 52 47) 52 5 0 else if a = 1 then t_Scene_copy m2 52 47 else setL (t_Scene_copy m2 52 47) 52 4 0
def mY (a : Int) : Mem := (t_MO_copies (setI (mX a) 191 0 0) 1 0).getD m2
theorem mX_b : ∀ k : Nat, k < 3 → (mX (k : Int)).1 2 15 = 0 ∧ (mX (k : Int)).1 0 4 = 2 ∧ (t_MO_copies (setI (mX (k : Int)) 191 0 0) 1 0).isSome = true ∧ (mY (k : Int)).1 193 6 = 0 := by decide +kernel
theorem ctried (a i n : Int) (M : Mem) (hM : M.1 2 15 = 0 ∧ M.1 0 4 = 2) (hn : n ≤ 200) : ∀ (d fu : Nat) (v : Int), 0 ≤ v → v + (d : Int) = n → d < fu → t_WF_tried_L126 a i n fu M 0 v = some (M, 0) := by
  intro d
  induction d with
  | zero =>
    intro fu v h0 h1 h2
    obtain ⟨f, rfl⟩ : ∃ f, fu = f + 1 := ⟨fu - 1, by omega⟩
    rw [t_WF_tried_L126, if_pos (by omega)]
  | succ d ih =>
    intro fu v h0 h1 h2
    obtain ⟨f, rfl⟩ : ∃ f, fu = f + 1 := ⟨fu - 1, by omega⟩
    rw [t_WF_tried_L126, if_neg (by omega), hM.2, show (2 : Int).toNat = 2 from rfl]
    unfold t_WF_tried_L152
    rw [beat0 M 52 0 hM.1, beat0 M 52 1 hM.1]
    have e : t_WF_tried_L126 a i n f M (w32 (0 + 0)) (w32 (v + 1)) = some (M, 0) := by
      rw [show w32 (0 + 0) = 0 from rfl, w32_id (x := v + 1) (by unfold InR; omega)]
      exact ih f (v + 1) (by omega) (by omega) (by omega)
    by_cases h3 : a = 1
    · rw [if_pos h3]; exact e
    · rw [if_neg h3]; exact e
theorem mtried (a i n : Int) (hn : n ≤ 200) : ∀ (d fu : Nat) (M : Mem) (v : Int), M.1 193 6 = 0 → 0 ≤ v → v + (d : Int) = n → d < fu → ∃ M', t_MO_tried_L91 a i n fu M 0 v = some (M', 0) := by
  intro d
  induction d with
  | zero =>
    intro fu M v h h0 h1 h2
    obtain ⟨f, rfl⟩ : ∃ f, fu = f + 1 := ⟨fu - 1, by omega⟩
    rw [t_MO_tried_L91, if_pos (by omega)]
    exact ⟨_, rfl⟩
  | succ d ih =>
    intro fu M v h h0 h1 h2
    obtain ⟨f, rfl⟩ : ∃ f, fu = f + 1 := ⟨fu - 1, by omega⟩
    rw [t_MO_tried_L91, if_neg (by omega), mbeat0 M 1 (by decide) h]
    show ∃ M', t_MO_tried_L91 a i n f _ (w32 (0 + 0)) (w32 (v + 1)) = _
    rw [show w32 (0 + 0) = 0 from rfl, w32_id (x := v + 1) (by unfold InR; omega)]
    exact ih f _ (v + 1) ((sI_ne (by omega)).trans h) (by omega) (by omega) (by omega)
theorem h_can (a i : Int) (h : ¬ ((0 ≤ a ∧ a < 3) ∧ i = 0)) : t_WF_canTry m2 a i = 0 := by
  unfold t_WF_canTry t_WF_canTry_L36
  simp only [qlet]
  rw [m2_town, h_ward, h_thing]
  by_cases h0 : a = 0
  · rw [if_pos h0, if_neg (by omega)]
  · rw [if_neg h0]
    by_cases h1 : a = 1
    · rw [if_pos h1, if_neg (by omega)]
    · rw [if_neg h1]
      by_cases h2 : a = 2
      · rw [if_pos h2, if_neg (by omega)]
      · rw [if_neg h2]
        by_cases h3 : a = 3
        · rw [if_pos h3]
        · rw [if_neg h3]
          by_cases h4 : a = 4
          · rw [if_pos h4]
          · rw [if_neg h4]
theorem op_tried (a i n : Int) : okA (t_WF_tried m2 a i n) (fun M => t_MO_tried M a i n) = true := by
  by_cases h : ((0 ≤ a ∧ a < 3) ∧ i = 0) ∧ (0 ≤ n ∧ n ≤ 200)
  · obtain ⟨⟨ha, rfl⟩, hn⟩ := h
    obtain ⟨b1, b2, b3, b4⟩ := rngI (fun a => (mX a).1 2 15 = 0 ∧ (mX a).1 0 4 = 2 ∧ (t_MO_copies (setI (mX a) 191 0 0) 1 0).isSome = true ∧ (mY a).1 193 6 = 0) 3 mX_b ha.1 ha.2
    have hc := ctried a 0 n (mX a) ⟨b1, b2⟩ hn.2 n.toNat FU 0 (by decide) (by omega) (fu_big (by omega))
    have hcp : t_MO_copies (setI (mX a) 191 0 0) 1 0 = some (mY a) := by
      unfold mY
      cases e : t_MO_copies (setI (mX a) 191 0 0) 1 0 with
      | none => rw [e] at b3; cases b3
      | some v => rfl
    have h3 : a = 0 ∨ a = 1 ∨ a = 2 := by omega
    have hq : ∃ M', t_MO_tried (mX a) a 0 n = some (M', 0) := by
      unfold t_MO_tried
      simp only [qlet]
      rw [if_neg (by omega), if_neg (by omega), if_neg (by omega), if_neg (by omega), if_pos trivial]
      unfold t_MO_tried_L49
      rw [if_neg (by decide), if_neg (by omega), if_pos hn.2, hcp, obind_some]
      simp only [qlet]
      exact mtried a 0 n hn.2 n.toNat FU _ 0 ((sI_ne (by omega)).trans ((sI_ne (by omega)).trans b4)) (by decide) (by omega) (fu_big (by omega))
    obtain ⟨M', hM'⟩ := hq
    refine okA_of (q := (mX a, 0)) ?_ hM' rfl
    unfold t_WF_tried
    rw [if_neg (by omega), if_neg (by omega)]
    simp only [qlet]
    rw [show t_WF_canTry m2 a 0 = 1 by rcases h3 with rfl | rfl | rfl <;> rfl, if_neg (by decide)]
    unfold t_WF_tried_L120
    rcases h3 with rfl | rfl | rfl
    · rw [if_pos rfl]; exact hc
    · rw [if_neg (by decide), if_pos rfl]; exact hc
    · rw [if_neg (by decide), if_neg (by decide), if_pos rfl]; exact hc
  · refine okA_of (q := (m2, -1)) (r := (m3, -1)) ?_ ?_ rfl
    · unfold t_WF_tried
      by_cases h0 : n < 0
      · rw [if_pos h0]
      · rw [if_neg h0]
        by_cases h1 : 200 < n
        · rw [if_pos h1]
        · rw [if_neg h1]
          simp only [qlet]
          rw [h_can a i (fun q => h ⟨q, by omega, by omega⟩), if_pos rfl]
    · show t_MO_tried m2 a i n = _
      unfold t_MO_tried t_MO_tried_L48 t_MO_tried_L49; rw [m3_e]; simp only [qlet]
      rw [g_ward, g_thing, if_pos rfl]
      by_cases h0 : a = 3
      · rw [if_pos h0]
      · rw [if_neg h0]
        by_cases h1 : a = 4
        · rw [if_pos h1]
        · rw [if_neg h1]
          by_cases h2 : a < 0
          · rw [if_pos h2]; exact if_pos trivial
          · rw [if_neg h2]
            by_cases h3 : 2 < a
            · rw [if_pos h3]; exact if_pos trivial
            · rw [if_neg h3]
              by_cases h4 : i = 0
              · rw [if_pos h4, if_neg (by decide)]
                by_cases h5 : n < 0
                · rw [if_pos h5]
                · rw [if_neg h5, if_neg (by omega)]
              · rw [if_neg h4]; exact if_pos trivial
