/-! ===== p1: pour and feed ===== -/
/-- the trial's memory behind the first that is poured, and what comes of it -/
def pA (a : Int) : Mem := match t_Scene_pourOne (t_Scene_copy m2 52 47) 52 2 a with | none => m2 | some q => q.1
def pB (a : Int) : Mem := setL (t_Past_remember (pA a) 47) 47 6 ((t_Past_remember (pA a) 47).2 52 6)
def pC (a : Int) : Mem := (t_MO_copies (setI (pB a) 191 0 0) 1 0).getD m2
def pD (a : Int) : Mem := match t_MO_pours (pC a) 1 a with | none => m2 | some q => q.1
def pE (a : Int) : Bool := (match t_Scene_pourOne (t_Scene_copy m2 52 47) 52 2 a with | none => false | some q => decide (q.2 = 1)) &&
  (decide (t_Scene_nextOf (pA a) 52 2 a < 0) && decide (t_WF_bitOf (pA a) ((pA a).2 52 6) a = 1) && decide ((pA a).2 52 6 ||| q_lshl 1 a = (pA a).2 52 6) && decide ((pA a).1 0 4 = 2) && decide ((t_Scene_copy m2 52 47).1 0 4 = 2)) &&
  (t_MO_copies (setI (pB a) 191 0 0) 1 0).isSome && (match t_MO_pours (pC a) 1 a with | none => false | some q => decide (q.2 = 1)) &&
  (decide (t_MO_nextOf (pD a) 1 a = some (-1)) && decide ((q_lshr ((pD a).2 211 1) a) &&& 1 = 1) && (t_MO_keepNow (pD a)).isSome && decide (t_MO_isOpen (setI (pB a) 191 0 0) a = some 1))
theorem pE_all : ∀ k : Nat, k < 16 → pE (k : Int) = true := by decide +kernel
theorem uL_same (f : Nat → Int → Int64) (k : Nat) (j : Int) : uL f k j (f k j) = f := by
  funext k' j'
  unfold uL
  split
  · split
    · rename_i e1 e2
      rw [e1, e2]
    · rfl
  · rfl
theorem some_of {α : Type} {x : Option α} {d : α} (h : x.isSome = true) : x = some (x.getD d) := by
  cases x with
  | none => cases h
  | some v => rfl
theorem cpour1 {M : Mem} {a : Int} (h1 : t_Scene_nextOf M 52 2 a < 0) (h2 : t_WF_bitOf M (M.2 52 6) a = 1) (h3 : M.2 52 6 ||| q_lshl 1 a = M.2 52 6) : t_Scene_pourOne M 52 2 a = some (M, 0) := by
  unfold t_Scene_pourOne
  rw [fu_s1, t_Scene_pourOne_L5, if_neg (by decide)]
  simp only [qlet]
  rw [if_pos h1]
  unfold t_Scene_pourOne_L38
  simp only [qlet]
  rw [h2, if_neg (by decide)]
  unfold t_Scene_pourOne_L54
  simp only [qlet]
  rw [h3]
  show some ((M.1, uL M.2 52 6 (M.2 52 6)), (0 : Int)) = _
  rw [uL_same]
theorem mpour1 {M : Mem} {a : Int} (h1 : t_MO_nextOf M 1 a = some (-1)) (h2 : (q_lshr (M.2 211 1) a) &&& 1 = 1) : t_MO_pours M 1 a = some (M, 0) := by
  unfold t_MO_pours
  rw [fu_s1, t_MO_pours_L5, if_neg (by decide), h1]
  rw [obind_some]
  rw [if_pos rfl]
  unfold t_MO_pours_L42
  rw [qguard_pos (by decide), if_pos h2]
theorem cpours (a n : Int) (M : Mem) (hM : M.1 0 4 = 2) (hp : t_Scene_pourOne M 52 2 a = some (M, 0)) (hn : n ≤ 99) : ∀ (d fu : Nat) (v : Int), 0 ≤ v → v + (d : Int) = n → d < fu → t_WF_pour_L37 a n fu M 1 v = some (setL (t_Past_remember M 47) 47 6 ((t_Past_remember M 47).2 52 6), 1) := by
  intro d
  induction d with
  | zero =>
    intro fu v h0 h1 h2
    obtain ⟨f, rfl⟩ : ∃ f, fu = f + 1 := ⟨fu - 1, by omega⟩
    rw [t_WF_pour_L37, if_pos (by omega), if_neg (by decide)]
  | succ d ih =>
    intro fu v h0 h1 h2
    obtain ⟨f, rfl⟩ : ∃ f, fu = f + 1 := ⟨fu - 1, by omega⟩
    rw [t_WF_pour_L37, if_neg (by omega), hM, show (2 : Int).toNat = 2 from rfl, hp]
    rw [obind_some]
    rw [if_pos rfl]
    unfold t_WF_pour_L61
    simp only []
    rw [w32_id (x := v + 1) (by unfold InR; omega)]
    exact ih f (v + 1) (by omega) (by omega) (by omega)
theorem mpours (a n : Int) (M K : Mem) (hk : t_MO_keepNow M = some K) (hp : t_MO_pours M 1 a = some (M, 0)) (hn : n ≤ 99) : ∀ (d fu : Nat) (v : Int), 0 ≤ v → v + (d : Int) = n → d < fu → t_MO_pour_L37 a n fu M 1 v = some (setL K 211 0 (K.2 211 1), 1) := by
  intro d
  induction d with
  | zero =>
    intro fu v h0 h1 h2
    obtain ⟨f, rfl⟩ : ∃ f, fu = f + 1 := ⟨fu - 1, by omega⟩
    rw [t_MO_pour_L37, if_pos (by omega), if_neg (by decide), hk]; rfl
  | succ d ih =>
    intro fu v h0 h1 h2
    obtain ⟨f, rfl⟩ : ∃ f, fu = f + 1 := ⟨fu - 1, by omega⟩
    rw [t_MO_pour_L37, if_neg (by omega), hp]
    rw [obind_some]
    rw [if_pos rfl]
    unfold t_MO_pour_L58
    simp only []
    rw [show w32 (1 + 0) = 1 from rfl, w32_id (x := v + 1) (by unfold InR; omega)]
    exact ih f (v + 1) (by omega) (by omega) (by omega)
theorem op_pour (a n : Int) : okA (t_WF_pour m2 a n) (fun M => t_MO_pour M a n) = true := by
  by_cases h : (0 ≤ a ∧ a < 16) ∧ (1 ≤ n ∧ n ≤ 99)
  · obtain ⟨ha, hn⟩ := h
    have hE := rngI (fun a => pE a = true) 16 pE_all ha.1 ha.2
    unfold pE at hE
    simp only [Bool.and_eq_true, decide_eq_true_eq] at hE
    obtain ⟨⟨⟨⟨e1, ⟨⟨⟨e2, e3⟩, e4⟩, e5⟩, e5b⟩, e6⟩, e7⟩, ⟨⟨e8, e9⟩, e10⟩, e11⟩ := hE
    have f1 : t_Scene_pourOne (t_Scene_copy m2 52 47) 52 2 a = some (pA a, 1) := by
      unfold pA
      cases e : t_Scene_pourOne (t_Scene_copy m2 52 47) 52 2 a with
      | none => rw [e] at e1; cases e1
      | some q =>
        rw [e] at e1
        have : q.2 = 1 := of_decide_eq_true e1
        show some q = some (q.1, 1)
        rw [← this]
    have f2 : t_MO_pours (pC a) 1 a = some (pD a, 1) := by
      unfold pD
      cases e : t_MO_pours (pC a) 1 a with
      | none => rw [e] at e7; cases e7
      | some q =>
        rw [e] at e7
        have : q.2 = 1 := of_decide_eq_true e7
        show some q = some (q.1, 1)
        rw [← this]
    have c1 := cpours a n (pA a) e5 (cpour1 e2 e3 e4) hn.2 (n - 1).toNat (FU - 1) 1 (by decide) (by omega) (Nat.lt_of_lt_of_le (m := 1000) (by omega) (by unfold FU; decide))
    obtain ⟨K, hK⟩ : ∃ K, t_MO_keepNow (pD a) = some K := ⟨_, some_of (d := m2) e10⟩
    have c2 := mpours a n (pD a) K hK (mpour1 e8 e9) hn.2 (n - 1).toNat (FU - 1) 1 (by decide) (by omega) (Nat.lt_of_lt_of_le (m := 1000) (by omega) (by unfold FU; decide))
    refine okA_of (q := (pB a, 1)) (r := (setL K 211 0 (K.2 211 1), 1)) ?_ ?_ rfl
    · unfold t_WF_pour
      simp only [qlet]
      rw [rngI (fun a => t_WF_isFree m2 a = 1) 16 (by decide +kernel) ha.1 ha.2, if_neg (by decide), if_neg (by omega), if_pos hn.2]
      rw [show FU = (FU - 1) + 1 from fu_s1, t_WF_pour_L37, if_neg (by omega), e5b, show (2 : Int).toNat = 2 from rfl, f1]
      rw [obind_some]
      rw [if_neg (show ¬ (1 : Int) = 0 by decide)]
      exact c1
    · show t_MO_pour (pB a) a n = _
      unfold t_MO_pour
      simp only [qlet]
      rw [e11]
      rw [obind_some]
      rw [if_neg (by decide), if_neg (by omega), if_pos hn.2, some_of (d := m2) e6]
      show t_MO_pour_L37 a n FU (pC a) 0 0 = _
      rw [show FU = (FU - 1) + 1 from fu_s1, t_MO_pour_L37, if_neg (by omega), f2]
      rw [obind_some]
      rw [if_neg (show ¬ (1 : Int) = 0 by decide)]
      exact c2
  · have hx : ∀ x : Option (Mem × Int), x = some (m2, -1) → t_MO_pour m2 a n = some (m3, -1) → okA x (fun M => t_MO_pour M a n) = true := fun x h1 h2 => okA_of (q := (m2, -1)) (r := (m3, -1)) h1 h2 rfl
    refine hx _ ?_ ?_
    · unfold t_WF_pour
      simp only [qlet]
      by_cases ha : 0 ≤ a ∧ a < 16
      · rw [rngI (fun a => t_WF_isFree m2 a = 1) 16 (by decide +kernel) ha.1 ha.2, if_neg (by decide)]
        by_cases h1 : n < 1
        · rw [if_pos h1]
        · rw [if_neg h1, if_neg (by omega)]
      · rw [h_free ha]; rfl
    · unfold t_MO_pour; rw [m3_e]; simp only [qlet]
      by_cases ha : 0 ≤ a ∧ a < 16
      · rw [g_openI ha]
        rw [obind_some]
        rw [if_neg (by decide)]
        by_cases h1 : n < 1
        · rw [if_pos h1]
        · rw [if_neg h1, if_neg (by omega)]
      · rw [g_open ha]; rfl
/-! feed -/
theorem feed4 (M : Mem) (x n : Int) (h : M.1 0 1 = n) (h0 : 0 ≤ n) (h1 : n ≤ 696) : ∃ M', t_WF_feedFour M x = some M' ∧ M'.1 0 1 = n + 4 ∧ ∀ (k : Nat) (j : Int), k ≠ 0 → k ≠ 1 → M'.1 k j = M.1 k j := by
  have step : ∀ (fu : Nat) (M : Mem) (v m : Int), M.1 0 1 = m → 0 ≤ m → m < 700 → 0 ≤ v → v ≤ 24 → ∃ M1, t_WF_feedFour_L3 x (fu + 1) M v = t_WF_feedFour_L3 x fu M1 (v - 8) ∧ M1.1 0 1 = m + 1 ∧ ∀ (k : Nat) (j : Int), k ≠ 0 → k ≠ 1 → M1.1 k j = M.1 k j := by
    intro fu M v m hm h0 h1 h2 h3
    rw [t_WF_feedFour_L3, if_neg (by omega)]
    simp only [qlet]
    rw [w32_id (x := v + -8) (by unfold InR; omega)]
    refine ⟨_, rfl, ?_, fun k j k0 k1 => ?_⟩
    · rw [sI_self, put_ne (by decide), hm, w32_id (by unfold InR; omega)]
    · rw [sI_ne (fun q => k0 q.1), put_ne k1]
  unfold t_WF_feedFour
  obtain ⟨f, hf⟩ : ∃ f, FU = f + 1 + 1 + 1 + 1 + 1 := ⟨FU - 5, by decide +kernel⟩
  rw [hf]
  obtain ⟨M1, a1, a2, a3⟩ := step (f + 1 + 1 + 1 + 1) M 24 n h h0 (by omega) (by decide) (by decide)
  obtain ⟨M2, b1, b2, b3⟩ := step (f + 1 + 1 + 1) M1 16 (n + 1) a2 (by omega) (by omega) (by decide) (by decide)
  obtain ⟨M3, c1, c2, c3⟩ := step (f + 1 + 1) M2 8 (n + 1 + 1) b2 (by omega) (by omega) (by decide) (by decide)
  obtain ⟨M4, d1, d2, d3⟩ := step (f + 1) M3 0 (n + 1 + 1 + 1) c2 (by omega) (by omega) (by decide) (by decide)
  rw [a1]
  rw [show (24 - 8 : Int) = 16 from rfl, b1]
  rw [show (16 - 8 : Int) = 8 from rfl, c1]
  rw [show (8 - 8 : Int) = 0 from rfl, d1]
  rw [show (0 - 8 : Int) = -8 from rfl, t_WF_feedFour_L3, if_pos (by decide)]
  exact ⟨M4, rfl, by omega, fun k j k0 k1 => (d3 k j k0 k1).trans ((c3 k j k0 k1).trans ((b3 k j k0 k1).trans (a3 k j k0 k1)))⟩
theorem mfeed (a b c d e t : Int) (h0 : 0 ≤ t) (h1 : t ≤ 680) : ∀ (n fu : Nat) (M : Mem) (v : Int), M.1 191 2 = t → 0 ≤ v → v + (n : Int) = 20 → n < fu → ∃ M', t_MO_feed_L20 a b c d e fu M v = some (M', t + 20) := by
  intro n
  induction n with
  | zero =>
    intro fu M v hM hv h2 h3
    obtain ⟨f, rfl⟩ : ∃ f, fu = f + 1 := ⟨fu - 1, by omega⟩
    rw [t_MO_feed_L20, if_pos (by omega)]
    simp only [qlet]
    rw [uI_self, hM, w32_id (by unfold InR; omega)]
    exact ⟨_, rfl⟩
  | succ n ih =>
    intro fu M v hM hv h2 h3
    obtain ⟨f, rfl⟩ : ∃ f, fu = f + 1 := ⟨fu - 1, by omega⟩
    rw [t_MO_feed_L20, if_neg (by omega)]
    have go : ∀ x : Int, ∃ M', t_MO_feed_L73 a b c d e (fun a0_ a1_ => t_MO_feed_L20 a b c d e f a0_ a1_) M v x = some (M', t + 20) := by
      intro x
      unfold t_MO_feed_L73
      rw [hM, w32_id (x := t + v) (by unfold InR; omega), qguard_pos ⟨by omega, by omega⟩]
      simp only [qlet]
      rw [w32_id (x := v + 1) (by unfold InR; omega)]
      exact ih f _ (v + 1) ((sI_ne (by omega)).trans hM) (by omega) (by omega) (by omega)
    by_cases h4 : 4 ≤ v
    · rw [if_pos h4]
      by_cases h8 : 8 ≤ v
      · rw [if_pos h8]
        by_cases h12 : 12 ≤ v
        · rw [if_pos h12]
          by_cases h16 : 16 ≤ v
          · rw [if_pos h16]; exact go e
          · rw [if_neg h16]; exact go d
        · rw [if_neg h12]; exact go c
      · rw [if_neg h8]; exact go b
    · rw [if_neg h4]; exact go a
theorem e_taped : m2.1 191 2 = 0 := by decide +kernel
theorem op_feed (a b c d e : Int) : okA (t_WF_feed m2 a b c d e) (fun M => t_MO_feed M a b c d e) = true := by
  obtain ⟨M1, a1, a2, a3⟩ := feed4 m2 a 0 m2_b.1 (by decide) (by decide)
  obtain ⟨M2, b1, b2, b3⟩ := feed4 M1 b (0 + 4) a2 (by decide) (by decide)
  obtain ⟨M3, c1, c2, c3⟩ := feed4 M2 c (0 + 4 + 4) b2 (by decide) (by decide)
  obtain ⟨M4, d1, d2, d3⟩ := feed4 M3 d (0 + 4 + 4 + 4) c2 (by decide) (by decide)
  obtain ⟨M5, e1, e2, e3⟩ := feed4 M4 e (0 + 4 + 4 + 4 + 4) d2 (by decide) (by decide)
  have ht : M5.1 191 2 = 0 := by
    rw [e3 _ _ (by decide) (by decide), d3 _ _ (by decide) (by decide), c3 _ _ (by decide) (by decide), b3 _ _ (by decide) (by decide), a3 _ _ (by decide) (by decide), e_taped]
  have hq : ∃ M', t_MO_feed M5 a b c d e = some (M', 0 + 20) := by
    unfold t_MO_feed
    simp only [qlet]
    rw [if_pos (show uI M5.1 191 0 0 191 2 ≤ 680 by rw [uI_ne _ _ (by omega), ht]; decide)]
    exact mfeed a b c d e 0 (by decide) (by decide) 20 FU _ 0 ((sI_ne (by omega)).trans ht) (by decide) rfl (fu_big (by decide))
  obtain ⟨M', hM'⟩ := hq
  refine okA_of (q := (M5, 20)) ?_ hM' rfl
  unfold t_WF_feed
  rw [m2_b.1, if_pos (by decide), a1, obind_some, b1, obind_some, c1, obind_some, d1, obind_some, e1, obind_some, e2]
  rfl
