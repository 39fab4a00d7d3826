/-! ===== joy, push, laws: what is to come out, and the reference's side ===== -/
theorem l2i_i2l {x : Int} (h : InR x) : q_l2i (q_i2l x) = x := by
  unfold q_l2i q_i2l
  rw [Int32.toInt32_toInt64, q_toInt_of h]
theorem sizeV_rng (V : TV) (w : Int) : ∀ n : Nat, 0 ≤ sizeV V w n ∧ sizeV V w n ≤ (n : Int) := by
  intro n
  induction n with
  | zero => exact ⟨by show (0 : Int) ≤ 0; omega, by show (0 : Int) ≤ 0; omega⟩
  | succ n ih =>
    rw [sizeV]
    split <;> omega
theorem m_sizeOf_loop {M : Mem} {V : TV} {w : Int} (h : MT0 M V) (hV : VOK V) (hw : 0 ≤ w ∧ w < 4) : ∀ (n i fu : Nat), (i : Int) + (n : Int) = cellsV V → n < fu → t_MO_sizeOf_L4 w fu M (sizeV V w i) (i : Int) = some (sizeV V w (cellsV V).toNat) := by
  have hC := hV.cells
  intro n
  induction n with
  | zero =>
    intro i fu g0 g1
    obtain ⟨g, rfl⟩ : ∃ g, fu = g + 1 := ⟨fu - 1, by omega⟩
    rw [t_MO_sizeOf_L4]
    simp only [qlet]
    rw [m_cells h hV, if_pos (by omega), show (cellsV V).toNat = i by omega]
  | succ n ih =>
    intro i fu g0 g1
    obtain ⟨g, rfl⟩ : ∃ g, fu = g + 1 := ⟨fu - 1, by omega⟩
    rw [t_MO_sizeOf_L4]
    simp only [qlet]
    have hs := sizeV_rng V w i
    rw [m_cells h hV, if_neg (by omega), qguard_pos ⟨by omega, by omega⟩, (h.2.2.2 (i : Int) (by omega) (by omega)).1, w32_id (x := w + 1) (by unfold InR; omega)]
    unfold t_MO_sizeOf_L30
    have hi : (i : Int) + 1 = ((i + 1 : Nat) : Int) := by omega
    have nx := ih (i + 1) g (by omega) (by omega)
    rw [sizeV] at nx
    by_cases e : V 7 (i : Int) = w
    · rw [if_pos e] at nx
      rw [if_pos (by omega), w32_id (x := sizeV V w i + 1) (by unfold InR; omega), w32_id (x := (i : Int) + 1) (by unfold InR; omega), hi]
      exact nx
    · rw [if_neg e] at nx
      rw [if_neg (by omega), w32_id (x := sizeV V w i + 0) (by unfold InR; omega), w32_id (x := (i : Int) + 1) (by unfold InR; omega), hi]
      exact nx
abbrev szV (V : TV) (w : Int) : Int := sizeV V w (cellsV V).toNat
theorem m_sizeOf {M : Mem} {V : TV} {w : Int} (h : MT0 M V) (hV : VOK V) (hw : 0 ≤ w ∧ w < 4) : t_MO_sizeOf M w = some (szV V w) := m_sizeOf_loop h hV hw (cellsV V).toNat 0 FU (by have := hV.cells; omega) (fu_big (by have := hV.cells; omega))
/-- here, worth, cross of the first n things -/
def jyS (V : TV) (f A : Int → Int) (w : Int) : Nat → Int × Int × Int
  | 0 => (0, 0, 0)
  | n + 1 => if (wayS f (A (n : Int))).2 = none ∧ V 7 (itr f (A (n : Int)) (wayS f (A (n : Int))).1) = w then ((jyS V f A w n).1 + 1, (jyS V f A w n).2.1 + V 5 (n : Int), (jyS V f A w n).2.2 + (if lcV V f (A (n : Int)) (wayS f (A (n : Int))).1 ≤ 0 then 0 else 1)) else jyS V f A w n
theorem jyS_rng {V : TV} (hV : VOK V) (f A : Int → Int) (w : Int) : ∀ n : Nat, (n : Int) ≤ V 0 3 → 0 ≤ (jyS V f A w n).1 ∧ (jyS V f A w n).1 ≤ (n : Int) ∧ 0 ≤ (jyS V f A w n).2.1 ∧ (jyS V f A w n).2.1 ≤ 99 * (n : Int) ∧ 0 ≤ (jyS V f A w n).2.2 ∧ (jyS V f A w n).2.2 ≤ (n : Int) := by
  intro n
  induction n with
  | zero => intro _; unfold jyS; simp only []; omega
  | succ n ih =>
    intro hn
    have h := ih (by omega)
    have h5 := hV.2.2.1 (n : Int) (by omega) (by omega)
    rw [jyS]
    split
    · simp only []
      split <;> omega
    · omega
def nmJ (V : TV) (f A : Int → Int) (w yr : Int) : Int → Int64 := fun j => if j = 0 then q_i2l (V 3 w) else if j = 1 then q_i2l (szV V w) else if j = 2 then q_i2l (jyS V f A w (V 0 3).toNat).1 else if j = 3 then q_i2l (jyS V f A w (V 0 3).toNat).2.1 else if j = 4 then q_i2l (jyS V f A w (V 0 3).toNat).2.2 else if j = 5 then 0 else q_i2l yr
theorem knS_congr {K N : Int → Int} {nm nm' : Int → Int64} (h : ∀ j, 0 ≤ j → j ≤ 6 → nm j = nm' j) (i : Int) (st : List Int64) : knS K N nm i st = knS K N nm' i st := by
  by_cases h31 : K i = 31
  · rw [knS_num h31, knS_num h31]
  · by_cases h18 : 18 ≤ K i ∧ K i ≤ 24
    · rw [knS_name h18, knS_name h18, h _ (by omega) (by omega)]
    · match st with
      | [] => rw [knS, knS, if_neg h31, if_neg h31, if_neg h18, if_neg h18]
      | [y] => rw [knS, knS, if_neg h31, if_neg h31, if_neg h18, if_neg h18]
      | y :: x :: r => rw [knS, knS, if_neg h31, if_neg h31, if_neg h18, if_neg h18]
theorem evS_congr {K N : Int → Int} {nm nm' : Int → Int64} (h : ∀ j, 0 ≤ j → j ≤ 6 → nm j = nm' j) : ∀ n : Nat, evS K N nm n = evS K N nm' n := by
  intro n
  induction n with
  | zero => rfl
  | succ n ih =>
    rw [evS, evS, ih]
    cases evS K N nm' n with
    | none => rfl
    | some st => exact knS_congr h _ st
theorem valS_congr {K N : Int → Int} {nm nm' : Int → Int64} {n : Int} (h : ∀ j, 0 ≤ j → j ≤ 6 → nm j = nm' j) : valS K N nm n = valS K N nm' n := by unfold valS; rw [evS_congr h]
theorem witS_congr {K N : Int → Int} {nm nm' : Int → Int64} {n a b : Int} (h : ∀ j, 0 ≤ j → j ≤ 6 → nm j = nm' j) : witS K N nm n a b = witS K N nm' n a b := by unfold witS; rw [valS_congr h]
theorem AT_fr {W : Nat → Int → Prop} {M N : Mem} {a : Int} (hF : Fr W M N) (hd : ∀ j, ¬ W 213 j) : AT N a = AT M a := funext fun t => (hF 213 _ (hd _)).1
theorem DN_fr {W : Nat → Int → Prop} {M N : Mem} {a : Int} (hF : Fr W M N) (hd : ∀ j, ¬ W 212 j) : DN N a = DN M a := funext fun t => (hF 212 _ (hd _)).1
def CJ : Nat → Int → Prop := fun k j => W_MO_goesFrom k j ∨ k = 220
theorem CJ_RIc : ∀ k j, RIc k j → ¬ CJ k j := by
  intro k j a q
  unfold RIc at a
  unfold CJ W_MO_goesFrom at q
  omega
theorem CJ_CW : ∀ a k j, CW a k j → ¬ CJ k j := by
  intro b k j a q
  unfold CW at a
  unfold CJ W_MO_goesFrom at q
  omega
theorem m_callsJoy_loop {M0 : Mem} {V : TV} {a w : Int} {D A : Int → Int} {nets : Int64} (ha : 0 ≤ a ∧ a < 23) (h : RI M0 V) (hm : MSc M0 a V D A nets) (hD : ∀ w, 0 ≤ w → w < V 0 2 → 0 ≤ D w ∧ D w ≤ 4) (hA : ∀ t, 0 ≤ t → t < V 0 3 → 0 ≤ A t ∧ A t < cellsV V) (hw : 0 ≤ w ∧ w < V 0 2) : ∀ (n t fu : Nat) (M : Mem), (t : Int) + (n : Int) = V 0 3 → n < fu → Fr CJ M0 M →
    ∃ N, t_MO_callsJoy_L11 a w fu M (jyS V (nxV V D nets (wlV V)) A w t).1 (jyS V (nxV V D nets (wlV V)) A w t).2.1 (jyS V (nxV V D nets (wlV V)) A w t).2.2 (t : Int) = some N ∧ Fr CJ M0 N ∧ ∀ j, 0 ≤ j → j ≤ 6 → N.2 220 j = nmJ V (nxV V D nets (wlV V)) A w (M0.1 207 a) j := by
  have hC := h.1.1.cells
  have hv := h.1.1.1
  intro n
  induction n with
  | zero =>
    intro t fu M g0 g1 hF
    obtain ⟨g, rfl⟩ : ∃ g, fu = g + 1 := ⟨fu - 1, by omega⟩
    have hM : RI M V := h.fr hF CJ_RIc
    have e6 : M.1 193 6 = V 0 3 := hM.1.2.1.1.2.2.2.1
    rw [t_MO_callsJoy_L11, e6, if_pos (by omega), qguard_pos ⟨by omega, by omega⟩]
    simp only [qlet]
    have hsz : t_MO_sizeOf (setL M 220 0 (q_i2l (M.1 196 w))) w = some (szV V w) := m_sizeOf (MT0.fr (W := fun k j => k = 220) (Fr.rf.setL rfl) (fun k j x y => by omega) hM.1.2.1) h.1.1 (by omega)
    rw [hsz, obind_some, qguard_pos ⟨by omega, by omega⟩]
    have et : t = (V 0 3).toNat := by omega
    refine ⟨_, rfl, ((((((hF.setL (Or.inr rfl)).setL (Or.inr rfl)).setL (Or.inr rfl)).setL (Or.inr rfl)).setL (Or.inr rfl)).setL (Or.inr rfl)).setL (Or.inr rfl), fun j j0 j1 => ?_⟩
    have hw3 : M.1 196 w = V 3 w := (hM.1.2.1.2.1 w (by omega) (by omega)).2.2
    have hy : M.1 207 a = M0.1 207 a := (hF 207 a (by unfold CJ W_MO_goesFrom; omega)).1
    unfold nmJ
    rw [← et]
    have hj : j = 0 ∨ j = 1 ∨ j = 2 ∨ j = 3 ∨ j = 4 ∨ j = 5 ∨ j = 6 := by omega
    rcases hj with rfl | rfl | rfl | rfl | rfl | rfl | rfl
    · rw [sL_ne (by omega), sL_ne (by omega), sL_ne (by omega), sL_ne (by omega), sL_ne (by omega), sL_ne (by omega), sL_self, hw3]; rfl
    · rw [sL_ne (by omega), sL_ne (by omega), sL_ne (by omega), sL_ne (by omega), sL_ne (by omega), sL_self]; rfl
    · rw [sL_ne (by omega), sL_ne (by omega), sL_ne (by omega), sL_ne (by omega), sL_self]; rfl
    · rw [sL_ne (by omega), sL_ne (by omega), sL_ne (by omega), sL_self]; rfl
    · rw [sL_ne (by omega), sL_ne (by omega), sL_self]; rfl
    · rw [sL_ne (by omega), sL_self]; rfl
    · rw [sL_self]; show q_i2l (M.1 207 a) = _; rw [hy]; rfl
  | succ n ih =>
    intro t fu M g0 g1 hF
    obtain ⟨g, rfl⟩ : ∃ g, fu = g + 1 := ⟨fu - 1, by omega⟩
    have hM : RI M V := h.fr hF CJ_RIc
    have hmM : MSc M a V D A nets := hm.fr hF (fun k j x q => by unfold CJ W_MO_goesFrom at q; omega)
    have e6 : M.1 193 6 = V 0 3 := hM.1.2.1.1.2.2.2.1
    have hAt := hA (t : Int) (by omega) (by omega)
    have hj := jyS_rng h.1.1 (nxV V D nets (wlV V)) A w t (by omega)
    have h5 := h.1.1.2.2.1 (t : Int) (by omega) (by omega)
    have nx := fun N (q : Fr CJ M0 N) => ih (t + 1) g N (by omega) (by omega) q
    rw [t_MO_callsJoy_L11, e6, if_neg (by omega), w32_id (x := 8 * a) (by unfold InR; omega), w32_id (x := 8 * a + (t : Int)) (by unfold InR; omega), qguard_pos ⟨by omega, by omega⟩]
    obtain ⟨N, n1, n2, n3⟩ := m_goes hM.1.1 hM.1.2.1 hmM hD hM.2.1 ha hAt.1 hAt.2
    rw [hmM.2.1 (t : Int) (by omega) (by omega), n1, obind_some]
    have hFN : Fr CJ M0 N := hF.trans (n2.mono (fun k j q => Or.inl q))
    have hN : RI N V := h.fr hFN CJ_RIc
    obtain ⟨q46, q48, q47, q49, -⟩ := n3
    rw [q48, q47, q49]
    obtain ⟨wf0, wf1, wf2, wf3, wf4, wf5⟩ := way_facts hC.2 (nx_ok h.1.1 D nets (wlV V)) hAt.1 hAt.2
    have wsp := way_spec hC.2 (nx_ok h.1.1 D nets (wlV V)) hAt.1 hAt.2
    have hjs : jyS V (nxV V D nets (wlV V)) A w (t + 1) = if (wayS (nxV V D nets (wlV V)) (A (t : Int))).2 = none ∧ V 7 (itr (nxV V D nets (wlV V)) (A (t : Int)) (wayS (nxV V D nets (wlV V)) (A (t : Int))).1) = w then ((jyS V (nxV V D nets (wlV V)) A w t).1 + 1, (jyS V (nxV V D nets (wlV V)) A w t).2.1 + V 5 (t : Int), (jyS V (nxV V D nets (wlV V)) A w t).2.2 + (if lcV V (nxV V D nets (wlV V)) (A (t : Int)) (wayS (nxV V D nets (wlV V)) (A (t : Int))).1 ≤ 0 then 0 else 1)) else jyS V (nxV V D nets (wlV V)) A w t := by rw [jyS]
    generalize jyS V (nxV V D nets (wlV V)) A w t = p at *
    have hend := wf5 (wayS (nxV V D nets (wlV V)) (A (t : Int))).1 (Nat.le_refl _)
    change 0 ≤ itr (nxV V D nets (wlV V)) (A (t : Int)) (wayS (nxV V D nets (wlV V)) (A (t : Int))).1 ∧ itr (nxV V D nets (wlV V)) (A (t : Int)) (wayS (nxV V D nets (wlV V)) (A (t : Int))).1 < cellsV V at hend
    cases e : (wayS (nxV V D nets (wlV V)) (A (t : Int))).2 with
    | some b =>
      have hb : ¬ ((wayS (nxV V D nets (wlV V)) (A (t : Int))).2 = none ∧ V 7 (itr (nxV V D nets (wlV V)) (A (t : Int)) (wayS (nxV V D nets (wlV V)) (A (t : Int))).1) = w) := by rw [e]; exact fun q => by cases q.1
      rw [if_neg hb] at hjs
      have hpos : 0 < wRound (wayS (nxV V D nets (wlV V)) (A (t : Int))) := by
        rcases wsp.2.2 with q | ⟨b', q1, q2, -⟩
        · rw [e] at q; cases q.1
        · change (wayS (nxV V D nets (wlV V)) (A (t : Int))).2 = some b' at q1
          change b' ≤ (wayS (nxV V D nets (wlV V)) (A (t : Int))).1 at q2
          unfold wRound
          rw [q1]
          show 0 < ((wayS (nxV V D nets (wlV V)) (A (t : Int))).1 : Int) + 1 - (b' : Int)
          omega
      rw [if_pos hpos]
      unfold t_MO_callsJoy_L97
      rw [w32_succ (t := t) (by omega)]
      have := nx N hFN
      rw [hjs] at this
      exact this
    | none =>
      have hz : wRound (wayS (nxV V D nets (wlV V)) (A (t : Int))) = 0 := by unfold wRound; rw [e]
      have he : wEnd (nxV V D nets (wlV V)) (A (t : Int)) (wayS (nxV V D nets (wlV V)) (A (t : Int))) = itr (nxV V D nets (wlV V)) (A (t : Int)) (wayS (nxV V D nets (wlV V)) (A (t : Int))).1 := by unfold wEnd; rw [e]
      have hl : wLines V (nxV V D nets (wlV V)) (A (t : Int)) (wayS (nxV V D nets (wlV V)) (A (t : Int))) = lcV V (nxV V D nets (wlV V)) (A (t : Int)) (wayS (nxV V D nets (wlV V)) (A (t : Int))).1 := by unfold wLines; rw [e]
      rw [hz, he, hl, if_neg (by omega), qguard_pos ⟨by omega, by omega⟩, (hN.1.2.1.2.2.2 _ hend.1 (by omega)).1, w32_id (x := w + 1) (by unfold InR; omega)]
      by_cases hw7 : V 7 (itr (nxV V D nets (wlV V)) (A (t : Int)) (wayS (nxV V D nets (wlV V)) (A (t : Int))).1) = w
      · rw [if_pos ⟨e, hw7⟩] at hjs
        rw [if_pos (by omega), qguard_pos ⟨by omega, by omega⟩, (hN.1.2.1.2.2.1 (t : Int) (by omega) (by omega)).2.1]
        unfold t_MO_callsJoy_L94 t_MO_callsJoy_L97
        rw [w32_succ (t := t) (by omega), w32_id (x := p.1 + 1) (by unfold InR; omega), w32_id (x := p.2.1 + V 5 (t : Int)) (by unfold InR; omega), w32_id (x := p.2.2 + 0) (by unfold InR; omega), w32_id (x := p.2.2 + 1) (by unfold InR; omega)]
        have := nx N hFN
        rw [hjs] at this
        simp only [] at this
        by_cases hlc : lcV V (nxV V D nets (wlV V)) (A (t : Int)) (wayS (nxV V D nets (wlV V)) (A (t : Int))).1 ≤ 0
        · rw [if_pos hlc]
          rw [if_pos hlc] at this
          exact this
        · rw [if_neg hlc]
          rw [if_neg hlc] at this
          exact this
      · rw [if_neg (fun q => hw7 q.2)] at hjs
        rw [if_neg (by omega)]
        unfold t_MO_callsJoy_L97
        rw [w32_succ (t := t) (by omega)]
        have := nx N hFN
        rw [hjs] at this
        exact this
theorem m_callsJoy {M : Mem} {V : TV} {a w : Int} {D A : Int → Int} {nets : Int64} (ha : 0 ≤ a ∧ a < 23) (h : RI M V) (hm : MSc M a V D A nets) (hD : ∀ w, 0 ≤ w → w < V 0 2 → 0 ≤ D w ∧ D w ≤ 4) (hA : ∀ t, 0 ≤ t → t < V 0 3 → 0 ≤ A t ∧ A t < cellsV V) (hw : 0 ≤ w ∧ w < V 0 2) : ∃ N, t_MO_callsJoy M a w = some N ∧ Fr CJ M N ∧ ∀ j, 0 ≤ j → j ≤ 6 → N.2 220 j = nmJ V (nxV V D nets (wlV V)) A w (M.1 207 a) j :=
  m_callsJoy_loop ha h hm hD hA hw (V 0 3).toNat 0 FU M (by have := h.1.1.1; omega) (fu_big (by have := h.1.1.1; omega)) Fr.rf
def joyS (V : TV) (f A : Int → Int) (w yr : Int) : Int := witS (V 12) (V 13) (nmJ V f A w yr) (V 0 12) 9999 (jyS V f A w (V 0 3).toNat).2.1
def JW : Nat → Int → Prop := fun k j => W_MO_goesFrom k j ∨ k = 220 ∨ GO k j
theorem JW_RIc : ∀ k j, RIc k j → ¬ JW k j := by
  intro k j a q
  unfold RIc at a
  unfold JW W_MO_goesFrom GO at q
  omega
theorem CJ_JW : ∀ k j, CJ k j → JW k j := by
  intro k j q
  rcases q with q | q
  · exact Or.inl q
  · exact Or.inr (Or.inl q)
theorem GO_JW : ∀ k j, GO k j → JW k j := fun k j q => Or.inr (Or.inr q)
theorem m_joyOf {M : Mem} {V : TV} {a w : Int} {D A : Int → Int} {nets : Int64} (ha : 0 ≤ a ∧ a < 23) (h : RI M V) (hm : MSc M a V D A nets) (hD : ∀ w, 0 ≤ w → w < V 0 2 → 0 ≤ D w ∧ D w ≤ 4) (hA : ∀ t, 0 ≤ t → t < V 0 3 → 0 ≤ A t ∧ A t < cellsV V) (hw : 0 ≤ w ∧ w < V 0 2) : ∃ N, t_MO_joyOf M a w = some (N, joyS V (nxV V D nets (wlV V)) A w (M.1 207 a)) ∧ Fr JW M N := by
  obtain ⟨N, n1, n2, n3⟩ := m_callsJoy ha h hm hD hA hw
  have hN : RI N V := h.fr n2 CJ_RIc
  have hv := h.1.1.1
  have hj := jyS_rng h.1.1 (nxV V D nets (wlV V)) A w (V 0 3).toNat (by omega)
  obtain ⟨O, o1, o2⟩ := m_within (M := N) (s := 1) (most := 9999) (wo := q_l2i (N.2 220 3)) (by omega) hN.1.2.2.2.2 hN.1.2.2.1.2.1
  have e3 : q_l2i (N.2 220 3) = (jyS V (nxV V D nets (wlV V)) A w (V 0 3).toNat).2.1 := by
    rw [n3 3 (by omega) (by omega)]
    exact l2i_i2l (by unfold InR; omega)
  unfold t_MO_joyOf
  rw [n1, obind_some, o1, obind_some]
  refine ⟨O, ?_, (n2.mono CJ_JW).trans (o2.mono GO_JW)⟩
  unfold joyS
  rw [e3, witS_congr (nm := nmM N) (nm' := nmJ V (nxV V D nets (wlV V)) A w (M.1 207 a)) (fun j a b => n3 j a b)]
theorem RI.msc {M : Mem} {V : TV} (_h : RI M V) (a : Int) : MSc M a V (DN M a) (AT M a) (M.2 210 a) := MSc.self M a V
theorem m_joyOf0 {M : Mem} {V : TV} {a w : Int} (ha : 0 ≤ a ∧ a < 23) (h : RI M V) (hr : RowOK M a V) (hw : 0 ≤ w ∧ w < V 0 2) : ∃ N, t_MO_joyOf M a w = some (N, joyS V (nxR M a V) (AT M a) w (M.1 207 a)) ∧ Fr JW M N := m_joyOf ha h (MSc.self M a V) hr.1 hr.2.1 hw
/-! push -/
def thV (V : TV) (A : Int → Int) (c : Int) : Int := fI (fnd (fun a => A (a : Int)) c (V 0 3).toNat)
theorem th_rng {V : TV} (hV : VOK V) (A : Int → Int) (c : Int) : -1 ≤ thV V A c ∧ thV V A c < V 0 3 := by
  have hv := hV.1
  unfold thV
  cases e : fnd (fun a => A (a : Int)) c (V 0 3).toNat with
  | none => show -1 ≤ (-1 : Int) ∧ (-1 : Int) < _; omega
  | some b => have := (fnd_some e).1; show -1 ≤ (b : Int) ∧ (b : Int) < _; omega
def nmP (V : TV) (D A : Int → Int) (c d yr : Int) : Int → Int64 := fun j =>
  if j = 0 then (if V 7 (bsV V c d) < 0 then 0 else q_i2l (V 3 (V 7 (bsV V c d))))
  else if j = 1 then (if V 7 (bsV V c d) < 0 then 0 else q_i2l (szV V (V 7 (bsV V c d))))
  else if j = 2 then (if thV V A (bsV V c d) < 0 then 0 else 1)
  else if j = 3 then (if thV V A (bsV V c d) < 0 then 0 else q_i2l (V 5 (thV V A (bsV V c d))))
  else if j = 4 then (if lnV V c (bsV V c d) = 0 then 0 else 1)
  else if j = 5 then (if dnV V D c = 4 then 0 else if q_rem (dnV V D c + 2) 4 = d then 1 else 0)
  else q_i2l yr
def W20 : Nat → Int → Prop := fun k j => k = 220
theorem W20_RIc : ∀ k j, RIc k j → ¬ W20 k j := by intro k j a q; unfold RIc at a; unfold W20 at q; omega
theorem RI.thing0 {M : Mem} {V : TV} (h : RI M V) {c : Int} (hc : 0 ≤ c) : t_MO_thingIn M 0 c = some (thV V (AT M 0) c) := m_thingIn (by omega) h.1.1 h.1.2.1 hc (h.th 0)
