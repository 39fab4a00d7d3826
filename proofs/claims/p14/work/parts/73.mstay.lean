/-! ===== stays, treaty, moves: the reference's side ===== -/
section STAY
variable {M : Mem} {V : TV} {J : Int → Int → Int}
/-- the ward-wise test: no down of the first n (of ward w) is better -/
def nbS (J : Int → Int → Int) (v w : Int) : Nat → Bool
  | 0 => true
  | n + 1 => nbS J v w n && decide (J (wiV v w (n : Int)) w ≤ J v w)
def stS (J : Int → Int → Int) (v : Int) : Nat → Bool
  | 0 => true
  | n + 1 => stS J v n && nbS J v (n : Int) 4
theorem nbS_mono {J : Int → Int → Int} {v w : Int} : ∀ {n m : Nat}, n ≤ m → nbS J v w n = false → nbS J v w m = false := by
  intro n m h e
  induction m with
  | zero => rw [show n = 0 by omega] at e; exact e
  | succ m ih =>
    by_cases q : n = m + 1
    · rw [← q]; exact e
    · rw [nbS, ih (by omega)]; rfl
theorem stS_mono {J : Int → Int → Int} {v : Int} : ∀ {n m : Nat}, n ≤ m → stS J v n = false → stS J v m = false := by
  intro n m h e
  induction m with
  | zero => rw [show n = 0 by omega] at e; exact e
  | succ m ih =>
    by_cases q : n = m + 1
    · rw [← q]; exact e
    · rw [stS, ih (by omega)]; rfl
theorem m_isStay_L14 (h : RI M V) (hJ : JT M V J) {v w : Int} {bk : Mem → Int → Option Int} (hv : 0 ≤ v ∧ v < vtV (V 0 2)) (hw : 0 ≤ w ∧ w < V 0 2) : ∀ (n d fu : Nat), d + n = 4 → n < fu → nbS J v w d = true → t_MO_isStay_L14 v bk fu M w (d : Int) = if nbS J v w 4 = true then bk M (w + 1) else some 0 := by
  have hv2 := h.1.1.1
  have hvt := vt_eq (n := V 0 2) (by omega) (by omega)
  intro n
  induction n with
  | zero =>
    intro d fu g0 g1 e
    obtain ⟨g, rfl⟩ : ∃ g, fu = g + 1 := ⟨fu - 1, by omega⟩
    have hd : d = 4 := by omega
    subst hd
    rw [t_MO_isStay_L14, if_pos (by omega), if_pos e, w32_id (x := w + 1) (by unfold InR; omega)]
  | succ n ih =>
    intro d fu g0 g1 e
    obtain ⟨g, rfl⟩ : ∃ g, fu = g + 1 := ⟨fu - 1, by omega⟩
    have hwi := wi_rng (n := V 0 2) (v := v) (w := w) (d := (d : Int)) (by omega) (by omega) hv.1 hv.2 hw.1 hw.2 (by omega) (by omega)
    rw [t_MO_isStay_L14, if_neg (by omega)]
    simp only [qlet]
    rw [m_with hw.1 (by omega), w32_id (x := 4 * wiV v w (d : Int)) (by unfold InR; omega), w32_id (x := 4 * wiV v w (d : Int) + w) (by unfold InR; omega), w32_id (x := 4 * v) (by unfold InR; omega), w32_id (x := 4 * v + w) (by unfold InR; omega), qguard_pos ⟨by omega, by omega⟩, qguard_pos ⟨by omega, by omega⟩, hJ _ hwi.1 hwi.2 w hw.1 hw.2, hJ v hv.1 hv.2 w hw.1 hw.2, w32_succ (by omega)]
    by_cases c : J (wiV v w (d : Int)) w ≤ J v w
    · rw [if_pos c]
      exact ih (d + 1) g (by omega) (by omega) (by rw [nbS, e, decide_eq_true c]; rfl)
    · rw [if_neg c, if_neg (by rw [nbS_mono (n := d + 1) (by omega) (by rw [nbS, decide_eq_false c, Bool.and_false])]; decide)]
theorem m_isStay_L2 (h : RI M V) (hJ : JT M V J) {v : Int} (hv : 0 ≤ v ∧ v < vtV (V 0 2)) : ∀ (n w fu : Nat), (w : Int) + (n : Int) = V 0 2 → n < fu → stS J v w = true → t_MO_isStay_L2 v fu M (w : Int) = some (if stS J v (V 0 2).toNat = true then 1 else 0) := by
  have hv2 := h.1.1.1
  intro n
  induction n with
  | zero =>
    intro w fu g0 g1 e
    obtain ⟨g, rfl⟩ : ∃ g, fu = g + 1 := ⟨fu - 1, by omega⟩
    rw [t_MO_isStay_L2, h.1.2.1.1.2.2.1, if_pos (by omega), show (V 0 2).toNat = w by omega, if_pos e]
  | succ n ih =>
    intro w fu g0 g1 e
    obtain ⟨g, rfl⟩ : ∃ g, fu = g + 1 := ⟨fu - 1, by omega⟩
    rw [t_MO_isStay_L2, h.1.2.1.1.2.2.1, if_neg (by omega)]
    have := m_isStay_L14 h hJ (w := (w : Int)) (bk := fun a0_ a1_ => t_MO_isStay_L2 v g a0_ a1_) hv (by omega) 4 0 FU (by omega) (fu_big (by omega)) rfl
    rw [show ((0 : Nat) : Int) = 0 from rfl] at this
    rw [this]
    cases c : nbS J v (w : Int) 4 with
    | true =>
      rw [if_pos rfl]
      have hi : (w : Int) + 1 = ((w + 1 : Nat) : Int) := by omega
      rw [hi]
      exact ih (w + 1) g (by omega) (by omega) (by rw [stS, e, c]; rfl)
    | false =>
      rw [if_neg (by decide), stS_mono (n := w + 1) (by omega) (by rw [stS, c, Bool.and_false]), if_neg (by decide)]
theorem m_isStay (h : RI M V) (hJ : JT M V J) {v : Int} (hv : 0 ≤ v ∧ v < vtV (V 0 2)) : t_MO_isStay M v = some (if stS J v (V 0 2).toNat = true then 1 else 0) := by
  have := m_isStay_L2 h hJ hv (V 0 2).toNat 0 FU (by have := h.1.1.1; omega) (fu_big (by have := h.1.1.1; omega)) rfl
  exact this
/-- the k-th stay from v on, m more of votes, n found -/
def soS (J : Int → Int → Int) (nw : Nat) (k : Int) : Nat → Int → Int → Int
  | 0, _, n => if k = -1 then n else -2
  | m + 1, v, n => if stS J v nw = true then (if n = k then v else soS J nw k m (v + 1) (n + 1)) else soS J nw k m (v + 1) n
theorem m_stayOf_L8 (h : RI M V) (hJ : JT M V J) {k : Int} : ∀ (m fu : Nat) (v n : Int), v + (m : Int) = vtV (V 0 2) → 0 ≤ v → 0 ≤ n → n ≤ v → m < fu → t_MO_stayOf_L8 k fu M n v = some (M, soS J (V 0 2).toNat k m v n) := by
  have hv2 := h.1.1.1
  have hvt := vt_eq (n := V 0 2) (by omega) (by omega)
  intro m
  induction m with
  | zero =>
    intro fu v n g0 g1 g2 g3 g4
    obtain ⟨g, rfl⟩ : ∃ g, fu = g + 1 := ⟨fu - 1, by omega⟩
    rw [t_MO_stayOf_L8]
    simp only [qlet]
    rw [m_votes h.1.2.1 h.1.1, if_pos (by omega), soS]
    split <;> rfl
  | succ m ih =>
    intro fu v n g0 g1 g2 g3 g4
    obtain ⟨g, rfl⟩ : ∃ g, fu = g + 1 := ⟨fu - 1, by omega⟩
    rw [t_MO_stayOf_L8]
    simp only [qlet]
    unfold t_MO_stayOf_L37
    rw [m_votes h.1.2.1 h.1.1, if_neg (by omega), m_isStay h hJ ⟨g1, by omega⟩, obind_some, soS, w32_id (x := v + 1) (by unfold InR; omega), w32_id (x := n + 1) (by unfold InR; omega)]
    cases c : stS J v (V 0 2).toNat with
    | false =>
      rw [if_pos (show (if false = true then (1 : Int) else 0) = 0 from rfl), if_neg (show ¬ false = true by decide)]
      exact ih g (v + 1) n (by omega) (by omega) (by omega) (by omega) (by omega)
    | true =>
      rw [if_neg (show ¬ (if true = true then (1 : Int) else 0) = 0 by decide), if_pos (show true = true from rfl)]
      by_cases e : n = k
      · rw [if_pos e, if_pos e]
      · rw [if_neg e, if_neg e]
        exact ih g (v + 1) (n + 1) (by omega) (by omega) (by omega) (by omega) (by omega)
end STAY
abbrev jvM (M : Mem) (V : TV) : Int → Int → Int := jvS V (AT M 0) (M.2 210 0) (wlV V) (M.1 207 0)
def stayS (V : TV) (J : Int → Int → Int) (k : Int) : Int := soS J (V 0 2).toNat k (vtV (V 0 2)).toNat 0 0
def LJ0 : Nat → Int → Prop := fun k j => LJ k j ∨ (k = 191 ∧ j = 0) ∨ k = 225
theorem LJ0_RIc : ∀ k j, RIc k j → ¬ LJ0 k j := by
  intro k j a q
  unfold RIc at a
  unfold LJ0 LJ JW W_MO_goesFrom GO CW at q
  omega
theorem m_stayOf {M : Mem} {V : TV} (h : RI M V) (k : Int) : ∃ N, t_MO_stayOf M k = some (N, stayS V (jvM M V) k) ∧ Fr LJ M N := by
  have hv2 := h.1.1.1
  have hvt := vt_eq (n := V 0 2) (by omega) (by omega)
  unfold t_MO_stayOf
  obtain ⟨N, n1, n2, n3⟩ := m_layJoys h (Rw0.self _ V)
  rw [n1, obind_some]
  exact ⟨N, m_stayOf_L8 (h.fr n2 LJ_RIc) n3 (vtV (V 0 2)).toNat FU 0 0 (by omega) (by omega) (by omega) (by omega) (fu_big (by omega)), n2⟩
theorem at0L_fr {M : Mem} {v : Int} : Fr LJ0 M (setI M 191 0 v) := Fr.rf.setI (Or.inr (Or.inl ⟨rfl, rfl⟩))
theorem m_stays {M : Mem} {V : TV} (h : RI M V) : ∃ N, t_MO_stays M = some (N, stayS V (jvM M V) (-1)) ∧ Fr LJ0 M N := by
  unfold t_MO_stays
  simp only [qlet]
  obtain ⟨N, n1, n2⟩ := m_stayOf (h.set0 0) (-1)
  rw [n1, obind_some]
  exact ⟨N, rfl, at0L_fr.trans (n2.mono (fun k j q => Or.inl q))⟩
theorem m_stay {M : Mem} {V : TV} (h : RI M V) (k : Int) : ∃ N, t_MO_stay M k = some (N, if 0 ≤ k then stayS V (jvM M V) k else -1) ∧ Fr LJ0 M N := by
  unfold t_MO_stay
  simp only [qlet]
  by_cases e : 0 ≤ k
  · rw [if_pos e, if_pos e]
    obtain ⟨N, n1, n2⟩ := m_stayOf (h.set0 0) k
    rw [n1, obind_some]
    exact ⟨N, rfl, at0L_fr.trans (n2.mono (fun k j q => Or.inl q))⟩
  · rw [if_neg e, if_neg e]
    exact ⟨_, rfl, at0L_fr⟩
theorem ri_stays {M : Mem} {V : TV} (h : RI M V) : Ok (fun r => RI r.1 V) (t_MO_stays M) := by
  obtain ⟨N, n1, n2⟩ := m_stays h
  exact ⟨_, n1, h.fr n2 LJ0_RIc⟩
theorem ri_stay {M : Mem} {V : TV} (h : RI M V) (k : Int) : Ok (fun r => RI r.1 V) (t_MO_stay M k) := by
  obtain ⟨N, n1, n2⟩ := m_stay h k
  exact ⟨_, n1, h.fr n2 LJ0_RIc⟩
/-! moves -/
/-- the best of the first n downs of ward w (-1: none is better) -/
def bsS (J : Int → Int → Int) (v w : Int) : Nat → Int
  | 0 => -1
  | n + 1 => if J (wiV v w (n : Int)) w ≤ J v w then bsS J v w n else if bsS J v w n = -1 then (n : Int) else if J (wiV v w (n : Int)) w ≤ J (wiV v w (bsS J v w n)) w then bsS J v w n else (n : Int)
theorem bsS_rng (J : Int → Int → Int) (v w : Int) : ∀ n : Nat, -1 ≤ bsS J v w n ∧ bsS J v w n < (n : Int) := by
  intro n
  induction n with
  | zero => exact ⟨by show (-1 : Int) ≤ -1; omega, by show (-1 : Int) < 0; omega⟩
  | succ n ih =>
    rw [bsS]
    split
    · omega
    · split
      · omega
      · split <;> omega
/-- the move over wards w .., m more -/
def mvS (J : Int → Int → Int) (v : Int) : Nat → Int → Int
  | 0, _ => v
  | m + 1, w => if bsS J v w 4 = -1 then mvS J v m (w + 1) else wiV v w (bsS J v w 4)
section MOVE
variable {M : Mem} {V : TV} {J : Int → Int → Int}
theorem m_moved_L17 (h : RI M V) (hJ : JT M V J) {v w : Int} {bk : Mem → Int → Option Int} (hv : 0 ≤ v ∧ v < vtV (V 0 2)) (hw : 0 ≤ w ∧ w < V 0 2) : ∀ (n d fu : Nat), d + n = 4 → n < fu → t_MO_moved_L17 v bk fu M w (bsS J v w d) (d : Int) = if bsS J v w 4 = -1 then bk M (w + 1) else some (wiV v w (bsS J v w 4)) := by
  have hv2 := h.1.1.1
  have hvt := vt_eq (n := V 0 2) (by omega) (by omega)
  intro n
  induction n with
  | zero =>
    intro d fu g0 g1
    obtain ⟨g, rfl⟩ : ∃ g, fu = g + 1 := ⟨fu - 1, by omega⟩
    have hd : d = 4 := by omega
    subst hd
    rw [t_MO_moved_L17, if_pos (by omega), w32_id (x := w + 1) (by unfold InR; omega)]
    simp only [qlet]
    rw [m_with hw.1 (by omega)]
  | succ n ih =>
    intro d fu g0 g1
    obtain ⟨g, rfl⟩ : ∃ g, fu = g + 1 := ⟨fu - 1, by omega⟩
    have hwi := wi_rng (n := V 0 2) (v := v) (w := w) (d := (d : Int)) (by omega) (by omega) hv.1 hv.2 hw.1 hw.2 (by omega) (by omega)
    have hb := bsS_rng J v w d
    rw [t_MO_moved_L17, if_neg (by omega)]
    simp only [qlet]
    unfold t_MO_moved_L81 t_MO_moved_L84
    rw [m_with hw.1 (by omega), m_with hw.1 (by omega), w32_id (x := 4 * wiV v w (d : Int)) (by unfold InR; omega), w32_id (x := 4 * wiV v w (d : Int) + w) (by unfold InR; omega), w32_id (x := 4 * v) (by unfold InR; omega), w32_id (x := 4 * v + w) (by unfold InR; omega), qguard_pos ⟨by omega, by omega⟩, qguard_pos ⟨by omega, by omega⟩, hJ _ hwi.1 hwi.2 w hw.1 hw.2, hJ v hv.1 hv.2 w hw.1 hw.2, w32_succ (by omega)]
    have nx := ih (d + 1) g (by omega) (by omega)
    rw [bsS] at nx
    by_cases c : J (wiV v w (d : Int)) w ≤ J v w
    · rw [if_pos c]
      rw [if_pos c] at nx
      exact nx
    · rw [if_neg c]
      rw [if_neg c] at nx
      by_cases e : bsS J v w d = -1
      · rw [if_pos e]
        rw [if_pos e] at nx
        exact nx
      · rw [if_neg e]
        rw [if_neg e] at nx
        have hwb := wi_rng (n := V 0 2) (v := v) (w := w) (d := bsS J v w d) (by omega) (by omega) hv.1 hv.2 hw.1 hw.2 (by omega) (by omega)
        rw [w32_id (x := 4 * wiV v w (bsS J v w d)) (by unfold InR; omega), w32_id (x := 4 * wiV v w (bsS J v w d) + w) (by unfold InR; omega), qguard_pos ⟨by omega, by omega⟩, hJ _ hwb.1 hwb.2 w hw.1 hw.2]
        by_cases c2 : J (wiV v w (d : Int)) w ≤ J (wiV v w (bsS J v w d)) w
        · rw [if_pos c2]
          rw [if_pos c2] at nx
          exact nx
        · rw [if_neg c2]
          rw [if_neg c2] at nx
          exact nx
theorem m_moved_L2 (h : RI M V) (hJ : JT M V J) {v : Int} (hv : 0 ≤ v ∧ v < vtV (V 0 2)) : ∀ (n fu : Nat) (w : Int), w + (n : Int) = V 0 2 → 0 ≤ w → n < fu → t_MO_moved_L2 v fu M w = some (mvS J v n w) := by
  have hv2 := h.1.1.1
  intro n
  induction n with
  | zero =>
    intro fu w g0 g1 g2
    obtain ⟨g, rfl⟩ : ∃ g, fu = g + 1 := ⟨fu - 1, by omega⟩
    rw [t_MO_moved_L2, h.1.2.1.1.2.2.1, if_pos (by omega), mvS]
  | succ n ih =>
    intro fu w g0 g1 g2
    obtain ⟨g, rfl⟩ : ∃ g, fu = g + 1 := ⟨fu - 1, by omega⟩
    rw [t_MO_moved_L2, h.1.2.1.1.2.2.1, if_neg (by omega), mvS]
    have := m_moved_L17 h hJ (w := w) (bk := fun a0_ a1_ => t_MO_moved_L2 v g a0_ a1_) hv (by omega) 4 0 FU (by omega) (fu_big (by omega))
    rw [show ((0 : Nat) : Int) = 0 from rfl, show bsS J v w 0 = -1 from rfl] at this
    rw [this]
    by_cases e : bsS J v w 4 = -1
    · rw [if_pos e, if_pos e]; exact ih g (w + 1) (by omega) (by omega) (by omega)
    · rw [if_neg e, if_neg e]
theorem m_moved (h : RI M V) (hJ : JT M V J) {v : Int} (hv : 0 ≤ v ∧ v < vtV (V 0 2)) : t_MO_moved M v = some (mvS J v (V 0 2).toNat 0) := m_moved_L2 h hJ hv (V 0 2).toNat FU 0 (by have := h.1.1.1; omega) (by omega) (fu_big (by have := h.1.1.1; omega))
theorem mv_rng {J : Int → Int → Int} {n v : Int} (n0 : 0 ≤ n) (n1 : n ≤ 4) (h0 : 0 ≤ v) (h1 : v < vtV n) : ∀ (m : Nat) (w : Int), w + (m : Int) = n → 0 ≤ w → 0 ≤ mvS J v m w ∧ mvS J v m w < vtV n := by
  intro m
  induction m with
  | zero => intro w _ _; rw [mvS]; exact ⟨h0, h1⟩
  | succ m ih =>
    intro w g0 g1
    rw [mvS]
    have hb := bsS_rng J v w 4
    by_cases e : bsS J v w 4 = -1
    · rw [if_pos e]; exact ih (w + 1) (by omega) (by omega)
    · rw [if_neg e]; exact wi_rng n0 n1 h0 h1 g1 (by omega) (by omega) (by omega)
/-- moves: m more may be made -/
def msS (J : Int → Int → Int) (nw : Nat) (what : Int) : Nat → Int → Int
  | 0, v => if mvS J v nw 0 = v then (if what = 0 then 40 else v) else -2
  | m + 1, v => if mvS J v nw 0 = v then (if what = 0 then 40 - ((m : Int) + 1) else v) else msS J nw what m (mvS J v nw 0)
theorem m_moves_L37 (h : RI M V) (hJ : JT M V J) {x1 x2 : Int} : ∀ (m fu : Nat) (v n : Int), n + (m : Int) = 40 → 0 ≤ n → 0 ≤ v → v < vtV (V 0 2) → m < fu → t_MO_moves_L37 x1 x2 fu M v n = some (M, msS J (V 0 2).toNat x2 m v) := by
  have hv2 := h.1.1.1
  intro m
  induction m with
  | zero =>
    intro fu v n g0 g1 g2 g3 g4
    obtain ⟨g, rfl⟩ : ∃ g, fu = g + 1 := ⟨fu - 1, by omega⟩
    rw [t_MO_moves_L37, m_moved h hJ ⟨g2, g3⟩, obind_some, msS, show n = 40 by omega]
    by_cases e : mvS J v (V 0 2).toNat 0 = v
    · rw [if_pos e, if_pos e]; split <;> rfl
    · rw [if_neg e, if_neg e, if_pos rfl]
  | succ m ih =>
    intro fu v n g0 g1 g2 g3 g4
    obtain ⟨g, rfl⟩ : ∃ g, fu = g + 1 := ⟨fu - 1, by omega⟩
    rw [t_MO_moves_L37, m_moved h hJ ⟨g2, g3⟩, obind_some, msS]
    by_cases e : mvS J v (V 0 2).toNat 0 = v
    · rw [if_pos e, if_pos e, show n = 40 - ((m : Int) + 1) by omega]; split <;> rfl
    · have hr := mv_rng (J := J) (n := V 0 2) (v := v) (by omega) (by omega) g2 g3 (V 0 2).toNat 0 (by omega) (by omega)
      rw [if_neg e, if_neg e, if_neg (by omega), obind_some, w32_id (x := n + 1) (by unfold InR; omega)]
      exact ih g _ (n + 1) (by omega) (by omega) hr.1 hr.2 (by omega)
end MOVE
def movesS (V : TV) (J : Int → Int → Int) (x1 x2 : Int) : Int := if (0 ≤ x1 ∧ x1 < vtV (V 0 2)) ∧ 0 ≤ x2 ∧ x2 ≤ 1 then msS J (V 0 2).toNat x2 40 x1 else -1
theorem m_moves {M : Mem} {V : TV} (h : RI M V) (x1 x2 : Int) : ∃ N, t_MO_moves M x1 x2 = some (N, movesS V (jvM M V) x1 x2) ∧ Fr LJ0 M N := by
  have h1 := h.set0 0
  unfold t_MO_moves movesS
  simp only [qlet]
  by_cases a0 : x1 < 0
  · rw [if_pos a0, if_neg (by omega)]; exact ⟨_, rfl, at0L_fr⟩
  · rw [if_neg a0, m_votes h1.1.2.1 h1.1.1]
    by_cases a1 : vtV (V 0 2) ≤ x1
    · rw [if_pos a1, if_neg (by omega)]; exact ⟨_, rfl, at0L_fr⟩
    · rw [if_neg a1]
      by_cases a2 : x2 < 0
      · rw [if_pos a2, if_neg (by omega)]; exact ⟨_, rfl, at0L_fr⟩
      · rw [if_neg a2]
        by_cases a3 : x2 ≤ 1
        · rw [if_pos a3, if_pos (by omega)]
          obtain ⟨N, n1, n2, n3⟩ := m_layJoys h1 (Rw0.self _ V)
          rw [n1, obind_some]
          exact ⟨N, m_moves_L37 (h1.fr n2 LJ_RIc) n3 40 FU x1 0 (by omega) (by omega) (by omega) (by omega) (fu_big (by omega)), at0L_fr.trans (n2.mono (fun k j q => Or.inl q))⟩
        · rw [if_neg a3, if_neg (by omega)]; exact ⟨_, rfl, at0L_fr⟩
theorem ri_moves {M : Mem} {V : TV} (h : RI M V) (x1 x2 : Int) : Ok (fun r => RI r.1 V) (t_MO_moves M x1 x2) := by
  obtain ⟨N, n1, n2⟩ := m_moves h x1 x2
  exact ⟨_, n1, h.fr n2 LJ0_RIc⟩
/-! treaty -/
def suS (J : Int → Int → Int) (v : Int) : Nat → Int
  | 0 => 0
  | n + 1 => suS J v n + J v (n : Int)
def geS (J : Int → Int → Int) (Nw : Int → Int) (v : Int) : Nat → Bool
  | 0 => true
  | n + 1 => geS J Nw v n && decide (Nw (n : Int) ≤ J v (n : Int))
/-- m more votes from v on; the best so far, its sum -/
def trS (J : Int → Int → Int) (Nw : Int → Int) (nw : Nat) (what : Int) : Nat → Int → Int → Int → Int
  | 0, _, best, most => if best = -1 then -2 else if what = 0 then most else best
  | m + 1, v, best, most => if stS J v nw = true ∧ geS J Nw v nw = true ∧ (best = -1 ∨ most < suS J v nw) then trS J Nw nw what m (v + 1) v (suS J v nw) else trS J Nw nw what m (v + 1) best most
section TREATY
variable {M : Mem} {V : TV} {J : Int → Int → Int} {Nw : Int → Int}
theorem suS_rng {J : Int → Int → Int} {v B : Int} (hJ : ∀ w, 0 ≤ w → w < B → 0 ≤ J v w ∧ J v w ≤ 9999) : ∀ n : Nat, (n : Int) ≤ B → 0 ≤ suS J v n ∧ suS J v n ≤ 9999 * (n : Int) := by
  intro n
  induction n with
  | zero => intro _; rw [suS]; omega
  | succ n ih =>
    intro h
    have a := ih (by omega)
    have b := hJ (n : Int) (by omega) (by omega)
    rw [suS]
    omega
theorem q_and01 : q_and 0 0 = 0 ∧ q_and 0 1 = 0 ∧ q_and 1 0 = 0 ∧ q_and 1 1 = 1 := by decide +kernel
theorem m_treaty_L80 (h : RI M V) (hJ : JT M V J) (hN : ∀ w, 0 ≤ w → w < V 0 2 → M.1 225 w = Nw w) (hr : ∀ v, 0 ≤ v → v < vtV (V 0 2) → ∀ w, 0 ≤ w → w < V 0 2 → 0 ≤ J v w ∧ J v w ≤ 9999) {x1 v best most : Int} {s : Bool} {bk : Mem → Int → Int → Int → Option (Mem × Int)} (hv : 0 ≤ v ∧ v < vtV (V 0 2)) : ∀ (n w fu : Nat), (w : Int) + (n : Int) = V 0 2 → n < fu →
    t_MO_treaty_L80 x1 bk fu M best most v (if s = true ∧ geS J Nw v w = true then 1 else 0) (suS J v w) (w : Int) = if s = true ∧ geS J Nw v (V 0 2).toNat = true ∧ (best = -1 ∨ most < suS J v (V 0 2).toNat) then bk M v (suS J v (V 0 2).toNat) (v + 1) else bk M best most (v + 1) := by
  have hv2 := h.1.1.1
  have hvt := vt_eq (n := V 0 2) (by omega) (by omega)
  intro n
  induction n with
  | zero =>
    intro w fu g0 g1
    obtain ⟨g, rfl⟩ : ∃ g, fu = g + 1 := ⟨fu - 1, by omega⟩
    rw [t_MO_treaty_L80, h.1.2.1.1.2.2.1, if_pos (by omega), show (V 0 2).toNat = w by omega]
    unfold t_MO_treaty_L165 t_MO_treaty_L171
    rw [w32_id (x := v + 1) (by unfold InR; omega)]
    by_cases e : s = true ∧ geS J Nw v w = true
    · rw [if_pos e, if_neg (by decide)]
      by_cases e2 : best = -1
      · rw [if_pos e2, if_pos ⟨e.1, e.2, Or.inl e2⟩]
      · rw [if_neg e2]
        by_cases e3 : most < suS J v w
        · rw [if_pos e3, if_pos ⟨e.1, e.2, Or.inr e3⟩]
        · rw [if_neg e3, if_neg (fun q => by rcases q.2.2 with q | q <;> omega)]
    · rw [if_neg e, if_pos rfl, if_neg (fun q => e ⟨q.1, q.2.1⟩)]
  | succ n ih =>
    intro w fu g0 g1
    obtain ⟨g, rfl⟩ : ∃ g, fu = g + 1 := ⟨fu - 1, by omega⟩
    have hs := suS_rng (hr v hv.1 hv.2) w (by omega)
    have hjr := hr v hv.1 hv.2 (w : Int) (by omega) (by omega)
    have nx := ih (w + 1) g (by omega) (by omega)
    rw [geS, suS] at nx
    rw [t_MO_treaty_L80, h.1.2.1.1.2.2.1, if_neg (by omega), w32_id (x := 4 * v) (by unfold InR; omega), w32_id (x := 4 * v + (w : Int)) (by unfold InR; omega), qguard_pos ⟨by omega, by omega⟩, qguard_pos ⟨by omega, by omega⟩, hJ v hv.1 hv.2 (w : Int) (by omega) (by omega), hN (w : Int) (by omega) (by omega)]
    unfold t_MO_treaty_L120
    rw [w32_id (x := 4 * v) (by unfold InR; omega), w32_id (x := 4 * v + (w : Int)) (by unfold InR; omega), qguard_pos ⟨by omega, by omega⟩, qguard_pos ⟨by omega, by omega⟩, hJ v hv.1 hv.2 (w : Int) (by omega) (by omega), w32_id (x := suS J v w + J v (w : Int)) (by unfold InR; omega), w32_succ (by omega)]
    by_cases c : J v (w : Int) < Nw (w : Int)
    · rw [if_pos c]
      rw [decide_eq_false (show ¬ Nw (w : Int) ≤ J v (w : Int) by omega), Bool.and_false, if_neg (fun q => by cases q.2)] at nx
      have : q_and (if s = true ∧ geS J Nw v w = true then 1 else 0) 0 = 0 := by split <;> simp only [q_and01]
      rw [this]
      exact nx
    · rw [if_neg c]
      rw [decide_eq_true (show Nw (w : Int) ≤ J v (w : Int) by omega), Bool.and_true] at nx
      have : q_and (if s = true ∧ geS J Nw v w = true then 1 else 0) 1 = if s = true ∧ geS J Nw v w = true then 1 else 0 := by split <;> simp only [q_and01]
      rw [this]
      exact nx
theorem m_treaty_L57 (h : RI M V) (hJ : JT M V J) (hN : ∀ w, 0 ≤ w → w < V 0 2 → M.1 225 w = Nw w) (hr : ∀ v, 0 ≤ v → v < vtV (V 0 2) → ∀ w, 0 ≤ w → w < V 0 2 → 0 ≤ J v w ∧ J v w ≤ 9999) {x1 : Int} : ∀ (m fu : Nat) (v best most : Int), v + (m : Int) = vtV (V 0 2) → 0 ≤ v → m < fu → t_MO_treaty_L57 x1 fu M best most v = some (M, trS J Nw (V 0 2).toNat x1 m v best most) := by
  have hv2 := h.1.1.1
  have hvt := vt_eq (n := V 0 2) (by omega) (by omega)
  intro m
  induction m with
  | zero =>
    intro fu v best most g0 g1 g2
    obtain ⟨g, rfl⟩ : ∃ g, fu = g + 1 := ⟨fu - 1, by omega⟩
    rw [t_MO_treaty_L57]
    simp only [qlet]
    rw [m_votes h.1.2.1 h.1.1, if_pos (by omega), trS]
    split
    · rfl
    · split <;> rfl
  | succ m ih =>
    intro fu v best most g0 g1 g2
    obtain ⟨g, rfl⟩ : ∃ g, fu = g + 1 := ⟨fu - 1, by omega⟩
    rw [t_MO_treaty_L57]
    simp only [qlet]
    rw [m_votes h.1.2.1 h.1.1, if_neg (by omega), m_isStay h hJ ⟨g1, by omega⟩, obind_some, trS]
    have e := m_treaty_L80 h hJ hN hr (x1 := x1) (best := best) (most := most) (s := stS J v (V 0 2).toNat) (bk := fun a0_ a1_ a2_ a3_ => t_MO_treaty_L57 x1 g a0_ a1_ a2_ a3_) (v := v) ⟨g1, by omega⟩ (V 0 2).toNat 0 FU (by omega) (fu_big (by omega))
    have e0 : (if stS J v (V 0 2).toNat = true ∧ geS J Nw v 0 = true then (1 : Int) else 0) = if stS J v (V 0 2).toNat = true then 1 else 0 := by
      show (if stS J v (V 0 2).toNat = true ∧ true = true then (1 : Int) else 0) = _
      simp
    rw [e0] at e
    have e1 : t_MO_treaty_L80 x1 (fun a0_ a1_ a2_ a3_ => t_MO_treaty_L57 x1 g a0_ a1_ a2_ a3_) FU M best most v (if stS J v (V 0 2).toNat = true then 1 else 0) 0 0 = _ := e
    rw [e1]
    split
    · exact ih g (v + 1) _ _ (by omega) (by omega) (by omega)
    · exact ih g (v + 1) _ _ (by omega) (by omega) (by omega)
theorem m_treaty_L18 {x1 : Int} {V : TV} {M0 : Mem} (h : RI M0 V) (hr : ∀ v, 0 ≤ v → v < vtV (V 0 2) → ∀ w, 0 ≤ w → w < V 0 2 → 0 ≤ jvM M0 V v w ∧ jvM M0 V v w ≤ 9999) : ∀ (n : Nat) (fu : Nat) (M : Mem) (w : Int), w + (n : Int) = V 0 2 → 0 ≤ w → n < fu → Fr LJ0 M0 M → (∀ x, 0 ≤ x → x < w → M.1 225 x = joyS V (nxR M0 0 V) (AT M0 0) x (M0.1 207 0)) →
    ∃ N, t_MO_treaty_L18 x1 fu M w = some (N, trS (jvM M0 V) (fun x => joyS V (nxR M0 0 V) (AT M0 0) x (M0.1 207 0)) (V 0 2).toNat x1 (vtV (V 0 2)).toNat 0 (-1) 0) ∧ Fr LJ0 M0 N := by
  have hv2 := h.1.1.1
  have hvt := vt_eq (n := V 0 2) (by omega) (by omega)
  intro n
  induction n with
  | zero =>
    intro fu M w g0 g1 g2 hF hx
    obtain ⟨g, rfl⟩ : ∃ g, fu = g + 1 := ⟨fu - 1, by omega⟩
    have hM : RI M V := h.fr hF LJ0_RIc
    rw [t_MO_treaty_L18, hM.1.2.1.1.2.2.1, if_pos (by omega)]
    have q0 := RowEq.fr (a := 0) hF (fun k j a q => by unfold CW at a; unfold LJ0 LJ JW W_MO_goesFrom GO CW at q; omega)
    obtain ⟨N, n1, n2, n3⟩ := m_layJoys (A := AT M0 0) (nets := M0.2 210 0) (yr := M0.1 207 0) hM ⟨fun t a b => (q0.2.2 t a (by omega)).1, q0.1.2.2.2.1, q0.1.1⟩
    rw [n1, obind_some]
    have hN : RI N V := hM.fr n2 LJ_RIc
    exact ⟨N, m_treaty_L57 hN n3 (fun w a b => by rw [(n2 225 w (by unfold LJ JW W_MO_goesFrom GO CW; omega)).1]; exact hx w a (by omega)) hr (vtV (V 0 2)).toNat FU 0 (-1) 0 (by omega) (by omega) (fu_big (by omega)), hF.trans (n2.mono (fun k j q => Or.inl q))⟩
  | succ n ih =>
    intro fu M w g0 g1 g2 hF hx
    obtain ⟨g, rfl⟩ : ∃ g, fu = g + 1 := ⟨fu - 1, by omega⟩
    have hM : RI M V := h.fr hF LJ0_RIc
    have q0 := RowEq.fr (a := 0) hF (fun k j a q => by unfold CW at a; unfold LJ0 LJ JW W_MO_goesFrom GO CW at q; omega)
    rw [t_MO_treaty_L18, hM.1.2.1.1.2.2.1, if_neg (by omega)]
    obtain ⟨N, n1, n2⟩ := m_joyOf (a := 0) (w := w) (D := DN M0 0) (A := AT M0 0) (nets := M0.2 210 0) (by omega) hM ⟨fun w a b => q0.2.1 w a (by omega), fun t a b => (q0.2.2 t a (by omega)).1, q0.1.2.2.2.1⟩ h.row0.1 h.row0.2.1 ⟨g1, by omega⟩
    rw [n1, obind_some, qguard_pos ⟨by omega, by omega⟩, w32_id (x := w + 1) (by unfold InR; omega)]
    simp only [qlet]
    rw [q0.1.1]
    refine ih g _ (w + 1) (by omega) (by omega) (by omega) ((hF.trans (n2.mono (fun k j q => Or.inl (Or.inl q)))).setI (Or.inr (Or.inr rfl))) (fun x a b => ?_)
    by_cases e : x = w
    · subst e; rw [sI_self]; rfl
    · rw [sI_ne (by omega), (n2 225 _ (by unfold JW W_MO_goesFrom GO; omega)).1]; exact hx x a (by omega)
end TREATY
theorem joy_rng {V : TV} (hV : VOK V) (f A : Int → Int) (w yr : Int) : 0 ≤ joyS V f A w yr ∧ joyS V f A w yr ≤ 9999 := by
  have hv := hV.1
  have hj := jyS_rng hV f A w (V 0 3).toNat (by omega)
  unfold joyS witS
  split
  · split
    · omega
    · exact put_rng (by omega) (by omega)
  · omega
def treatyS (V : TV) (J : Int → Int → Int) (Nw : Int → Int) (x1 : Int) : Int := if 0 ≤ x1 ∧ x1 ≤ 1 then trS J Nw (V 0 2).toNat x1 (vtV (V 0 2)).toNat 0 (-1) 0 else -1
theorem m_treaty {M : Mem} {V : TV} (h : RI M V) (x1 : Int) : ∃ N, t_MO_treaty M x1 = some (N, treatyS V (jvM M V) (fun x => joyS V (nxR M 0 V) (AT M 0) x (M.1 207 0)) x1) ∧ Fr LJ0 M N := by
  have h1 := h.set0 0
  have hv2 := h.1.1.1
  unfold t_MO_treaty treatyS
  simp only [qlet]
  by_cases a0 : x1 < 0
  · rw [if_pos a0, if_neg (by omega)]; exact ⟨_, rfl, at0L_fr⟩
  · rw [if_neg a0]
    by_cases a1 : x1 ≤ 1
    · rw [if_pos a1, if_pos (by omega)]
      obtain ⟨N, n1, n2⟩ := m_treaty_L18 (x1 := x1) h1 (fun v _ _ w _ _ => joy_rng h.1.1 _ _ _ _) (V 0 2).toNat FU (setI M 191 0 0) 0 (by omega) (by omega) (fu_big (by omega)) Fr.rf (fun x a b => by omega)
      exact ⟨N, n1, at0L_fr.trans n2⟩
    · rw [if_neg a1, if_neg (by omega)]; exact ⟨_, rfl, at0L_fr⟩
theorem ri_treaty {M : Mem} {V : TV} (h : RI M V) (x1 : Int) : Ok (fun r => RI r.1 V) (t_MO_treaty M x1) := by
  obtain ⟨N, n1, n2⟩ := m_treaty h x1
  exact ⟨_, n1, h.fr n2 LJ0_RIc⟩
