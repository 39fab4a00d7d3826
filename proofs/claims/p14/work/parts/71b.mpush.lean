/-! push: the names -/
/-- the names so far -/
def NmU (M N : Mem) (V : TV) (c d k : Int) : Prop := Fr W20 M N ∧ ∀ j, 0 ≤ j → j ≤ k → N.2 220 j = nmP V (DN M 0) (AT M 0) c d (M.1 207 0) j
theorem NmU.put {M N : Mem} {V : TV} {c d k : Int} {v : Int64} (h : NmU M N V c d k) (h0 : -1 ≤ k) (hv : v = nmP V (DN M 0) (AT M 0) c d (M.1 207 0) (k + 1)) : NmU M (setL N 220 (k + 1) v) V c d (k + 1) := by
  refine ⟨h.1.setL rfl, fun j j0 j1 => ?_⟩
  by_cases e : j = k + 1
  · rw [e, sL_self]; exact hv
  · rw [sL_ne (by omega)]; exact h.2 j j0 (by omega)
theorem NmU.ri {M N : Mem} {V : TV} {c d k : Int} (hu : NmU M N V c d k) (h : RI M V) : RI N V ∧ AT N 0 = AT M 0 ∧ DN N 0 = DN M 0 ∧ N.1 207 0 = M.1 207 0 :=
  ⟨h.fr hu.1 W20_RIc, AT_fr hu.1 (fun j x => by unfold W20 at x; omega), DN_fr hu.1 (fun j x => by unfold W20 at x; omega), (hu.1 207 0 (by unfold W20; omega)).1⟩
theorem nmP0 (V : TV) (D A : Int → Int) (c d yr : Int) : nmP V D A c d yr 0 = if V 7 (bsV V c d) < 0 then 0 else q_i2l (V 3 (V 7 (bsV V c d))) := by unfold nmP; rw [if_pos rfl]
theorem nmP1 (V : TV) (D A : Int → Int) (c d yr : Int) : nmP V D A c d yr 1 = if V 7 (bsV V c d) < 0 then 0 else q_i2l (szV V (V 7 (bsV V c d))) := by unfold nmP; rw [if_neg (by decide), if_pos rfl]
theorem nmP2 (V : TV) (D A : Int → Int) (c d yr : Int) : nmP V D A c d yr 2 = if thV V A (bsV V c d) < 0 then 0 else 1 := by unfold nmP; rw [if_neg (by decide), if_neg (by decide), if_pos rfl]
theorem nmP3 (V : TV) (D A : Int → Int) (c d yr : Int) : nmP V D A c d yr 3 = if thV V A (bsV V c d) < 0 then 0 else q_i2l (V 5 (thV V A (bsV V c d))) := by unfold nmP; rw [if_neg (by decide), if_neg (by decide), if_neg (by decide), if_pos rfl]
theorem nmP4 (V : TV) (D A : Int → Int) (c d yr : Int) : nmP V D A c d yr 4 = if lnV V c (bsV V c d) = 0 then 0 else 1 := by unfold nmP; rw [if_neg (by decide), if_neg (by decide), if_neg (by decide), if_neg (by decide), if_pos rfl]
theorem nmP5 (V : TV) (D A : Int → Int) (c d yr : Int) : nmP V D A c d yr 5 = if dnV V D c = 4 then 0 else if q_rem (dnV V D c + 2) 4 = d then 1 else 0 := by unfold nmP; rw [if_neg (by decide), if_neg (by decide), if_neg (by decide), if_neg (by decide), if_neg (by decide), if_pos rfl]
theorem nmP6 (V : TV) (D A : Int → Int) (c d yr : Int) : nmP V D A c d yr 6 = q_i2l yr := by unfold nmP; rw [if_neg (by decide), if_neg (by decide), if_neg (by decide), if_neg (by decide), if_neg (by decide), if_neg (by decide)]
theorem m_is0 (M : Mem) : t_MO_is M 0 = 0 := rfl
theorem m_is1 (M : Mem) : t_MO_is M 1 = 1 := rfl
theorem m_cp_L165 {M N : Mem} {V : TV} {c d v : Int} {ag : Int64} (h : NmU M N V c d 4) (hag : t_MO_is N v = ag) (h5 : ag = nmP V (DN M 0) (AT M 0) c d (M.1 207 0) 5) : ∃ O, t_MO_callsPush_L165 c d N 5 v = some O ∧ NmU M O V c d 6 := by
  unfold t_MO_callsPush_L165
  rw [hag]
  have h6 := h.put (v := ag) (by omega) h5
  have y : N.1 207 0 = M.1 207 0 := (h.1 207 0 (by unfold W20; omega)).1
  have h7 := h6.put (v := q_i2l (N.1 207 0)) (by omega) (by rw [y]; exact (nmP6 _ _ _ _ _ _).symm)
  simp only [qlet]
  rw [qguard_pos ⟨by omega, by omega⟩]
  exact ⟨_, rfl, h7⟩
theorem m_cp_L115 {M N : Mem} {V : TV} {c d : Int} {v : Int64} (hR : RI M V) (c0 : 0 ≤ c) (c1 : c < cellsV V) (hb : 0 ≤ bsV V c d) (h : NmU M N V c d 2) (h3 : v = nmP V (DN M 0) (AT M 0) c d (M.1 207 0) 3) : ∃ O, t_MO_callsPush_L115 c d N (bsV V c d) 3 v = some O ∧ NmU M O V c d 6 := by
  have hC := hR.1.1.cells
  have hbr := bs_rng hR.1.1 c0 c1 d
  have u3 := h.put (v := v) (by omega) h3
  have r3 := u3.ri hR
  unfold t_MO_callsPush_L115 t_MO_callsPush_L164
  rw [qguard_pos ⟨by omega, by omega⟩]
  simp only [qlet]
  have u3' : NmU M (setL N 220 3 v) V c d 3 := u3
  have l3 : t_MO_isLine (setL N 220 3 v) c (bsV V c d) = some (lnV V c (bsV V c d)) := m_line r3.1.1.2.1 c0 (by omega) hb (by omega)
  rw [l3, obind_some]
  have u4 := u3'.put (v := t_MO_is (setL N 220 3 v) (lnV V c (bsV V c d))) (by omega) (by rw [m_is]; exact (nmP4 _ _ _ _ _ _).symm)
  have u4' : NmU M (setL (setL N 220 3 v) 220 4 (t_MO_is (setL N 220 3 v) (lnV V c (bsV V c d)))) V c d 4 := u4
  generalize setL (setL N 220 3 v) 220 4 (t_MO_is (setL N 220 3 v) (lnV V c (bsV V c d))) = N4 at u4' ⊢
  have r4 := u4'.ri hR
  have hdn := dn_rng hR.1.1 hR.row0.1 c0 (c := c) (by omega)
  change 0 ≤ dnV V (DN M 0) c ∧ dnV V (DN M 0) c ≤ 4 at hdn
  rw [m_down r4.1.1.2.1 r4.1.1.1 (MSc.self N4 0 V) (by rw [r4.1.2.1]; decide) (by omega) c0 (by omega), obind_some, r4.2.2.1]
  by_cases e : dnV V (DN M 0) c = 4
  · rw [if_pos e]
    exact m_cp_L165 u4' (m_is0 _) (by rw [nmP5, if_pos e])
  · rw [if_neg e, w32_id (x := dnV V (DN M 0) c + 2) (by unfold InR; omega)]
    by_cases e2 : q_rem (dnV V (DN M 0) c + 2) 4 = d
    · rw [if_pos e2]
      exact m_cp_L165 u4' (m_is1 _) (by rw [nmP5, if_neg e, if_pos e2])
    · rw [if_neg e2]
      exact m_cp_L165 u4' (m_is0 _) (by rw [nmP5, if_neg e, if_neg e2])
theorem m_cp_L63 {M N : Mem} {V : TV} {c d : Int} {v : Int64} (hR : RI M V) (c0 : 0 ≤ c) (c1 : c < cellsV V) (hb : 0 ≤ bsV V c d) (h : NmU M N V c d 0) (h1 : v = nmP V (DN M 0) (AT M 0) c d (M.1 207 0) 1) : ∃ O, t_MO_callsPush_L63 c d N (bsV V c d) 1 v = some O ∧ NmU M O V c d 6 := by
  have hC := hR.1.1.cells
  have hv := hR.1.1.1
  have hth := th_rng hR.1.1 (AT M 0) (bsV V c d)
  have u1 : NmU M (setL N 220 1 v) V c d 1 := h.put (v := v) (by omega) h1
  unfold t_MO_callsPush_L63 t_MO_callsPush_L88
  rw [qguard_pos ⟨by omega, by omega⟩]
  simp only [qlet]
  generalize setL N 220 1 v = N1 at u1 ⊢
  have r1 := u1.ri hR
  rw [r1.1.thing0 hb, obind_some, r1.2.1, qguard_pos ⟨by omega, by omega⟩, m_is0, m_is1]
  by_cases e : thV V (AT M 0) (bsV V c d) < 0
  · rw [if_pos (by omega), if_pos (by omega)]
    exact m_cp_L115 hR c0 c1 hb (u1.put (v := 0) (by omega) (by show _ = nmP _ _ _ _ _ _ 2; rw [nmP2, if_pos e])) (by rw [nmP3, if_pos e])
  · have u2 : NmU M (setL N1 220 2 1) V c d 2 := u1.put (v := 1) (by omega) (by show _ = nmP _ _ _ _ _ _ 2; rw [nmP2, if_neg e])
    have r2 := u2.ri hR
    have w5 : N.1 201 (thV V (AT M 0) (bsV V c d)) = V 5 (thV V (AT M 0) (bsV V c d)) := ((h.ri hR).1.1.2.1.2.2.1 _ (by omega) (by omega)).2.1
    rw [if_neg (by omega), qguard_pos ⟨by omega, by omega⟩, if_neg (by omega), qguard_pos ⟨by omega, by omega⟩]
    exact m_cp_L115 hR c0 c1 hb u2 (by rw [nmP3, if_neg e, ← w5])
theorem m_callsPush {M : Mem} {V : TV} {c d : Int} (h : RI M V) (c0 : 0 ≤ c) (c1 : c < cellsV V) (d0 : 0 ≤ d) (d1 : d < 4) (hb : 0 ≤ bsV V c d) : ∃ N, t_MO_callsPush M c d = some N ∧ Fr W20 M N ∧ ∀ j, 0 ≤ j → j ≤ 6 → N.2 220 j = nmP V (DN M 0) (AT M 0) c d (M.1 207 0) j := by
  have hC := h.1.1.cells
  have hv := h.1.1.1
  have hbr := bs_rng h.1.1 c0 c1 d
  have hV7 := h.1.1.2.2.2 (bsV V c d) hb (by omega)
  have u : NmU M M V c d (-1) := ⟨Fr.rf, fun j a b => by omega⟩
  unfold t_MO_callsPush t_MO_callsPush_L40
  rw [m_beside h.1.2.1 h.1.1 c0 c1 d0 (by omega), obind_some, qguard_pos ⟨by omega, by omega⟩, (h.1.2.1.2.2.2 _ hb (by omega)).1, w32_id (x := V 7 (bsV V c d) + 1 - 1) (by unfold InR; omega), show V 7 (bsV V c d) + 1 - 1 = V 7 (bsV V c d) by omega]
  simp only [qlet]
  by_cases e : V 7 (bsV V c d) < 0
  · rw [if_pos (by omega), qguard_pos ⟨by omega, by omega⟩, if_pos (by omega)]
    exact m_cp_L63 h c0 c1 hb (u.put (v := 0) (by omega) (by show _ = nmP _ _ _ _ _ _ 0; rw [nmP0, if_pos e])) (by rw [nmP1, if_pos e])
  · rw [if_neg (by omega), qguard_pos ⟨by omega, by omega⟩, qguard_pos ⟨by omega, by omega⟩, if_neg (by omega), (h.1.2.1.2.1 _ (by omega) (by omega)).2.2]
    have u0 : NmU M (setL M 220 0 (q_i2l (V 3 (V 7 (bsV V c d))))) V c d 0 := u.put (v := q_i2l (V 3 (V 7 (bsV V c d)))) (by omega) (by show _ = nmP _ _ _ _ _ _ 0; rw [nmP0, if_neg e])
    have r0 := u0.ri h
    have sz : t_MO_sizeOf (setL M 220 0 (q_i2l (V 3 (V 7 (bsV V c d))))) (V 7 (bsV V c d)) = some (szV V (V 7 (bsV V c d))) := m_sizeOf r0.1.1.2.1 h.1.1 (by omega)
    rw [sz, obind_some]
    exact m_cp_L63 h c0 c1 hb u0 (by rw [nmP1, if_neg e])
