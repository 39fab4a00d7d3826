section
/-! ===== stays, stay, moves, both sides ===== -/
theorem bs_stays {M : Mem} (h : LI M) : Ok (fun q => Ok (fun r => q.2 = r.2 ∧ LI r.1) (t_MO_stays q.1)) (t_WF_stays M) := by
  have h' := h
  have hTT := h.T
  obtain ⟨hI, ⟨V, hR, hX, hRL⟩, -⟩ := h
  have hV := hR.1.1
  have hv := hV.1
  have hvt := (vt_eq (n := V 0 2) (by omega) (by omega)).2
  obtain ⟨N, n1, n2, n3, n4⟩ := c_votes hI hTT.2 hR hX hRL
  have hw : t_WF_stays M = some (N, stayS V (jvM M V) (-1)) := by
    unfold t_WF_stays stayS
    rw [n1, obind_some]
    exact c_stays_L30 hV n4 (vtV (V 0 2)).toNat FU 0 0 (by omega) (by omega) (by omega) (by omega) (fu_big (by omega))
  obtain ⟨u, e, hu⟩ := sf_WF_stays hI
  have : u = _ := Option.some.inj (e.symm.trans hw)
  subst this
  have hLN : LI N := h'.votes hu.1 n2 n3 (c_votesU hI hTT.2 n1)
  have hRN : RI N V := hR.fr n2 (fun q j a z => by have := qc_ri z; have := ric_lo a; omega)
  obtain ⟨P, p1, p2⟩ := m_stays hRN
  rw [jvM_fr (M := M) (N := N) n2 (fun q j z y => by have := qc_ri y; omega)] at p1
  have hIP := im_MO_stays hu.1 _ p1
  exact ⟨_, hw, _, p1, rfl, hLN.qm hIP.1 (p2.mono LJ0_qm)⟩
theorem bs_stay {M : Mem} (h : LI M) {x1 : Int} (h1 : InR x1) : Ok (fun q => Ok (fun r => q.2 = r.2 ∧ LI r.1) (t_MO_stay q.1 x1)) (t_WF_stay M x1) := by
  have h' := h
  have hTT := h.T
  obtain ⟨hI, ⟨V, hR, hX, hRL⟩, -⟩ := h
  have hV := hR.1.1
  have hv := hV.1
  have hvt := (vt_eq (n := V 0 2) (by omega) (by omega)).2
  have fin : ∀ N : Mem, t_WF_stay M x1 = some (N, if 0 ≤ x1 then stayS V (jvM M V) x1 else -1) → RI N V → jvM N V = jvM M V → (IM N → LI N) → Ok (fun q => Ok (fun r => q.2 = r.2 ∧ LI r.1) (t_MO_stay q.1 x1)) (t_WF_stay M x1) := by
    intro N hw hRN ej hL
    obtain ⟨u, e, hu⟩ := sf_WF_stay hI h1
    have : u = _ := Option.some.inj (e.symm.trans hw)
    subst this
    obtain ⟨P, p1, p2⟩ := m_stay hRN x1
    rw [ej] at p1
    have hIP := im_MO_stay hu.1 h1 _ p1
    exact ⟨_, hw, _, p1, rfl, (hL hu.1).qm hIP.1 (p2.mono LJ0_qm)⟩
  by_cases z : 0 ≤ x1
  rotate_left
  · exact fin M (by unfold t_WF_stay; rw [if_neg z, if_neg z]) hR rfl (fun _ => h')
  obtain ⟨N, n1, n2, n3, n4⟩ := c_votes hI hTT.2 hR hX hRL
  refine fin N ?_ (hR.fr n2 (fun q j a z => by have := qc_ri z; have := ric_lo a; omega)) (jvM_fr n2 (fun q j z y => by have := qc_ri y; omega)) (fun hI2 => h'.votes hI2 n2 n3 (c_votesU hI hTT.2 n1))
  unfold t_WF_stay stayS
  rw [if_pos z, if_pos z, n1, obind_some]
  have s := c_stay_L36 hV n4 h1 (vtV (V 0 2)).toNat FU 0 0 (by omega) (by omega) (by omega) z (fu_big (by omega))
  rw [show x1 - 0 = x1 by omega] at s
  exact s
theorem bs_moves {M : Mem} (h : LI M) {x1 x2 : Int} (h1 : InR x1) (h2 : InR x2) : Ok (fun q => Ok (fun r => q.2 = r.2 ∧ LI r.1) (t_MO_moves q.1 x1 x2)) (t_WF_moves M x1 x2) := by
  have h' := h
  have hTT := h.T
  obtain ⟨hI, ⟨V, hR, hX, hRL⟩, -⟩ := h
  have hV := hR.1.1
  have hv := hV.1
  have hvt := (vt_eq (n := V 0 2) (by omega) (by omega)).2
  have fin : ∀ N : Mem, t_WF_moves M x1 x2 = some (N, movesS V (jvM M V) x1 x2) → RI N V → jvM N V = jvM M V → (IM N → LI N) → Ok (fun q => Ok (fun r => q.2 = r.2 ∧ LI r.1) (t_MO_moves q.1 x1 x2)) (t_WF_moves M x1 x2) := by
    intro N hw hRN ej hL
    obtain ⟨u, e, hu⟩ := sf_WF_moves hI h1 h2
    have : u = _ := Option.some.inj (e.symm.trans hw)
    subst this
    obtain ⟨P, p1, p2⟩ := m_moves hRN x1 x2
    rw [ej] at p1
    have hIP := im_MO_moves hu.1 h1 h2 _ p1
    exact ⟨_, hw, _, p1, rfl, (hL hu.1).qm hIP.1 (p2.mono LJ0_qm)⟩
  have evt : q_shl 1 (w32 (2 * M.1 (M.1 0 4).toNat 14)) = vtV (V 0 2) := by
    rw [hX.1.1.2.2.1, w32_id (x := 2 * V 0 2) (by unfold InR; omega)]
    rfl
  by_cases z : (0 ≤ x1 ∧ x1 < vtV (V 0 2)) ∧ 0 ≤ x2 ∧ x2 ≤ 1
  rotate_left
  · refine fin M ?_ hR rfl (fun _ => h')
    unfold t_WF_moves movesS
    rw [evt, if_neg z]
    by_cases a : x1 < 0
    · rw [if_pos a]
    rw [if_neg a]
    by_cases b : vtV (V 0 2) ≤ x1
    · rw [if_pos b]
    rw [if_neg b]
    by_cases c : x2 < 0
    · rw [if_pos c]
    rw [if_neg c, if_neg (show ¬ x2 ≤ 1 from fun y => z ⟨⟨by omega, by omega⟩, by omega, y⟩)]
  obtain ⟨N, n1, n2, n3, n4⟩ := c_votes hI hTT.2 hR hX hRL
  refine fin N ?_ (hR.fr n2 (fun q j a z => by have := qc_ri z; have := ric_lo a; omega)) (jvM_fr n2 (fun q j z y => by have := qc_ri y; omega)) (fun hI2 => h'.votes hI2 n2 n3 (c_votesU hI hTT.2 n1))
  unfold t_WF_moves movesS
  rw [evt, if_pos z, if_neg (show ¬ x1 < 0 by omega), if_neg (show ¬ vtV (V 0 2) ≤ x1 by omega), if_neg (show ¬ x2 < 0 by omega), if_pos z.2.2, n1, obind_some]
  exact c_moves_L61 hV n4 40 FU x1 0 (by omega) (by omega) z.1.1 z.1.2 (fu_big (by omega))
/-! treaty -/
theorem geS_mono {J : Int → Int → Int} {Nw : Int → Int} {v : Int} : ∀ {n m : Nat}, n ≤ m → geS J Nw v n = false → geS J Nw v m = false := by
  intro n m hm
  induction m with
  | zero =>
    intro h
    have : n = 0 := by omega
    rw [← this]; exact h
  | succ m ih =>
    intro h
    by_cases e : n = m + 1
    · rw [← e]; exact h
    · rw [geS, ih (by omega) h]; rfl
def JtW (T : Nat) : Nat → Int → Prop := fun q _ => q = 178 ∨ q = T + 18
theorem c_ts_L4 {M0 : Mem} {T : Nat} {V : TV} {f A Nw : Int → Int} {J : Int → Int → Int} {yr v : Int} (hV : VOK V) (hK : FOK V) (hT : T = 2 ∨ T = 22) (hX : CTx M0 T V) (hm : MeR M0 V f A (V 0 3).toNat) (h4 : (M0.1 0 4).toNat = T) (hy : M0.1 62 3 = yr) (hJ : TbR M0 V J) (hN : ∀ x, Nw x = joyS V f A x yr) (hr : ∀ w, 0 ≤ w → w < V 0 2 → 0 ≤ J v w ∧ J v w ≤ 9999) (hv : 0 ≤ v ∧ v < vtV (V 0 2)) : ∀ (n w fu : Nat) (M : Mem), (w : Int) + (n : Int) = V 0 2 → n < fu → Fr (JtW T) M0 M → geS J Nw v w = true → ∃ N, t_WF_treatySum_L4 v fu M (suS J v w) (w : Int) = some (N, if geS J Nw v (V 0 2).toNat = true then suS J v (V 0 2).toNat else -2) ∧ Fr (JtW T) M0 N := by
  have hv1 := hV.1
  intro n
  induction n with
  | zero =>
    intro w fu M g0 g1 hF hg
    obtain ⟨g, rfl⟩ : ∃ g, fu = g + 1 := ⟨fu - 1, by omega⟩
    have e4 : M.1 0 4 = M0.1 0 4 := (hF 0 4 (by unfold JtW; omega)).1
    have e14 : M.1 T 14 = V 0 2 := ((hF T 14 (by unfold JtW; omega)).1).trans hX.1.1.2.2.1
    rw [t_WF_treatySum_L4, e4, h4, e14, if_pos (by omega), show (V 0 2).toNat = w by omega, if_pos hg]
    exact ⟨M, rfl, hF⟩
  | succ n ih =>
    intro w fu M g0 g1 hF hg
    obtain ⟨g, rfl⟩ : ∃ g, fu = g + 1 := ⟨fu - 1, by omega⟩
    have e4 : M.1 0 4 = M0.1 0 4 := (hF 0 4 (by unfold JtW; omega)).1
    have e62 : M.1 62 3 = yr := ((hF 62 3 (by unfold JtW; omega)).1).trans hy
    have e14 : M.1 T 14 = V 0 2 := ((hF T 14 (by unfold JtW; omega)).1).trans hX.1.1.2.2.1
    have XM : CTx M T V := hX.fr hF (fun k j a z => by unfold CxW at a; unfold JtW at z; omega)
    have mM : MeR M V f A (V 0 3).toNat := fun x a b => by
      rw [(hF 179 x (by unfold JtW; omega)).1, (hF 180 x (by unfold JtW; omega)).1, (hF 181 x (by unfold JtW; omega)).1]
      exact hm x a b
    have jM : TbR M V J := hJ.fr hF (fun q j a z => by unfold JtW at z; omega)
    obtain ⟨N, n1, n2⟩ := c_joyOf (yr := yr) hV hK hT XM mM (w := (w : Int)) ⟨by omega, by omega⟩
    have hs := suS_rng (B := V 0 2) hr w (by omega)
    have hw := hr (w : Int) (by omega) (by omega)
    rw [t_WF_treatySum_L4, e4, h4, e14, if_neg (by omega)]
    simp (config := { proj := false }) only [qlet]
    rw [c_joyBy hV jM (by omega) (by omega) hv.1 hv.2, e62, n1, obind_some]
    have fN : Fr (JtW T) M0 N := hF.trans n2
    have gs : geS J Nw v (w + 1) = decide (Nw (w : Int) ≤ J v (w : Int)) := by rw [geS, hg]; rfl
    show ∃ N', (if joyS V f A (w : Int) yr ≤ J v (w : Int) then t_WF_treatySum_L4 v g N (w32 (suS J v w + J v (w : Int))) (w32 ((w : Int) + 1)) else some (N, -2)) = _ ∧ _
    by_cases c : joyS V f A (w : Int) yr ≤ J v (w : Int)
    · rw [if_pos c, w32_id (x := suS J v w + J v (w : Int)) (by unfold InR; omega), w32_succ (by omega)]
      exact ih (w + 1) g N (by omega) (by omega) fN (by rw [gs, hN]; exact decide_eq_true c)
    · rw [if_neg c]
      have : geS J Nw v (V 0 2).toNat = false := geS_mono (n := w + 1) (by omega) (by rw [gs, hN]; exact decide_eq_false c)
      rw [this, if_neg (show ¬ (false = true) by decide)]
      exact ⟨N, rfl, fN⟩
theorem c_tr_L61 {M0 : Mem} {T : Nat} {V : TV} {f A Nw : Int → Int} {J : Int → Int → Int} {yr x1 : Int} (hV : VOK V) (hK : FOK V) (hT : T = 2 ∨ T = 22) (hX : CTx M0 T V) (hm : MeR M0 V f A (V 0 3).toNat) (h4 : (M0.1 0 4).toNat = T) (hy : M0.1 62 3 = yr) (hJ : TbR M0 V J) (hN : ∀ x, Nw x = joyS V f A x yr) (hr : ∀ v, 0 ≤ v → v < vtV (V 0 2) → ∀ w, 0 ≤ w → w < V 0 2 → 0 ≤ J v w ∧ J v w ≤ 9999) : ∀ (m fu : Nat) (M : Mem) (v best most : Int), v + (m : Int) = vtV (V 0 2) → 0 ≤ v → m < fu → (best = -1 ∨ 0 ≤ best) → 0 ≤ most → Fr (JtW T) M0 M → ∃ N, t_WF_treaty_L61 x1 fu M (if best = -1 then -2 else best) (if best = -1 then -2 else most) v = some (N, trS J Nw (V 0 2).toNat x1 m v best most) ∧ Fr (JtW T) M0 N := by
  have hv1 := hV.1
  have hvt := (vt_eq (n := V 0 2) (by omega) (by omega)).2
  intro m
  induction m with
  | zero =>
    intro fu M v best most g0 g1 g2 g3 g4 hF
    obtain ⟨g, rfl⟩ : ∃ g, fu = g + 1 := ⟨fu - 1, by omega⟩
    have jM : TbR M V J := hJ.fr hF (fun q j a z => by unfold JtW at z; omega)
    rw [t_WF_treaty_L61, jM.2.1, if_pos (by omega), trS]
    refine ⟨M, ?_, hF⟩
    by_cases b : best = -1
    · rw [if_pos b, if_pos b, if_pos b]
      by_cases a : x1 = 0
      · rw [if_pos a]
      · rw [if_neg a]
    · rw [if_neg b, if_neg b, if_neg b]
      by_cases a : x1 = 0
      · rw [if_pos a, if_pos a]
      · rw [if_neg a, if_neg a]
  | succ m ih =>
    intro fu M v best most g0 g1 g2 g3 g4 hF
    obtain ⟨g, rfl⟩ : ∃ g, fu = g + 1 := ⟨fu - 1, by omega⟩
    have jM : TbR M V J := hJ.fr hF (fun q j a z => by unfold JtW at z; omega)
    have XM : CTx M T V := hX.fr hF (fun k j a z => by unfold CxW at a; unfold JtW at z; omega)
    have mM : MeR M V f A (V 0 3).toNat := fun x a b => by
      rw [(hF 179 x (by unfold JtW; omega)).1, (hF 180 x (by unfold JtW; omega)).1, (hF 181 x (by unfold JtW; omega)).1]
      exact hm x a b
    have e4 : (M.1 0 4).toNat = T := by rw [(hF 0 4 (by unfold JtW; omega)).1]; exact h4
    have e62 : M.1 62 3 = yr := ((hF 62 3 (by unfold JtW; omega)).1).trans hy
    have hs := suS_rng (B := V 0 2) (hr v g1 (by omega)) (V 0 2).toNat (by omega)
    rw [t_WF_treaty_L61, jM.2.1, if_neg (by omega), c_isStay hV jM ⟨g1, by omega⟩, obind_some, trS]
    unfold t_WF_treaty_L96 t_WF_treaty_L110
    rw [w32_id (x := v + 1) (by unfold InR; omega)]
    have keep : ∀ P : Mem, Fr (JtW T) M0 P → ∃ N, t_WF_treaty_L61 x1 g P (if best = -1 then -2 else best) (if best = -1 then -2 else most) (v + 1) = some (N, trS J Nw (V 0 2).toNat x1 m (v + 1) best most) ∧ Fr (JtW T) M0 N := fun P hP => ih g P (v + 1) best most (by omega) (by omega) (by omega) g3 g4 hP
    have low : (-2 : Int) ≤ (if best = -1 then -2 else most) := by split <;> omega
    by_cases s : stS J v (V 0 2).toNat = true
    rotate_left
    · rw [if_neg s, if_pos rfl, if_pos low, if_neg (show ¬ (stS J v (V 0 2).toNat = true ∧ geS J Nw v (V 0 2).toNat = true ∧ (best = -1 ∨ most < suS J v (V 0 2).toNat)) from fun z => s z.1)]
      exact keep M hF
    rw [if_pos s, if_neg (show ¬ (1 : Int) = 0 by decide)]
    have ht : ∃ N, t_WF_treatySum M v = some (N, if geS J Nw v (V 0 2).toNat = true then suS J v (V 0 2).toNat else -2) ∧ Fr (JtW T) M N := c_ts_L4 hV hK hT XM mM e4 e62 jM hN (hr v g1 (by omega)) ⟨g1, by omega⟩ (V 0 2).toNat 0 FU M (by omega) (fu_big (by omega)) Fr.rf rfl
    obtain ⟨P, p1, p2⟩ := ht
    have hP := hF.trans p2
    rw [p1, obind_some]
    show ∃ N, (if (if geS J Nw v (V 0 2).toNat = true then suS J v (V 0 2).toNat else -2) ≤ (if best = -1 then -2 else most) then t_WF_treaty_L61 x1 g P (if best = -1 then -2 else best) (if best = -1 then -2 else most) (v + 1) else t_WF_treaty_L61 x1 g P v (if geS J Nw v (V 0 2).toNat = true then suS J v (V 0 2).toNat else -2) (v + 1)) = _ ∧ _
    by_cases e : geS J Nw v (V 0 2).toNat = true
    rotate_left
    · rw [if_neg e, if_pos low, if_neg (show ¬ (stS J v (V 0 2).toNat = true ∧ geS J Nw v (V 0 2).toNat = true ∧ (best = -1 ∨ most < suS J v (V 0 2).toNat)) from fun z => e z.2.1)]
      exact keep P hP
    rw [if_pos e]
    have new : ∃ N, t_WF_treaty_L61 x1 g P v (suS J v (V 0 2).toNat) (v + 1) = some (N, trS J Nw (V 0 2).toNat x1 m (v + 1) v (suS J v (V 0 2).toNat)) ∧ Fr (JtW T) M0 N := by
      have k := ih g P (v + 1) v (suS J v (V 0 2).toNat) (by omega) (by omega) (by omega) (Or.inr g1) hs.1 hP
      rw [if_neg (show ¬ v = -1 by omega), if_neg (show ¬ v = -1 by omega)] at k
      exact k
    by_cases b : best = -1
    · have k2 : ¬ suS J v (V 0 2).toNat ≤ (if best = -1 then -2 else most) := by rw [if_pos b]; omega
      rw [if_neg k2, if_pos (show stS J v (V 0 2).toNat = true ∧ geS J Nw v (V 0 2).toNat = true ∧ (best = -1 ∨ most < suS J v (V 0 2).toNat) from ⟨s, e, Or.inl b⟩)]
      exact new
    · by_cases c : suS J v (V 0 2).toNat ≤ most
      · have k2 : suS J v (V 0 2).toNat ≤ (if best = -1 then -2 else most) := by rw [if_neg b]; exact c
        rw [if_pos k2, if_neg (show ¬ (stS J v (V 0 2).toNat = true ∧ geS J Nw v (V 0 2).toNat = true ∧ (best = -1 ∨ most < suS J v (V 0 2).toNat)) from fun z => by rcases z.2.2 with q | q <;> omega)]
        exact keep P hP
      · have k2 : ¬ suS J v (V 0 2).toNat ≤ (if best = -1 then -2 else most) := by rw [if_neg b]; exact c
        rw [if_neg k2, if_pos (show stS J v (V 0 2).toNat = true ∧ geS J Nw v (V 0 2).toNat = true ∧ (best = -1 ∨ most < suS J v (V 0 2).toNat) from ⟨s, e, Or.inr (by omega)⟩)]
        exact new
theorem bs_treaty {M : Mem} (h : LI M) {x1 : Int} (h1 : InR x1) : Ok (fun q => Ok (fun r => q.2 = r.2 ∧ LI r.1) (t_MO_treaty q.1 x1)) (t_WF_treaty M x1) := by
  have h' := h
  have hTT := h.T
  obtain ⟨hI, ⟨V, hR, hX, hRL⟩, -⟩ := h
  have hV := hR.1.1
  have hv := hV.1
  have hK := hR.1.2.2.1
  have hvt := (vt_eq (n := V 0 2) (by omega) (by omega)).2
  have hS : CScF M 47 V (DN M 0) (AT M 0) (ST M 0) (LN M 0) (M.2 210 0) (M.2 211 0) (wlV V) := hRL.1
  obtain ⟨k1, -, -, -⟩ := hRL.2.1
  have fin : ∀ N : Mem, t_WF_treaty M x1 = some (N, treatyS V (jvM M V) (fun x => joyS V (nxR M 0 V) (AT M 0) x (M.1 207 0)) x1) → Fr QcW M N → (IM N → LI N) → Ok (fun q => Ok (fun r => q.2 = r.2 ∧ LI r.1) (t_MO_treaty q.1 x1)) (t_WF_treaty M x1) := by
    intro N hw hF hL
    obtain ⟨u, e, hu⟩ := sf_WF_treaty hI h1
    have : u = _ := Option.some.inj (e.symm.trans hw)
    subst this
    have hRN : RI N V := hR.fr hF (fun q j a z => by have := qc_ri z; have := ric_lo a; omega)
    obtain ⟨P, p1, p2⟩ := m_treaty hRN x1
    rw [jvM_fr (M := M) (N := N) hF (fun q j z y => by have := qc_ri y; omega), nxR_fr hF (fun k j x q => by have := qc_ri q; omega), AT_fr hF (fun j q => by have := qc_ri q; omega), (hF 207 0 (fun q => by have := qc_ri q; omega)).1] at p1
    have hIP := im_MO_treaty hu.1 h1 _ p1
    exact ⟨_, hw, _, p1, rfl, (hL hu.1).qm hIP.1 (p2.mono LJ0_qm)⟩
  by_cases z : 0 ≤ x1 ∧ x1 ≤ 1
  rotate_left
  · refine fin M ?_ Fr.rf (fun _ => h')
    unfold t_WF_treaty treatyS
    rw [if_neg z]
    by_cases a : x1 < 0
    · rw [if_pos a]
    rw [if_neg a, if_neg (show ¬ x1 ≤ 1 by omega)]
  obtain ⟨N, n1, n2, n3, n4⟩ := c_votes hI hTT.2 hR hX hRL
  have e4 : N.1 0 4 = M.1 0 4 := (n2 0 4 (by unfold QcW QkW; omega)).1
  have XN : CTx N (M.1 0 4).toNat V := hX.fr n2 (fun k j a z => by unfold CxW at a; unfold QcW QkW at z; omega)
  have SN : CScF N 47 V (DN M 0) (AT M 0) (ST M 0) (LN M 0) (M.2 210 0) (M.2 211 0) (wlV V) := hS.fr n2 (fun q j a z => by unfold CsW at a; unfold QcW QkW at z; omega)
  obtain ⟨N2, a1, a2, a3⟩ := c_measure hV hTT.2 (Or.inl rfl) ⟨XN.1, XN.2.1⟩ SN (fun t a b => hR.row0.2.1 t a b)
  have X2 : CTx N2 (M.1 0 4).toNat V := XN.fr a2 (fun k j a z => by unfold CxW at a; unfold MeW at z; omega)
  have t2 : TbR N2 V (jvM M V) := n4.fr a2 (fun q j a z => by unfold MeW at z; omega)
  have f42 : N2.1 0 4 = M.1 0 4 := ((a2 0 4 (by unfold MeW; omega)).1).trans e4
  have y2 : N2.1 62 3 = M.1 207 0 := ((a2 62 3 (by unfold MeW; omega)).1).trans (((n2 62 3 (by unfold QcW QkW; omega)).1).trans k1)
  obtain ⟨P, p1, p2⟩ := c_tr_L61 (M0 := N2) (x1 := x1) (J := jvM M V) (Nw := fun x => joyS V (nxR M 0 V) (AT M 0) x (M.1 207 0)) (f := nxR M 0 V) (A := AT M 0) (yr := M.1 207 0) hV hK hTT.2 X2 a3 (by rw [f42]) y2 t2 (fun x => rfl) (fun v a b w c d => joy_rng hV _ _ _ _) (vtV (V 0 2)).toNat FU N2 0 (-1) 0 (by omega) (by omega) (fu_big (by omega)) (Or.inl rfl) (by omega) Fr.rf
  have fNP : Fr QkW N P := (a2.mono (fun q j z => by unfold MeW at z; unfold QkW; omega)).trans (p2.mono (fun q j z => by unfold JtW at z; unfold QkW; omega))
  have fMP : Fr QcW M P := n2.trans (fNP.mono (fun q j z => Or.inl z))
  refine fin P ?_ fMP (fun hI2 => h'.votes hI2 fMP (((fNP 177 8 (by unfold QkW; omega)).1).trans n3) (fun U b1 b2 b3 => (c_votesU hI hTT.2 n1 U b1 b2 b3).fr fNP (fun q j a z => by unfold QkW at z; omega)))
  unfold t_WF_treaty treatyS
  rw [if_neg (show ¬ x1 < 0 by omega), if_pos z.2, if_pos z, n1, obind_some, e4, a1, obind_some]
  exact p1
end
