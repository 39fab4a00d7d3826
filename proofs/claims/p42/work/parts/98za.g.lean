section
/-! the reference's years, both sides -/
theorem pfst {α β : Type} (a : α) (b : β) : (a, b).1 = a := rfl
theorem psnd {α β : Type} (a : α) (b : β) : (a, b).2 = b := rfl
def YmW (y : Int) : Nat → Int → Prop := fun q j => ((q = 207 ∨ q = 209 ∨ q = 211) ∧ j = 0) ∨ (q = 212 ∧ 0 ≤ j ∧ j < 4) ∨ ((q = 216 ∨ q = 217 ∨ q = 218) ∧ y ≤ j ∧ j < 99)
theorem m_year {M : Mem} {V : TV} {s : YS} {nets : Int64} {y : Int} (h : RI M V) (hu : M.1 191 43 = 0) (hy : M.1 207 0 = y) (h0 : 0 ≤ y) (h1 : y < 99) (hd : M.1 209 0 = s.1) (hD : ∀ w, 0 ≤ w → w < V 0 2 → DN M 0 w = s.2.1 w) (hn : M.2 210 0 = nets) (hwt : M.2 211 0 = s.2.2) :
    ∃ N, (∀ (x1 : Int) (fu : Nat) (v : Int), v < x1 → 0 ≤ v → v < 1000 → t_MO_years_L41 x1 (fu + 1) M v = t_MO_years_L41 x1 fu N (v + 1)) ∧ RI N V ∧ N.1 191 43 = 0 ∧ N.1 207 0 = y + 1 ∧ N.1 209 0 = (yrS V nets (wlV V) s).1 ∧ (∀ w, 0 ≤ w → w < V 0 2 → DN N 0 w = (yrS V nets (wlV V) s).2.1 w) ∧ N.2 211 0 = (yrS V nets (wlV V) s).2.2 ∧ N.1 216 y = (yrE V s).1 ∧ N.1 217 y = (yrE V s).2.1 ∧ N.1 218 y = (yrE V s).2.2 ∧ Fr (YmW y) M N := by
  have hV := h.1.1
  have hv := hV.1
  obtain ⟨M16, e16⟩ : ∃ K, K = setI (setI (setI M 216 y (-2)) 217 y (-2)) 218 y (-2) := ⟨_, rfl⟩
  have f16 : Fr (fun q j => (q = 216 ∨ q = 217 ∨ q = 218) ∧ j = y) M M16 := by rw [e16]; exact ((Fr.rf.setI (by omega)).setI (by omega)).setI (by omega)
  have r16 : RI M16 V := h.fr f16 (fun k j a q => by unfold RIc at a; omega)
  have u16 : M16.1 191 43 = 0 := by rw [(f16 191 43 (by omega)).1]; exact hu
  have y16 : M16.1 207 0 = y := by rw [(f16 207 0 (by omega)).1]; exact hy
  have w16 : M16.1 193 2 = V 0 2 := r16.1.2.1.1.2.2.1
  have d16 : M16.1 209 0 = s.1 := by rw [(f16 209 0 (by omega)).1]; exact hd
  by_cases c : V 0 2 ≤ 0
  · have eS : yrS V nets (wlV V) s = s := if_pos c
    have eE : yrE V s = (-2, -2, -2) := if_pos c
    rw [eS, eE]
    have f17 : Fr (fun q j => q = 207 ∧ j = 0) M16 (setI M16 207 0 (y + 1)) := Fr.rf.setI ⟨rfl, rfl⟩
    have fA : Fr (fun q j => ((q = 216 ∨ q = 217 ∨ q = 218) ∧ j = y) ∨ (q = 207 ∧ j = 0)) M (setI M16 207 0 (y + 1)) := (f16.mono (fun q j z => Or.inl z)).trans (f17.mono (fun q j z => Or.inr z))
    refine ⟨setI M16 207 0 (y + 1), fun x1 fu v a b z => ?_, r16.set9 u16 (Or.inr ⟨rfl, by omega, by omega⟩), ?_, sI_self _ _ _ _, ?_, fun w a b => ?_, ?_, ?_, ?_, ?_, fA.mono (fun q j z => by unfold YmW; omega)⟩
    · rw [t_MO_years_L41, if_neg (by omega), hy]
      simp (config := { proj := false }) only [qlet]
      rw [qguard_pos ⟨h0, by omega⟩, qguard_pos ⟨h0, by omega⟩, qguard_pos ⟨h0, by omega⟩, ← e16, w16, if_pos c]
      unfold t_MO_years_L149
      simp (config := { proj := false }) only [qlet]
      rw [y16, w32_id (x := y + 1) (by unfold InR; omega), w32_id (x := v + 1) (by unfold InR; omega)]
    · rw [(f17 191 43 (by omega)).1]; exact u16
    · rw [(f17 209 0 (by omega)).1]; exact d16
    · omega
    · rw [(fA 211 0 (by omega)).2]; exact hwt
    · rw [(f17 216 y (by omega)).1, e16, sI_ne (by omega), sI_ne (by omega), sI_self]
    · rw [(f17 217 y (by omega)).1, e16, sI_ne (by omega), sI_self]
    · rw [(f17 218 y (by omega)).1, e16, sI_self]
  · have eS : yrS V nets (wlV V) s = (LC (LC s.1), upA s.2.1 (yrW V s.1) (yrN s.1), flS (nxV V (upA s.2.1 (yrW V s.1) (yrN s.1)) nets (wlV V)) s.2.2 (cellsV V).toNat) := if_neg c
    have eE : yrE V s = (yrW V s.1, yrN s.1, s.2.1 (yrW V s.1)) := if_neg c
    rw [eS, eE]
    have hw := yrW_rng hV c s.1
    have hN : 0 ≤ yrN s.1 ∧ yrN s.1 < 4 := by unfold yrN; omega
    have ew : LC s.1 / 65536 % V 0 2 = yrW V s.1 := rfl
    have en : LC (LC s.1) / 65536 % 4 = yrN s.1 := rfl
    generalize yrW V s.1 = w at *
    generalize yrN s.1 = n at *
    obtain ⟨K1, eK1⟩ : ∃ K, K = setI M16 209 0 (LC s.1) := ⟨_, rfl⟩
    have a1 : t_MO_draw M16 (V 0 2) = some (K1, w) := by rw [m_drawn d16 ⟨by omega, by omega⟩, ew, eK1]
    obtain ⟨M23, e23⟩ : ∃ K, K = setI K1 216 y w := ⟨_, rfl⟩
    obtain ⟨M27, e27⟩ : ∃ K, K = setI M23 218 y (s.2.1 w) := ⟨_, rfl⟩
    have f23 : Fr (fun q j => ((q = 216 ∨ q = 217 ∨ q = 218) ∧ j = y) ∨ (q = 209 ∧ j = 0)) M M23 := by rw [e23, eK1]; exact ((f16.mono (fun q j z => Or.inl z)).setI (by omega)).setI (by omega)
    have f27 : Fr (fun q j => ((q = 216 ∨ q = 217 ∨ q = 218) ∧ j = y) ∨ (q = 209 ∧ j = 0)) M M27 := by rw [e27]; exact f23.setI (by omega)
    have v23 : M23.1 212 w = s.2.1 w := by
      rw [(f23 212 w (by omega)).1, ← hD w hw.1 hw.2]
      unfold DN
      rw [show (4 : Int) * 0 + w = w by omega]
    have d27 : M27.1 209 0 = LC s.1 := by rw [e27, sI_ne (by omega), e23, sI_ne (by omega), eK1, sI_self]
    obtain ⟨K2, eK2⟩ : ∃ K, K = setI M27 209 0 (LC (LC s.1)) := ⟨_, rfl⟩
    have a2 : t_MO_draw M27 4 = some (K2, n) := by rw [m_drawn d27 ⟨by omega, by omega⟩, en, eK2]
    obtain ⟨M31, e31⟩ : ∃ K, K = setI K2 212 w n := ⟨_, rfl⟩
    have v31 : M31.1 212 w = n := by rw [e31]; exact sI_self _ _ _ _
    obtain ⟨M35, e35⟩ : ∃ K, K = setI M31 217 y n := ⟨_, rfl⟩
    have f35 : Fr (fun q j => ((q = 216 ∨ q = 217 ∨ q = 218) ∧ j = y) ∨ (q = 209 ∧ j = 0) ∨ (q = 212 ∧ j = w)) M M35 := by rw [e35, e31, eK2]; exact (((f27.mono (fun q j z => by omega)).setI (by omega)).setI (by omega)).setI (by omega)
    have rK1 : RI K1 V := by rw [eK1]; exact r16.set9 u16 (Or.inl ⟨rfl, LC_rng _⟩)
    have r27 : RI M27 V := by rw [e27, e23]; exact (rK1.scr (by omega)).scr (by omega)
    have u27 : M27.1 191 43 = 0 := by rw [(f27 191 43 (by omega)).1]; exact hu
    have rK2 : RI K2 V := by rw [eK2]; exact r27.set9 u27 (Or.inl ⟨rfl, LC_rng _⟩)
    have r35 : RI M35 V := by rw [e35, e31]; exact (rK2.down0 ⟨hw.1, by omega⟩ ⟨hN.1, by omega⟩).scr (by omega)
    have u35 : M35.1 191 43 = 0 := by rw [(f35 191 43 (by omega)).1]; exact hu
    have y35 : M35.1 207 0 = y := by rw [(f35 207 0 (by omega)).1]; exact hy
    have w35 : M35.1 212 w = n := by rw [e35, sI_ne (by omega)]; exact v31
    have D35 : ∀ x, 0 ≤ x → x < V 0 2 → DN M35 0 x = upA s.2.1 w n x := fun x a b => by
      by_cases e : x = w
      · rw [e, upA_self]; unfold DN; rw [show (4 : Int) * 0 + w = w by omega]; exact w35
      · rw [upA_ne _ e, ← hD x a b]; exact (f35 212 _ (by omega)).1
    obtain ⟨N4, n1, n2, n3, n4⟩ := r35.floods0
    have u4 : N4.1 191 43 = 0 := by rw [(n3 191 43 (by omega)).1]; exact u35
    have y4 : N4.1 207 0 = y := by rw [(n3 207 0 (by omega)).1]; exact y35
    have f5 : Fr (fun q j => q = 207 ∧ j = 0) N4 (setI N4 207 0 (y + 1)) := Fr.rf.setI ⟨rfl, rfl⟩
    have f45 : Fr (fun q j => (q = 211 ∨ q = 207) ∧ j = 0) M35 (setI N4 207 0 (y + 1)) := (n3.mono (fun q j z => by omega)).trans (f5.mono (fun q j z => by omega))
    refine ⟨setI N4 207 0 (y + 1), fun x1 fu v a b z => ?_, n4.set9 u4 (Or.inr ⟨rfl, by omega, by omega⟩), ?_, sI_self _ _ _ _, ?_, fun x a b => ?_, ?_, ?_, ?_, ?_, (f35.mono (fun q j z => by unfold YmW; omega)).trans (f45.mono (fun q j z => by unfold YmW; omega))⟩
    · have v23' : uI K1.1 216 y w 212 w = s.2.1 w := by rw [e23] at v23; exact v23
      have v31' : uI K2.1 212 w n 212 w = n := by rw [e31] at v31; exact v31
      rw [t_MO_years_L41, if_neg (by omega), hy]
      simp (config := { proj := false }) only [qlet]
      rw [qguard_pos ⟨h0, by omega⟩, qguard_pos ⟨h0, by omega⟩, qguard_pos ⟨h0, by omega⟩, ← e16, w16, if_neg c, a1, obind_some]
      simp (config := { proj := false }) only [pfst, psnd]
      rw [qguard_pos ⟨h0, by omega⟩, ← e23, qguard_pos ⟨hw.1, by omega⟩, qguard_pos ⟨h0, by omega⟩, v23', ← e27, a2, obind_some]
      simp (config := { proj := false }) only [pfst, psnd]
      rw [qguard_pos ⟨hw.1, by omega⟩, ← e31, qguard_pos ⟨hw.1, by omega⟩, qguard_pos ⟨h0, by omega⟩, v31', ← e35, n1, obind_some]
      unfold t_MO_years_L149
      simp (config := { proj := false }) only [qlet]
      rw [y4, w32_id (x := y + 1) (by unfold InR; omega), w32_id (x := v + 1) (by unfold InR; omega)]
    · rw [(f45 191 43 (by omega)).1]; exact u35
    · rw [(f45 209 0 (by omega)).1, e35, sI_ne (by omega), e31, sI_ne (by omega), eK2, sI_self]
    · exact Eq.trans (show DN (setI N4 207 0 (y + 1)) 0 x = DN M35 0 x from (f45 212 _ (by omega)).1) (D35 x a b)
    · rw [(f5 211 0 (by omega)).2, n2, (f35 211 0 (by omega)).2, hwt]
      unfold nxR
      rw [(f35 210 0 (by omega)).2, hn]
      exact fl_congr hV D35 _ _ _
    · rw [(f45 216 y (by omega)).1, e35, sI_ne (by omega), e31, sI_ne (by omega), eK2, sI_ne (by omega), e27, sI_ne (by omega), e23, sI_self]
    · rw [(f45 217 y (by omega)).1, e35, sI_self]
    · rw [(f45 218 y (by omega)).1, e35, sI_ne (by omega), e31, sI_ne (by omega), eK2, sI_ne (by omega), e27, sI_self]
theorem m_years_loop {x1 : Int} {V : TV} {nets : Int64} (h2 : x1 ≤ 99) : ∀ (n fu : Nat) (M : Mem) (s : YS) (v y : Int), v + (n : Int) = x1 → 0 ≤ v → n < fu → 0 ≤ y → y + (n : Int) ≤ 99 → RI M V → (0 < n → M.1 191 43 = 0) → M.1 207 0 = y → M.1 209 0 = s.1 → (∀ w, 0 ≤ w → w < V 0 2 → DN M 0 w = s.2.1 w) → M.2 210 0 = nets → M.2 211 0 = s.2.2 →
    ∃ N, t_MO_years_L41 x1 fu M v = some (N, y + (n : Int)) ∧ Fr (YmW y) M N ∧ N.1 207 0 = y + (n : Int) ∧ N.1 209 0 = (yrI V nets (wlV V) n s).1 ∧ (∀ w, 0 ≤ w → w < V 0 2 → DN N 0 w = (yrI V nets (wlV V) n s).2.1 w) ∧ N.2 211 0 = (yrI V nets (wlV V) n s).2.2 ∧ ∀ i : Nat, i < n → N.1 216 (y + (i : Int)) = (yrE V (yrI V nets (wlV V) i s)).1 ∧ N.1 217 (y + (i : Int)) = (yrE V (yrI V nets (wlV V) i s)).2.1 ∧ N.1 218 (y + (i : Int)) = (yrE V (yrI V nets (wlV V) i s)).2.2 := by
  intro n
  induction n with
  | zero =>
    intro fu M s v y g0 g1 g2 a1 a3 h hu hy hd hD hn hw
    obtain ⟨g, rfl⟩ : ∃ g, fu = g + 1 := ⟨fu - 1, by omega⟩
    rw [t_MO_years_L41, if_pos (by omega), hy]
    refine ⟨M, ?_, Fr.rf, by omega, hd, hD, hw, fun i hi => by omega⟩
    rw [show y + ((0 : Nat) : Int) = y by omega]
  | succ n ih =>
    intro fu M s v y g0 g1 g2 a1 a3 h hu hy hd hD hn hw
    obtain ⟨g, rfl⟩ : ∃ g, fu = g + 1 := ⟨fu - 1, by omega⟩
    obtain ⟨K, k1, k2, k3, k4, k5, k6, k7, k8, k9, k10, k11⟩ := m_year h (hu (by omega)) hy a1 (by omega) hd hD hn hw
    rw [k1 x1 g v (by omega) g1 (by omega)]
    have kn : K.2 210 0 = nets := by rw [(k11 210 0 (by unfold YmW; omega)).2]; exact hn
    obtain ⟨N, n1, n2, n3, n4, n5, n6, n7⟩ := ih g K (yrS V nets (wlV V) s) (v + 1) (y + 1) (by omega) (by omega) (by omega) (by omega) (by omega) k2 (fun _ => k3) k4 k5 k6 kn k7
    have ey : y + 1 + (n : Int) = y + ((n + 1 : Nat) : Int) := by omega
    rw [ey] at n1 n3
    refine ⟨N, n1, k11.trans (n2.mono (fun q j z => by unfold YmW at z ⊢; omega)), n3, n4, n5, n6, fun i hi => ?_⟩
    cases i with
    | zero =>
      have e0 : y + ((0 : Nat) : Int) = y := by omega
      rw [e0, (n2 216 y (by unfold YmW; omega)).1, (n2 217 y (by unfold YmW; omega)).1, (n2 218 y (by unfold YmW; omega)).1]
      exact ⟨k8, k9, k10⟩
    | succ i =>
      have e1 : y + ((i + 1 : Nat) : Int) = y + 1 + (i : Int) := by omega
      rw [e1]
      exact n7 i (by omega)
theorem bs_years {M : Mem} (h : LI M) {x1 : Int} (h1 : InR x1) : Ok (fun q => Ok (fun r => q.2 = r.2 ∧ LI r.1) (t_MO_years q.1 x1)) (t_WF_years M x1) := by
  have h' := h
  have hTT := h.T
  obtain ⟨hI, ⟨V, hR, hX, hRL⟩, -⟩ := h
  have hV := hR.1.1
  have hv := hV.1
  have hC := hV.cells
  have hS : CScF M 47 V (DN M 0) (AT M 0) (ST M 0) (LN M 0) (M.2 210 0) (M.2 211 0) (wlV V) := hRL.1
  obtain ⟨k1, k2, k3, k4⟩ := hRL.2.1
  have hy := hR.2.2.1.2
  have okC := sf_WF_years hI h1
  have q0 : ∀ j, j ≠ 0 → (setI M 191 0 0).1 191 j = M.1 191 j := fun j z => sI_ne (by omega)
  have q7 : (setI M 191 0 0).1 207 0 = M.1 207 0 := sI_ne (by omega)
  have same : ∀ v, t_WF_years M x1 = some (M, v) → t_MO_years M x1 = some (setI M 191 0 0, v) → Ok (fun q => Ok (fun r => q.2 = r.2 ∧ LI r.1) (t_MO_years q.1 x1)) (t_WF_years M x1) := fun v e1 e2 => ⟨_, e1, _, e2, rfl, h'.at0⟩
  by_cases c1 : x1 < 0
  · refine same (-1) ?_ ?_
    · unfold t_WF_years; rw [if_pos c1]
    · unfold t_MO_years; simp (config := { proj := false }) only [qlet]; rw [if_pos c1]
  by_cases c2 : 99 < x1
  · refine same (-1) ?_ ?_
    · unfold t_WF_years; rw [if_neg c1, if_pos c2]
    · unfold t_MO_years; simp (config := { proj := false }) only [qlet]; rw [if_neg c1, if_pos c2]
  have ew : w32 (M.1 207 0 + x1) = M.1 207 0 + x1 := w32_id (by unfold InR; omega)
  by_cases c3 : M.1 207 0 + x1 ≤ 99
  rotate_left
  · refine same (-1) ?_ ?_
    · unfold t_WF_years; rw [if_neg c1, if_neg c2, k1, ew, if_neg c3]
    · unfold t_MO_years; simp (config := { proj := false }) only [qlet]; rw [if_neg c1, if_neg c2, q7, ew, if_neg c3]
  by_cases c4 : x1 ≤ 0
  · obtain ⟨g, hg⟩ : ∃ g, FU = g + 1 := ⟨FU - 1, by have : 0 < FU := fu_big (by omega); omega⟩
    refine same (M.1 207 0) ?_ ?_
    · unfold t_WF_years; rw [if_neg c1, if_neg c2, k1, ew, if_pos c3, hg, t_WF_years_L28, if_pos c4, if_pos c4]
      unfold t_WF_years_L73
      rw [k1]
    · unfold t_MO_years t_MO_years_L39; simp (config := { proj := false }) only [qlet]; rw [if_neg c1, if_neg c2, q7, ew, if_pos c3, if_pos c4, hg, t_MO_years_L41, if_pos c4, q7]
  obtain ⟨n, hn⟩ : ∃ n : Nat, (n : Int) = x1 := ⟨x1.toNat, by omega⟩
  obtain ⟨y, ey⟩ : ∃ y, y = M.1 207 0 := ⟨_, rfl⟩
  obtain ⟨s, es⟩ : ∃ s : YS, s = (M.1 209 0, DN M 0, M.2 211 0) := ⟨_, rfl⟩
  have s1 : s.1 = M.1 209 0 := by rw [es]
  have s2 : s.2.1 = DN M 0 := by rw [es]
  have s3 : s.2.2 = M.2 211 0 := by rw [es]
  obtain ⟨N0, n1, n2, -, n4, n5, n6, n7⟩ := c_years_loop (T := (M.1 0 4).toNat) (x1 := x1) hV hTT.2 ⟨hX.1, hX.2.1⟩ rfl (by omega) n FU M s 0 y y (by omega) (by omega) (fu_big (by omega)) (by omega) (by omega) (by omega) Fr.rf (by rw [s2, s3]; exact hS) (by rw [s1]; omega) (by rw [s1]; exact k3) (by rw [ey]; exact k1)
  have hw : t_WF_years M x1 = some (setI (setI N0 70 2 0) 177 8 0, y + (n : Int)) := by
    unfold t_WF_years
    rw [if_neg c1, if_neg c2, k1, ew, if_pos c3, n1]
    unfold yeE
    rw [if_neg c4, sI_ne (by omega), sI_ne (by omega), n6]
  have f3 : Fr (fun q j => (q = 70 ∧ j = 2) ∨ (q = 177 ∧ j = 8)) N0 (setI (setI N0 70 2 0) 177 8 0) := (Fr.rf.setI (by omega)).setI (by omega)
  have v2 : (setI (setI N0 70 2 0) 177 8 0).1 70 2 = 0 := by rw [sI_ne (by omega), sI_self]
  have v8 : (setI (setI N0 70 2 0) 177 8 0).1 177 8 = 0 := sI_self _ _ _ _
  have n4' := n4.fr f3 (fun q j z x => by unfold CsW at z; omega)
  have n5' : (setI (setI N0 70 2 0) 177 8 0).2 62 5 = q_i2l (yrI V (M.2 210 0) (wlV V) n s).1 := n5
  have n6' : (setI (setI N0 70 2 0) 177 8 0).1 62 3 = y + (n : Int) := by rw [(f3 62 3 (by omega)).1]; exact n6
  have n7' : ∀ i : Nat, i < n → (setI (setI N0 70 2 0) 177 8 0).1 63 (y + (i : Int)) = (yrE V (yrI V (M.2 210 0) (wlV V) i s)).1 ∧ (setI (setI N0 70 2 0) 177 8 0).1 64 (y + (i : Int)) = (yrE V (yrI V (M.2 210 0) (wlV V) i s)).2.1 ∧ (setI (setI N0 70 2 0) 177 8 0).1 65 (y + (i : Int)) = (yrE V (yrI V (M.2 210 0) (wlV V) i s)).2.2 := fun i hi => by
    rw [(f3 63 _ (by omega)).1, (f3 64 _ (by omega)).1, (f3 65 _ (by omega)).1]; exact n7 i hi
  have fN : Fr (fun q j => YcW y q j ∨ (q = 70 ∧ j = 2) ∨ (q = 177 ∧ j = 8)) M (setI (setI N0 70 2 0) 177 8 0) := (n2.mono (fun q j z => Or.inl z)).trans (f3.mono (fun q j z => Or.inr z))
  generalize setI (setI N0 70 2 0) 177 8 0 = N at *
  obtain ⟨u, e, hu⟩ := okC
  have : u = (N, y + (n : Int)) := Option.some.inj (e.symm.trans hw)
  subst this
  have hIN : IM N := hu.1
  have hRN : RI N V := hR.fr fN (fun q j a z => by unfold RIc at a; unfold YcW at z; omega)
  have eN : ∀ q j, 191 ≤ q → N.1 q j = M.1 q j ∧ N.2 q j = M.2 q j := fun q j x => fN q j (by unfold YcW; omega)
  obtain ⟨P, p0, p1⟩ := ri_years hRN x1
  have hIP := im_MO_years hIN h1 P p0
  refine ⟨(N, y + (n : Int)), hw, P, p0, ?_⟩
  have hRM5 : RI (setI (setI N 191 0 0) 191 43 0) V := (hRN.set0 0).no_undo
  have f5 : Fr (fun q j => q = 191 ∧ (j = 0 ∨ j = 43)) N (setI (setI N 191 0 0) 191 43 0) := (Fr.rf.setI (by omega)).setI (by omega)
  have e5 : ∀ q j, 192 ≤ q → (setI (setI N 191 0 0) 191 43 0).1 q j = M.1 q j ∧ (setI (setI N 191 0 0) 191 43 0).2 q j = M.2 q j := fun q j x => ⟨((f5 q j (by omega)).1).trans (eN q j (by omega)).1, ((f5 q j (by omega)).2).trans (eN q j (by omega)).2⟩
  have v43 : (setI (setI N 191 0 0) 191 43 0).1 191 43 = 0 := sI_self _ _ _ _
  obtain ⟨Q, b1, b2, b3, b4, b5, b6, b7⟩ := m_years_loop (V := V) (nets := M.2 210 0) (x1 := x1) (by omega) n FU (setI (setI N 191 0 0) 191 43 0) s 0 y (by omega) (by omega) (fu_big (by omega)) (by omega) (by omega) hRM5 (fun _ => v43) (by rw [(e5 207 0 (by omega)).1, ey]) (by rw [(e5 209 0 (by omega)).1, s1]) (fun w a b => by rw [s2]; exact (e5 212 _ (by omega)).1) (e5 210 0 (by omega)).2 (by rw [s3]; exact (e5 211 0 (by omega)).2)
  have r7 : (setI N 191 0 0).1 207 0 = M.1 207 0 := by rw [sI_ne (by omega)]; exact (eN 207 0 (by omega)).1
  have q1 : t_MO_years N x1 = some (Q, y + (n : Int)) := by
    unfold t_MO_years t_MO_years_L39
    simp (config := { proj := false }) only [qlet]
    rw [if_neg c1, if_neg c2, r7, ew, if_pos c3, if_neg c4]
    exact b1
  have ePQ : P = (Q, y + (n : Int)) := Option.some.inj (p0.symm.trans q1)
  subst ePQ
  have fP : Fr (fun q j => (q = 191 ∧ (j = 0 ∨ j = 43)) ∨ YmW y q j) N Q := (f5.mono (fun q j z => Or.inl z)).trans (b2.mono (fun q j z => Or.inr z))
  have fA : Fr (fun q j => (YcW y q j ∨ (q = 70 ∧ j = 2) ∨ (q = 177 ∧ j = 8)) ∨ ((q = 191 ∧ (j = 0 ∨ j = 43)) ∨ YmW y q j)) M Q := (fN.mono (fun q j z => Or.inl z)).trans (fP.mono (fun q j z => Or.inr z))
  have u43 : Q.1 191 43 = 0 := by rw [(b2 191 43 (by unfold YmW; omega)).1]; exact v43
  have hy0 : 0 ≤ y := by omega
  refine ⟨rfl, h'.two hX hIP.1 p1 ⟨?_, ?_, ?_, ?_, ?_, ?_⟩ (fA.mono (fun q j z => by unfold YcW YmW at z; unfold KpA; omega))⟩
  · have k := n4'.fr fP (fun q j z x => by unfold CsW at z; unfold YmW at x; omega)
    exact k.eq (fun w a b => (b5 w a b).symm) (fun t a b => ⟨((fA 213 _ (fun x => by unfold YcW YmW at x; omega)).1).symm, ((fA 214 _ (fun x => by unfold YcW YmW at x; omega)).1).symm, ((fA 215 _ (fun x => by unfold YcW YmW at x; omega)).1).symm⟩) ((fA 210 0 (fun x => by unfold YcW YmW at x; omega)).2).symm b6.symm
  · refine ⟨?_, ?_, ?_, fun z a b => ?_⟩
    · rw [(fP 62 3 (fun x => by unfold YmW at x; omega)).1, n6', b3]
    · rw [(fA 62 4 (fun x => by unfold YcW YmW at x; omega)).1, (fA 208 0 (fun x => by unfold YcW YmW at x; omega)).1]; exact k2
    · rw [(fP 62 5 (fun x => by unfold YmW at x; omega)).2, n5', b4]
    · rw [b3] at b
      rw [show (100 : Int) * 0 + z = z by omega]
      by_cases e : z < y
      · have k := k4 z a (by omega)
        rw [show (100 : Int) * 0 + z = z by omega] at k
        rw [(fA (62 + 1) z (fun x => by unfold YcW YmW at x; omega)).1, (fA (62 + 2) z (fun x => by unfold YcW YmW at x; omega)).1, (fA (62 + 3) z (fun x => by unfold YcW YmW at x; omega)).1, (fA 216 z (fun x => by unfold YcW YmW at x; omega)).1, (fA 217 z (fun x => by unfold YcW YmW at x; omega)).1, (fA 218 z (fun x => by unfold YcW YmW at x; omega)).1]
        exact k
      · obtain ⟨i, hi⟩ : ∃ i : Nat, z = y + (i : Int) := ⟨(z - y).toNat, by omega⟩
        subst hi
        have t := n7' i (by omega)
        have t2 := b7 i (by omega)
        rw [(fP (62 + 1) _ (fun x => by unfold YmW at x; omega)).1, (fP (62 + 2) _ (fun x => by unfold YmW at x; omega)).1, (fP (62 + 3) _ (fun x => by unfold YmW at x; omega)).1, t2.1, t2.2.1, t2.2.2]
        exact t
  · refine past_none ?_ ?_ u43
    · rw [(fP 70 2 (fun x => by unfold YmW at x; omega)).1]; exact v2
    · rw [(fA 70 1 (fun x => by unfold YcW YmW at x; omega)).1]; exact hRL.2.2.1.2.1
  · exact hRL.2.2.2.1.fr hV hR.yr.2 fA (fun q j z x => by unfold CsW RwW ChW RgR at z; unfold YcW YmW at x; omega)
  · exact hRL.2.2.2.2.1.fr fA (fun q j z x => by unfold YcW YmW at x; omega)
  · exact CaR.zero (((fP 177 8 (fun x => by unfold YmW at x; omega)).1).trans v8)
end
section
/-! ===== notes ===== -/
theorem RL.notes {W : Nat → Int → Prop} {M N : Mem} {V : TV} (hV : VOK V) (hy : M.1 207 0 ≤ 99 ∧ (M.1 191 42 = 1 → M.1 207 2 ≤ 99)) (h : RL M V) (hF : Fr W M N) (hd : ∀ q j, W q j → q = 172 ∨ (173 ≤ q ∧ q ≤ 175) ∨ (q = 191 ∧ (j = 0 ∨ j = 60 ∨ j = 61)) ∨ (226 ≤ q ∧ q ≤ 228)) (hn : NoR N) : RL N V := by
  obtain ⟨r1, r2, r3, r4, r5, r6⟩ := h
  refine ⟨r1.fr hV hF (fun q j z y => ?_), r2.fr hy.1 hF (fun q j z y => ?_), r3.fr hV hF (fun q j z y => ?_), r4.fr hV hy.2 hF (fun q j z y => ?_), hn, r6.fr hV hF (fun q j z y => ?_)⟩
  · have := hd q j y; unfold CsW RwW at z; omega
  · have := hd q j y; unfold ChW RgR at z; omega
  · have := hd q j y; omega
  · have := hd q j y; unfold CsW RwW ChW RgR at z; omega
  · have := hd q j y; unfold RwW at z; omega
def NaW (k : Int) : Nat → Int → Prop := fun q j => ((q = 173 ∨ q = 174 ∨ q = 175) ∧ j = k) ∨ (q = 172 ∧ j = 5)
def NbW (k : Int) : Nat → Int → Prop := fun q j => ((q = 226 ∨ q = 227 ∨ q = 228) ∧ j = k) ∨ (q = 191 ∧ (j = 0 ∨ j = 60))
theorem c_add {M : Mem} {k : Int} (hk : M.1 172 5 = k) (h0 : 0 ≤ k) (h1 : k < 24) (a b c : Int) : ∃ N, t_Notes_add M a b c = (N, k) ∧ Fr (NaW k) M N ∧ N.1 172 5 = k + 1 ∧ N.1 173 k = a ∧ N.1 174 k = b ∧ N.1 175 k = c := by
  have p1 : t_WF_put M 173 24 (M.1 172 5) a = setI M 173 k a := by rw [hk]; exact put_in h0 (by omega)
  have g1 : (setI M 173 k a).1 172 5 = k := by rw [sI_ne (by omega)]; exact hk
  have p2 : t_WF_put (setI M 173 k a) 174 24 ((setI M 173 k a).1 172 5) b = setI (setI M 173 k a) 174 k b := by rw [g1]; exact put_in h0 (by omega)
  have g2 : (setI (setI M 173 k a) 174 k b).1 172 5 = k := by rw [sI_ne (by omega)]; exact g1
  have p3 : t_WF_put (setI (setI M 173 k a) 174 k b) 175 24 ((setI (setI M 173 k a) 174 k b).1 172 5) c = setI (setI (setI M 173 k a) 174 k b) 175 k c := by rw [g2]; exact put_in h0 (by omega)
  have g3 : (setI (setI (setI M 173 k a) 174 k b) 175 k c).1 172 5 = k := by rw [sI_ne (by omega)]; exact g2
  refine ⟨setI (setI (setI (setI M 173 k a) 174 k b) 175 k c) 172 5 (k + 1), ?_, (((Fr.rf.setI (by unfold NaW; omega)).setI (by unfold NaW; omega)).setI (by unfold NaW; omega)).setI (by unfold NaW; omega), sI_self _ _ _ _, ?_, ?_, ?_⟩
  · unfold t_Notes_add
    simp (config := { proj := false }) only [qlet]
    rw [p1, p2, p3, g3, w32_id (x := k + 1) (by unfold InR; omega), sI_self, w32_id (x := k + 1 - 1) (by unfold InR; omega), hk, if_pos h1, show k + 1 - 1 = k by omega]
  · rw [sI_ne (by omega), sI_ne (by omega), sI_ne (by omega), sI_self]
  · rw [sI_ne (by omega), sI_ne (by omega), sI_self]
  · rw [sI_ne (by omega), sI_self]
theorem c_add_full {M : Mem} (hk : M.1 172 5 = 24) (a b c : Int) : t_Notes_add M a b c = (M, -1) := by
  unfold t_Notes_add
  rw [hk, if_neg (by decide)]
theorem no_add {M Q : Mem} {k : Int} {W : Nat → Int → Prop} (h : NoR M) (hk : M.1 191 60 = k) (fA : Fr W M Q) (hd : ∀ q j, W q j → NaW k q j ∨ NbW k q j) (e1 : Q.1 172 5 = k + 1) (e2 : Q.1 191 60 = k + 1) (e3 : (Q.1 228 k = 0 ∧ Q.1 173 k = Q.1 226 k ∧ Q.1 174 k = Q.1 227 k ∧ Q.1 175 k = -1) ∨ (Q.1 228 k = 1 ∧ Q.1 175 k = Q.1 226 k ∧ Q.1 174 k = -1 ∧ Q.1 173 k = -1)) : NoR Q := by
  have e : ∀ q j, ¬ (NaW k q j ∨ NbW k q j) → Q.1 q j = M.1 q j := fun q j z => (fA q j (fun y => z (hd q j y))).1
  refine ⟨by omega, ?_, fun i a b => ?_⟩
  · rw [e 172 6 (by unfold NaW NbW; omega), e 191 61 (by unfold NaW NbW; omega)]; exact h.2.1
  · by_cases z : i = k
    · rw [z]; exact e3
    · rw [e2] at b
      rw [e 173 i (by unfold NaW NbW; omega), e 174 i (by unfold NaW NbW; omega), e 175 i (by unfold NaW NbW; omega), e 226 i (by unfold NaW NbW; omega), e 227 i (by unfold NaW NbW; omega), e 228 i (by unfold NaW NbW; omega)]
      exact h.2.2 i a (by omega)
theorem bs_note {M : Mem} (h : LI M) {x1 x2 : Int} (h1 : InR x1) (h2 : InR x2) : Ok (fun r => (t_WF_note M x1 x2).2 = r.2 ∧ LI r.1) (t_MO_note (t_WF_note M x1 x2).1 x1 x2) := by
  have h' := h
  obtain ⟨hI, ⟨V, hR, hX, hRL⟩, -⟩ := h
  have hV := hR.1.1
  have hv := hV.1
  have hS : CScF M 47 V (DN M 0) (AT M 0) (ST M 0) (LN M 0) (M.2 210 0) (M.2 211 0) (wlV V) := hRL.1
  have hNo := hRL.2.2.2.2.1
  have hOK := hR.2.2.2.2.2
  have hIC := (sf_WF_note hI h1 h2).1
  have same : t_WF_note M x1 x2 = (M, -1) → t_MO_note M x1 x2 = some (setI M 191 0 0, -1) → Ok (fun r => (t_WF_note M x1 x2).2 = r.2 ∧ LI r.1) (t_MO_note (t_WF_note M x1 x2).1 x1 x2) := fun e1 e2 => by
    rw [e1]; exact ⟨_, e2, rfl, h'.at0⟩
  have hw : opV V x1 → (x2 = -1 ∨ opV V x2) → t_WF_note M x1 x2 = t_Notes_add M x1 x2 (-1) := fun o1 o2 => by
    unfold t_WF_note t_WF_note_L23
    simp (config := { proj := false }) only [qlet]
    rw [c_isFree hV hX hS, if_pos o1, if_neg (show ¬ (1 : Int) = 0 by decide)]
    by_cases z : x2 = -1
    · rw [if_pos z]
    · rw [if_neg z, c_isFree hV hX hS, if_pos (o2.resolve_left z), if_neg (show ¬ (1 : Int) = 0 by decide)]
  have hm : ∀ N : Mem, RI N V → opV V x1 → (x2 = -1 ∨ opV V x2) → t_MO_note N x1 x2 = t_MO_note_L26 x1 x2 (setI N 191 0 0) := fun N hN o1 o2 => by
    unfold t_MO_note
    simp (config := { proj := false }) only [qlet]
    rw [m_open01 (hN.set0 0).1.2.1 hV, if_pos o1, obind_some, if_neg (show ¬ (1 : Int) = 0 by decide)]
    by_cases z : x2 = -1
    · rw [if_pos z]
    · rw [if_neg z, m_open01 (hN.set0 0).1.2.1 hV, if_pos (o2.resolve_left z), obind_some, if_neg (show ¬ (1 : Int) = 0 by decide)]
  by_cases c1 : opV V x1
  rotate_left
  · refine same ?_ ?_
    · unfold t_WF_note
      simp (config := { proj := false }) only [qlet]
      rw [c_isFree hV hX hS, if_neg c1, if_pos rfl]
    · unfold t_MO_note
      simp (config := { proj := false }) only [qlet]
      rw [m_open01 (hR.set0 0).1.2.1 hV, if_neg c1, obind_some, if_pos rfl]
  by_cases c2 : x2 = -1 ∨ opV V x2
  rotate_left
  · have z : ¬ x2 = -1 := fun z => c2 (Or.inl z)
    have o : ¬ opV V x2 := fun z => c2 (Or.inr z)
    refine same ?_ ?_
    · unfold t_WF_note
      simp (config := { proj := false }) only [qlet]
      rw [c_isFree hV hX hS, if_pos c1, if_neg (show ¬ (1 : Int) = 0 by decide), if_neg z, c_isFree hV hX hS, if_neg o, if_pos rfl]
    · unfold t_MO_note
      simp (config := { proj := false }) only [qlet]
      rw [m_open01 (hR.set0 0).1.2.1 hV, if_pos c1, obind_some, if_neg (show ¬ (1 : Int) = 0 by decide), if_neg z, m_open01 (hR.set0 0).1.2.1 hV, if_neg o, obind_some, if_pos rfl]
  obtain ⟨k, hk⟩ : ∃ k, M.1 191 60 = k := ⟨_, rfl⟩
  have hk5 : M.1 172 5 = k := hNo.1.trans hk
  have hkr : 0 ≤ k ∧ k ≤ 24 := by rw [← hk]; exact ⟨hOK.1, hOK.2.1⟩
  by_cases c3 : k = 24
  · refine same ?_ ?_
    · rw [hw c1 c2]; exact c_add_full (by omega) _ _ _
    · rw [hm M hR c1 c2]
      unfold t_MO_note_L26
      have : (setI M 191 0 0).1 191 60 = 24 := by rw [sI_ne (by omega)]; omega
      rw [if_pos this]
  obtain ⟨N, n1, n2, n3, n4, n5, n6⟩ := c_add hk5 hkr.1 (by omega) x1 x2 (-1)
  rw [hw c1 c2, n1] at hIC ⊢
  have hRN : RI N V := hR.fr n2 (fun q j a z => by unfold RIc at a; unfold NaW at z; omega)
  obtain ⟨P, p0, p1⟩ := ri_note hRN x1 x2
  have hIP := im_MO_note hIC h1 h2 P p0
  have e60 : (setI N 191 0 0).1 191 60 = k := by rw [sI_ne (by omega), (n2 191 60 (by unfold NaW; omega)).1]; exact hk
  have hmo : ∃ Q, t_MO_note N x1 x2 = some (Q, k) ∧ Fr (NbW k) N Q ∧ Q.1 191 60 = k + 1 ∧ Q.1 226 k = x1 ∧ Q.1 227 k = x2 ∧ Q.1 228 k = 0 := by
    have f0 : Fr (NbW k) N (setI N 191 0 0) := Fr.rf.setI (by unfold NbW; omega)
    rw [hm N hRN c1 c2]
    generalize setI N 191 0 0 = N0 at *
    have g1 : (setI N0 226 k x1).1 191 60 = k := by rw [sI_ne (by omega)]; exact e60
    have g2 : (setI (setI N0 226 k x1) 227 k x2).1 191 60 = k := by rw [sI_ne (by omega)]; exact g1
    have g3 : (setI (setI (setI N0 226 k x1) 227 k x2) 228 k 0).1 191 60 = k := by rw [sI_ne (by omega)]; exact g2
    refine ⟨setI (setI (setI (setI N0 226 k x1) 227 k x2) 228 k 0) 191 60 (k + 1), ?_, (((f0.setI (by unfold NbW; omega)).setI (by unfold NbW; omega)).setI (by unfold NbW; omega)).setI (by unfold NbW; omega), sI_self _ _ _ _, ?_, ?_, ?_⟩
    · unfold t_MO_note_L26
      simp (config := { proj := false }) only [qlet]
      rw [e60, if_neg c3, qguard_pos ⟨hkr.1, by omega⟩, g1, qguard_pos ⟨hkr.1, by omega⟩, g2, qguard_pos ⟨hkr.1, by omega⟩, g3, w32_id (x := k + 1) (by unfold InR; omega), sI_self, w32_id (x := k + 1 - 1) (by unfold InR; omega), show k + 1 - 1 = k by omega]
    · rw [sI_ne (by omega), sI_ne (by omega), sI_ne (by omega), sI_self]
    · rw [sI_ne (by omega), sI_ne (by omega), sI_self]
    · rw [sI_ne (by omega), sI_self]
  obtain ⟨Q, q1, q2, q3, q4, q5, q6⟩ := hmo
  have ePQ : P = (Q, k) := Option.some.inj (p0.symm.trans q1)
  subst ePQ
  refine ⟨(Q, k), p0, rfl, ?_⟩
  have fA : Fr (fun q j => NaW k q j ∨ NbW k q j) M Q := (n2.mono (fun q j z => Or.inl z)).trans (q2.mono (fun q j z => Or.inr z))
  have eQ : ∀ q j, q ≤ 175 → Q.1 q j = N.1 q j := fun q j x => (q2 q j (by unfold NbW; omega)).1
  refine h'.two hX hIP.1 p1 (hRL.notes hV hR.yr fA (fun q j z => by unfold NaW NbW at z; omega) (no_add hNo hk fA (fun q j z => z) ?_ q3 (Or.inl ⟨q6, ?_, ?_, ?_⟩))) (fA.mono (fun q j z => by unfold NaW NbW at z; unfold KpA; omega))
  · rw [eQ 172 5 (by omega)]; exact n3
  · rw [eQ 173 k (by omega), n4, q4]
  · rw [eQ 174 k (by omega), n5, q5]
  · rw [eQ 175 k (by omega)]; exact n6
theorem bs_strike {M : Mem} (h : LI M) {x1 : Int} (h1 : InR x1) : Ok (fun r => (t_WF_strike M x1).2 = r.2 ∧ LI r.1) (t_MO_strike (t_WF_strike M x1).1 x1) := by
  have h' := h
  obtain ⟨hI, ⟨V, hR, hX, hRL⟩, -⟩ := h
  have hV := hR.1.1
  have hv := hV.1
  have hNo := hRL.2.2.2.2.1
  have hOK := hR.2.2.2.2.2
  have hIC := (sf_WF_strike hI h1).1
  have same : t_WF_strike M x1 = (M, -1) → t_MO_strike M x1 = some (setI M 191 0 0, -1) → Ok (fun r => (t_WF_strike M x1).2 = r.2 ∧ LI r.1) (t_MO_strike (t_WF_strike M x1).1 x1) := fun e1 e2 => by
    rw [e1]; exact ⟨_, e2, rfl, h'.at0⟩
  obtain ⟨k, hk⟩ : ∃ k, M.1 191 60 = k := ⟨_, rfl⟩
  have hk5 : M.1 172 5 = k := hNo.1.trans hk
  have hkr : 0 ≤ k ∧ k ≤ 24 := by rw [← hk]; exact ⟨hOK.1, hOK.2.1⟩
  have e60M : (setI M 191 0 0).1 191 60 = k := by rw [sI_ne (by omega)]; exact hk
  by_cases c1 : x1 < 0
  · refine same ?_ ?_
    · unfold t_WF_strike; rw [if_pos c1]
    · unfold t_MO_strike; simp (config := { proj := false }) only [qlet]; rw [if_pos c1]
  by_cases c2 : x1 < k
  rotate_left
  · refine same ?_ ?_
    · unfold t_WF_strike; rw [hk5, if_neg c1, if_neg c2]
    · unfold t_MO_strike; simp (config := { proj := false }) only [qlet]; rw [e60M, if_neg c1, if_pos (show k ≤ x1 by omega)]
  have hw : t_WF_strike M x1 = t_Notes_add M (-1) (-1) x1 := by
    unfold t_WF_strike
    simp (config := { proj := false }) only [qlet]
    rw [hk5, if_neg c1, if_pos c2]
  by_cases c3 : k = 24
  · refine same ?_ ?_
    · rw [hw]; exact c_add_full (by omega) _ _ _
    · unfold t_MO_strike; simp (config := { proj := false }) only [qlet]; rw [e60M, if_neg c1, if_neg (show ¬ k ≤ x1 by omega), if_pos c3]
  obtain ⟨N, n1, n2, n3, n4, n5, n6⟩ := c_add hk5 hkr.1 (by omega) (-1) (-1) x1
  rw [hw, n1] at hIC ⊢
  have hRN : RI N V := hR.fr n2 (fun q j a z => by unfold RIc at a; unfold NaW at z; omega)
  obtain ⟨P, p0, p1⟩ := ri_strike hRN x1
  have hIP := im_MO_strike hIC h1 P p0
  have e60 : (setI N 191 0 0).1 191 60 = k := by rw [sI_ne (by omega), (n2 191 60 (by unfold NaW; omega)).1]; exact hk
  have hmo : ∃ Q, t_MO_strike N x1 = some (Q, k) ∧ Fr (NbW k) N Q ∧ Q.1 191 60 = k + 1 ∧ Q.1 226 k = x1 ∧ Q.1 228 k = 1 := by
    have f0 : Fr (NbW k) N (setI N 191 0 0) := Fr.rf.setI (by unfold NbW; omega)
    unfold t_MO_strike
    simp (config := { proj := false }) only [qlet]
    generalize setI N 191 0 0 = N0 at *
    have g1 : (setI N0 226 k x1).1 191 60 = k := by rw [sI_ne (by omega)]; exact e60
    have g2 : (setI (setI N0 226 k x1) 228 k 1).1 191 60 = k := by rw [sI_ne (by omega)]; exact g1
    refine ⟨setI (setI (setI N0 226 k x1) 228 k 1) 191 60 (k + 1), ?_, ((f0.setI (by unfold NbW; omega)).setI (by unfold NbW; omega)).setI (by unfold NbW; omega), sI_self _ _ _ _, ?_, ?_⟩
    · rw [e60, if_neg c1, if_neg (show ¬ k ≤ x1 by omega), if_neg c3, qguard_pos ⟨hkr.1, by omega⟩, g1, qguard_pos ⟨hkr.1, by omega⟩, g2, w32_id (x := k + 1) (by unfold InR; omega), sI_self, w32_id (x := k + 1 - 1) (by unfold InR; omega), show k + 1 - 1 = k by omega]
    · rw [sI_ne (by omega), sI_ne (by omega), sI_self]
    · rw [sI_ne (by omega), sI_self]
  obtain ⟨Q, q1, q2, q3, q4, q6⟩ := hmo
  have ePQ : P = (Q, k) := Option.some.inj (p0.symm.trans q1)
  subst ePQ
  refine ⟨(Q, k), p0, rfl, ?_⟩
  have fA : Fr (fun q j => NaW k q j ∨ NbW k q j) M Q := (n2.mono (fun q j z => Or.inl z)).trans (q2.mono (fun q j z => Or.inr z))
  have eQ : ∀ q j, q ≤ 175 → Q.1 q j = N.1 q j := fun q j x => (q2 q j (by unfold NbW; omega)).1
  refine h'.two hX hIP.1 p1 (hRL.notes hV hR.yr fA (fun q j z => by unfold NaW NbW at z; omega) (no_add hNo hk fA (fun q j z => z) ?_ q3 (Or.inr ⟨q6, ?_, ?_, ?_⟩))) (fA.mono (fun q j z => by unfold NaW NbW at z; unfold KpA; omega))
  · rw [eQ 172 5 (by omega)]; exact n3
  · rw [eQ 175 k (by omega), n6, q4]
  · rw [eQ 174 k (by omega)]; exact n5
  · rw [eQ 173 k (by omega)]; exact n4
theorem bs_known {M : Mem} (h : LI M) {x1 : Int} (h1 : InR x1) : (t_WF_known M x1).2 = (t_MO_known (t_WF_known M x1).1 x1).2 ∧ LI (t_MO_known (t_WF_known M x1).1 x1).1 := by
  have h' := h
  obtain ⟨hI, ⟨V, hR, hX, hRL⟩, -⟩ := h
  have hV := hR.1.1
  have hNo := hRL.2.2.2.2.1
  have hIC := (sf_WF_known hI h1).1
  have e60 : (setI M 191 0 0).1 191 60 = M.1 191 60 := sI_ne (by omega)
  have same : t_WF_known M x1 = (M, 0) → t_MO_known M x1 = (setI M 191 0 0, 0) → (t_WF_known M x1).2 = (t_MO_known (t_WF_known M x1).1 x1).2 ∧ LI (t_MO_known (t_WF_known M x1).1 x1).1 := fun e1 e2 => by
    rw [e1]
    show (0 : Int) = (t_MO_known M x1).2 ∧ LI (t_MO_known M x1).1
    rw [e2]
    exact ⟨rfl, h'.at0⟩
  by_cases c1 : x1 < -1
  · refine same ?_ ?_
    · unfold t_WF_known; rw [if_pos c1]
    · unfold t_MO_known; simp (config := { proj := false }) only [qlet]; rw [if_pos c1]
  by_cases c2 : x1 ≤ M.1 191 60
  rotate_left
  · refine same ?_ ?_
    · unfold t_WF_known; rw [hNo.1, if_neg c1, if_neg c2]
    · unfold t_MO_known; simp (config := { proj := false }) only [qlet]; rw [e60, if_neg c1, if_neg c2]
  have hw : t_WF_known M x1 = (setI M 172 6 x1, 1) := by
    unfold t_WF_known
    simp (config := { proj := false }) only [qlet]
    rw [hNo.1, if_neg c1, if_pos c2]
  have f1 : Fr (fun q j => q = 172 ∧ j = 6) M (setI M 172 6 x1) := Fr.rf.setI ⟨rfl, rfl⟩
  have e60' : (setI (setI M 172 6 x1) 191 0 0).1 191 60 = M.1 191 60 := by rw [sI_ne (by omega), sI_ne (by omega)]
  have hm : t_MO_known (setI M 172 6 x1) x1 = (setI (setI (setI M 172 6 x1) 191 0 0) 191 61 x1, 1) := by
    unfold t_MO_known
    simp (config := { proj := false }) only [qlet]
    rw [e60', if_neg c1, if_pos c2]
  rw [hw] at hIC ⊢
  show (1 : Int) = (t_MO_known (setI M 172 6 x1) x1).2 ∧ LI (t_MO_known (setI M 172 6 x1) x1).1
  have hRN : RI (setI M 172 6 x1) V := hR.fr f1 (fun q j a z => by unfold RIc at a; omega)
  have p1 := ri_known hRN x1
  have hIP := (im_MO_known hIC h1).1
  rw [hm] at p1 hIP ⊢
  have fA : Fr (fun q j => (q = 172 ∧ j = 6) ∨ (q = 191 ∧ (j = 0 ∨ j = 61))) M (setI (setI (setI M 172 6 x1) 191 0 0) 191 61 x1) := ((f1.mono (fun q j z => Or.inl z)).setI (by omega)).setI (by omega)
  refine ⟨rfl, h'.two hX hIP p1 (hRL.notes hV hR.yr fA (fun q j z => by omega) ⟨?_, ?_, fun i a b => ?_⟩) (fA.mono (fun q j z => by unfold KpA; omega))⟩
  · rw [(fA 172 5 (by omega)).1, (fA 191 60 (by omega)).1]; exact hNo.1
  · show (setI (setI (setI M 172 6 x1) 191 0 0) 191 61 x1).1 172 6 = (setI (setI (setI M 172 6 x1) 191 0 0) 191 61 x1).1 191 61
    rw [sI_self, sI_ne (by omega), sI_ne (by omega), sI_self]
  · rw [(fA 191 60 (by omega)).1] at b
    rw [(fA 173 i (by omega)).1, (fA 174 i (by omega)).1, (fA 175 i (by omega)).1, (fA 226 i (by omega)).1, (fA 227 i (by omega)).1, (fA 228 i (by omega)).1]
    exact hNo.2.2 i a b
end
section
/-! ===== flood, tried ===== -/
theorem bs_flood {M : Mem} (h : LI M) {x1 x2 : Int} (h1 : InR x1) (h2 : InR x2) : Ok (fun q => Ok (fun r => q.2 = r.2 ∧ LI r.1) (t_MO_flood q.1 x1 x2)) (t_WF_flood M x1 x2) := by
  have h' := h
  have hTT := h.T
  obtain ⟨hI, ⟨V, hR, hX, hRL⟩, -⟩ := h
  have hV := hR.1.1
  have hv := hV.1
  have hC := hV.cells
  have hS : CScF M 47 V (DN M 0) (AT M 0) (ST M 0) (LN M 0) (M.2 210 0) (M.2 211 0) (wlV V) := hRL.1
  have okC := sf_WF_flood hI h1 h2
  have same : t_WF_flood M x1 x2 = some (M, -1) → t_MO_flood M x1 x2 = some (setI M 191 0 0, -1) → Ok (fun q => Ok (fun r => q.2 = r.2 ∧ LI r.1) (t_MO_flood q.1 x1 x2)) (t_WF_flood M x1 x2) := fun e1 e2 => ⟨_, e1, _, e2, rfl, h'.at0⟩
  have edn : ∀ N : Mem, t_MO_isDown N x2 = if 0 ≤ x2 ∧ x2 ≤ 4 then 1 else 0 := fun N => by
    unfold t_MO_isDown
    by_cases z : x2 < 0
    · rw [if_pos z, if_neg (show ¬ (0 ≤ x2 ∧ x2 ≤ 4) by omega)]
    · rw [if_neg z]
      by_cases w : 4 < x2
      · rw [if_pos w, if_neg (show ¬ (0 ≤ x2 ∧ x2 ≤ 4) by omega)]
      · rw [if_neg w, if_pos (show 0 ≤ x2 ∧ x2 ≤ 4 by omega)]
  by_cases c1 : 0 ≤ x1 ∧ x1 < V 0 2
  rotate_left
  · refine same ?_ ?_
    · unfold t_WF_flood; rw [c_hasWard hX.1]; simp (config := { proj := false }) only [qlet]; rw [if_neg c1, if_pos rfl]
    · unfold t_MO_flood; simp (config := { proj := false }) only [qlet]; rw [m_isWard (hR.set0 0).1.2.1, if_neg c1, if_pos rfl]
  by_cases c2 : 0 ≤ x2 ∧ x2 ≤ 4
  rotate_left
  · refine same ?_ ?_
    · unfold t_WF_flood; rw [c_hasWard hX.1]; simp (config := { proj := false }) only [qlet]; rw [if_pos c1, if_neg (show ¬ (1 : Int) = 0 by decide), c_isDown, if_neg c2, if_pos rfl]
    · unfold t_MO_flood; simp (config := { proj := false }) only [qlet]; rw [m_isWard (hR.set0 0).1.2.1, if_pos c1, if_neg (show ¬ (1 : Int) = 0 by decide), edn, if_neg c2, if_pos rfl]
  have hcls : ∃ N, t_WF_flood M x1 x2 = some (N, flS (nxV V (upA (DN M 0) x1 x2) (M.2 210 0) (wlV V)) (M.2 211 0) (cellsV V).toNat) ∧ Fr (CsW 52) M N := by
    unfold t_WF_flood
    rw [c_hasWard hX.1]
    simp (config := { proj := false }) only [qlet]
    rw [if_pos c1, if_neg (show ¬ (1 : Int) = 0 by decide), c_isDown, if_pos c2, if_neg (show ¬ (1 : Int) = 0 by decide)]
    obtain ⟨s1, s2⟩ := c_scopy (k0 := 52) (k1 := 47) hV (Or.inl (by omega)) hS
    generalize t_Scene_copy M 52 47 = N1 at *
    have p1 : t_WF_put N1 53 4 x1 x2 = setI N1 53 x1 x2 := put_in c1.1 (by omega)
    rw [p1]
    have f2 : Fr (fun q j => q = 53 ∧ j = x1) N1 (setI N1 53 x1 x2) := Fr.rf.setI ⟨rfl, rfl⟩
    have s3 : CScF (setI N1 53 x1 x2) 52 V (upA (DN M 0) x1 x2) (AT M 0) (ST M 0) (LN M 0) (M.2 210 0) (M.2 211 0) (wlV V) := by
      obtain ⟨a1, a2, a3, a4, a5⟩ := s1
      refine ⟨fun w x y => ?_, fun t x y => ?_, a3, a4, a5⟩
      · by_cases e : w = x1
        · rw [e, upA_self]; exact sI_self _ _ _ _
        · rw [upA_ne _ e, (f2 (52 + 1) w (by omega)).1]; exact a1 w x y
      · rw [(f2 (52 + 2) t (by omega)).1, (f2 (52 + 3) t (by omega)).1, (f2 (52 + 4) t (by omega)).1]; exact a2 t x y
    have f3 : Fr (CsW 52) M (setI N1 53 x1 x2) := s2.trans (f2.mono (fun q j z => by unfold CsW; omega))
    generalize setI N1 53 x1 x2 = N2 at *
    rw [(f3 0 4 (by unfold CsW; omega)).1]
    have X2 : CT0 N2 (M.1 0 4).toNat V ∧ CTs N2 (M.1 0 4).toNat V := ⟨CT0.fr f3 (fun q j x y z => by unfold CsW at z; omega) hX.1, CTs.fr f3 (fun q j x y z => by unfold CsW at z; omega) hX.2.1⟩
    obtain ⟨N3, n1, n2, n3⟩ := c_flood hV hTT.2 (by omega) X2 s3
    rw [n1, obind_some]
    refine ⟨N3, by rw [n2.2.2.2.1], f3.trans (n3.mono (fun q j z => by unfold PoW at z; unfold CsW; omega))⟩
  obtain ⟨N, n1, n2⟩ := hcls
  obtain ⟨u, e, hu⟩ := okC
  have : u = (N, flS (nxV V (upA (DN M 0) x1 x2) (M.2 210 0) (wlV V)) (M.2 211 0) (cellsV V).toNat) := Option.some.inj (e.symm.trans n1)
  subst this
  have hIN : IM N := hu
  have hRN : RI N V := hR.fr n2 (fun q j a z => by unfold RIc at a; unfold CsW at z; omega)
  have hLN : LI N := h'.q hIN (n2.mono (fun q j z => by unfold CsW at z; unfold QkW; omega))
  have eN : ∀ q j, 191 ≤ q → N.1 q j = M.1 q j ∧ N.2 q j = M.2 q j := fun q j x => n2 q j (fun z => by unfold CsW at z; omega)
  have hmo : ∃ Q, t_MO_flood N x1 x2 = some (Q, flS (nxV V (upA (DN M 0) x1 x2) (M.2 210 0) (wlV V)) (M.2 211 0) (cellsV V).toNat) ∧ Fr (fun q j => (q = 191 ∧ j = 0) ∨ CW 1 q j) N Q := by
    have g0 : Fr (fun q j => q = 191 ∧ j = 0) N (setI N 191 0 0) := Fr.rf.setI ⟨rfl, rfl⟩
    have hR0 : RI (setI N 191 0 0) V := hRN.set0 0
    unfold t_MO_flood
    simp (config := { proj := false }) only [qlet]
    rw [m_isWard hR0.1.2.1, if_pos c1, if_neg (show ¬ (1 : Int) = 0 by decide), edn, if_pos c2, if_neg (show ¬ (1 : Int) = 0 by decide), w32_id (x := 4 + x1) (by unfold InR; omega)]
    obtain ⟨Q1, a1, a2, a3⟩ := m_copies (M := setI N 191 0 0) (x1 := 1) (x2 := 0) (by omega) (by omega) (by omega)
    rw [a1, obind_some, qguard_pos ⟨by omega, by omega⟩]
    have row : RowEq Q1 1 M 0 := (a3.trans (RowEq.fr g0 (fun q j z w => by unfold CW at z; omega))).trans (RowEq.fr n2 (fun q j z w => by unfold CW at z; unfold CsW at w; omega))
    have f2 : Fr (fun q j => q = 212 ∧ j = 4 + x1) Q1 (setI Q1 212 (4 + x1) x2) := Fr.rf.setI ⟨rfl, rfl⟩
    have v212 : (setI Q1 212 (4 + x1) x2).1 212 (4 + x1) = x2 := sI_self _ _ _ _
    have g2 : Fr (fun q j => (q = 191 ∧ j = 0) ∨ CW 1 q j) N (setI Q1 212 (4 + x1) x2) := ((g0.mono (fun q j z => Or.inl z)).trans (a2.mono (fun q j z => Or.inr z))).trans (f2.mono (fun q j z => Or.inr (by unfold CW; omega)))
    have e210 : (setI Q1 212 (4 + x1) x2).2 210 1 = M.2 210 0 := row.1.2.2.2.1
    have e211 : (setI Q1 212 (4 + x1) x2).2 211 1 = M.2 211 0 := row.1.2.2.2.2
    generalize setI Q1 212 (4 + x1) x2 = Q2 at *
    have hD : ∀ w, 0 ≤ w → w < V 0 2 → DN Q2 1 w = upA (DN M 0) x1 x2 w := fun w x y => by
      unfold DN
      by_cases z : w = x1
      · rw [z, upA_self, show (4 : Int) * 1 + x1 = 4 + x1 by omega, v212]
      · rw [upA_ne _ z, (f2 212 _ (by omega)).1]
        exact row.2.1 w x (by omega)
    have nb : NB Q2 1 V := by
      refine ⟨hV, MT0.fr g2 (fun q j x y z => by unfold CW at z; omega) hRN.1.2.1, ?_, fun w x y => ?_⟩
      · rw [(g2 191 44 (by unfold CW; omega)).1]; exact hRN.2.1
      · have := hD w x y
        unfold DN at this
        rw [this]
        by_cases z : w = x1
        · rw [z, upA_self]; exact c2
        · rw [upA_ne _ z]; exact hR.row0.1 w x y
    obtain ⟨Q3, b1, b2, b3⟩ := nb.floods (by omega)
    rw [b1, obind_some, b2, e211]
    unfold nxR
    rw [e210]
    refine ⟨Q3, ?_, g2.trans (b3.mono (fun q j z => Or.inr (by unfold CW; omega)))⟩
    rw [fl_congr hV hD]
  obtain ⟨Q, q1, q2⟩ := hmo
  have hIP := im_MO_flood hIN h1 h2 _ q1
  exact ⟨_, n1, _, q1, rfl, hLN.qm hIP (q2.mono (fun q j z => by unfold CW at z; unfold QmW CW; omega))⟩
/-! tries -/
theorem c_tried_loop {M0 : Mem} {x1 x2 x3 : Int} {T : Nat} {V : TV} {D : Int → Int} {nets wat : Int64} {wl : Int → Bool} (hV : VOK V) (hT : T = 2 ∨ T = 22) (hX : CT0 M0 T V ∧ CTs M0 T V) (hT0 : (M0.1 0 4).toNat = T) (h2 : x3 ≤ 200) : ∀ (n fu : Nat) (M : Mem) (q : BT) (v : Int), v + (n : Int) = x3 → 0 ≤ v → n < fu → Fr (BtW 52) M0 M → CScF M 52 V D q.1 q.2.1 q.2.2.1 nets wat wl → (∀ t, 0 ≤ t → t < V 0 3 → -1 ≤ q.1 t ∧ q.1 t < cellsV V) →
    ∃ N, t_WF_tried_L126 x1 x2 x3 fu M q.2.2.2 v = some (N, (btI V (decide (x1 ≠ 1)) (nxV V D nets wl) n q).2.2.2) ∧ Fr (BtW 52) M0 N := by
  intro n
  induction n with
  | zero =>
    intro fu M q v g0 g1 g2 hF h hA
    obtain ⟨g, rfl⟩ : ∃ g, fu = g + 1 := ⟨fu - 1, by omega⟩
    rw [t_WF_tried_L126, if_pos (by omega)]
    exact ⟨M, rfl, hF⟩
  | succ n ih =>
    intro fu M q v g0 g1 g2 hF h hA
    obtain ⟨g, rfl⟩ : ∃ g, fu = g + 1 := ⟨fu - 1, by omega⟩
    have hX' : CT0 M T V ∧ CTs M T V := ⟨CT0.fr hF (fun q j x y z => by unfold BtW at z; omega) hX.1, CTs.fr hF (fun q j x y z => by unfold BtW at z; omega) hX.2⟩
    have eT : (M.1 0 4).toNat = T := by rw [(hF 0 4 (by unfold BtW; omega)).1]; exact hT0
    have hw : ∃ v7 : Int, decide (v7 ≠ 0) = decide (x1 ≠ 1) ∧ t_WF_tried_L126 x1 x2 x3 (g + 1) M q.2.2.2 v = t_WF_tried_L152 x1 x2 x3 (fun a0_ a1_ a2_ => t_WF_tried_L126 x1 x2 x3 g a0_ a1_ a2_) M v q.2.2.2 T v7 := by
      rw [t_WF_tried_L126, if_neg (by omega), eT]
      by_cases c : x1 = 1
      · refine ⟨0, ?_, by rw [if_pos c]⟩
        rw [decide_eq_false (show ¬ x1 ≠ 1 from fun z => z c)]
        decide
      · refine ⟨1, ?_, by rw [if_neg c]⟩
        rw [decide_eq_true (show x1 ≠ 1 from c)]
        decide
    obtain ⟨v7, hd, hw⟩ := hw
    rw [hw]
    unfold t_WF_tried_L152
    obtain ⟨N, n1, n2, n3⟩ := c_beat (x2 := v7) hV hT (by omega) hX' h hA
    rw [hd] at n1 n2
    rw [n1, obind_some, w32_id (x := v + 1) (by unfold InR; omega), btI]
    exact ih g N (_, _, _, _) (v + 1) (by omega) (by omega) (by omega) (hF.trans n3) n2 (fun t a b => btS_rng (nx_ok hV D nets wl) hA _ (by have := hV.1; omega) t a b)
theorem m_tried_loop {x1 x2 x3 : Int} {V : TV} {M0 : Mem} {D : Int → Int} {nets : Int64} (h : RI M0 V) (hr : RowOK M0 1 V) (hD : ∀ w, 0 ≤ w → w < V 0 2 → DN M0 1 w = D w) (hn : M0.2 210 1 = nets) (h2 : x3 ≤ 200) : ∀ (n fu : Nat) (M : Mem) (q : BT) (v : Int), v + (n : Int) = x3 → 0 ≤ v → n < fu → Fr (fun k j => BW 1 k j ∨ (k = 191 ∧ (j = 44 ∨ j = 45))) M0 M → M.2 191 44 = M0.2 191 44 → M.1 191 44 = x1 → M.1 191 45 = x2 → MTh M 1 V x1 x2 q.1 q.2.1 q.2.2.1 → (∀ t, 0 ≤ t → t < V 0 3 → -1 ≤ q.1 t ∧ q.1 t < cellsV V) → (∀ t, 0 ≤ t → t < V 0 3 → ¬ (x1 = 4 ∧ x2 = t) → 0 ≤ q.1 t) →
    ∃ N, t_MO_tried_L91 x1 x2 x3 fu M q.2.2.2 v = some (N, (btI V (decide (x1 ≠ 1)) (nxV V (trD x1 x2 D) (trN x1 nets) (trW x1 (wlV V))) n q).2.2.2) ∧ Fr (fun k j => BW 1 k j ∨ (k = 191 ∧ j = 45)) M0 N := by
  intro n
  induction n with
  | zero =>
    intro fu M q v g0 g1 g2 hF hL e44 e45 hT hA hA2
    obtain ⟨g, rfl⟩ : ∃ g, fu = g + 1 := ⟨fu - 1, by omega⟩
    rw [t_MO_tried_L91, if_pos (by omega)]
    simp (config := { proj := false }) only [qlet]
    refine ⟨_, rfl, fun k j hk => ?_⟩
    by_cases z : k = 191 ∧ j = 44
    · obtain ⟨rfl, rfl⟩ := z
      refine ⟨?_, hL⟩
      rw [sI_ne (by omega), sI_self, h.2.1]
    · have hk2 : ¬ (BW 1 k j ∨ (k = 191 ∧ (j = 44 ∨ j = 45))) := fun p => p.elim (fun p => hk (Or.inl p)) (fun p => p.2.elim (fun p2 => z ⟨p.1, p2⟩) (fun p2 => hk (Or.inr ⟨p.1, p2⟩)))
      refine ⟨?_, (hF k j hk2).2⟩
      rw [sI_ne (fun p => hk (Or.inr p)), sI_ne z]
      exact (hF k j hk2).1
  | succ n ih =>
    intro fu M q v g0 g1 g2 hF hL e44 e45 hT hA hA2
    obtain ⟨g, rfl⟩ : ∃ g, fu = g + 1 := ⟨fu - 1, by omega⟩
    have hC := h.1.1.cells
    rw [t_MO_tried_L91, if_neg (by omega), w32_id (x := v + 1) (by unfold InR; omega)]
    have hs : stepOK (nxV V (trD x1 x2 D) (trN x1 nets) (trW x1 (wlV V))) (cellsV V) := nx_ok h.1.1 _ _ _
    have hmt : ∀ N, Fr (fun k j => BW 1 k j ∨ (k = 191 ∧ (j = 44 ∨ j = 45))) M0 N → N.1 191 44 = x1 → N.1 191 45 = x2 → MT0 N V ∧ ∀ c, 0 ≤ c → c < cellsV V → t_MO_nextOf N 1 c = some (nxV V (trD x1 x2 D) (trN x1 nets) (trW x1 (wlV V)) c) := by
      intro N hN a b
      have m0 : MT0 N V := h.1.2.1.fr hN (fun k j x y q => by unfold BW at q; omega)
      refine ⟨m0, fun c p r => ?_⟩
      have := m_nextT (M := N) (at_ := 1) (D := DN M0 1) (A := AT N 1) (nets := M0.2 210 1) m0 h.1.1 ⟨fun w x y => (hN 212 _ (by unfold BW; omega)).1, fun t x y => rfl, (hN 210 1 (by unfold BW; omega)).2⟩ hr.1 (by omega) p r
      rw [a, b, hn] at this
      rw [this]
      refine congrArg some (nx_congr h.1.1 (fun w x y => ?_) _ _ p (by omega))
      unfold trD
      by_cases z : x1 = 3 ∧ w = x2
      · rw [if_pos z, if_pos z]
      · rw [if_neg z, if_neg z]; exact hD w x y
    obtain ⟨N, e1, e2, e3, e4⟩ := m_beat (M := M) (at_ := 1) (A := q.1) (S := q.2.1) (L := q.2.2.1) (by omega) h.1.1 hC.2 hs hA (by rw [e44, e45]; exact hA2) (fun N hN => hmt N (hF.trans (hN.mono (fun k j q => Or.inl (Or.inr q)))) (by rw [(hN 191 44 (by unfold TW; omega)).1]; exact e44) (by rw [(hN 191 45 (by unfold TW; omega)).1]; exact e45)) (by rw [e44, e45]; exact hT)
    rw [e44] at e1 e3
    rw [e45] at e3
    rw [e1, obind_some, btI]
    exact ih g N (_, _, _, _) (v + 1) (by omega) (by omega) (by omega) (hF.trans (e2.mono (fun k j q => Or.inl q))) ((e2 191 44 (by unfold BW; omega)).2.trans hL) (by rw [(e2 191 44 (by unfold BW; omega)).1]; exact e44) (by rw [(e2 191 45 (by unfold BW; omega)).1]; exact e45) e3 (fun t a b => btS_rng hs hA _ (by have := h.1.1.1; omega) t a b) (fun t a b z => btS_nn (hA2 t a b z) _)
theorem try_of {M : Mem} {T : Nat} {V : TV} (hX : CT0 M T V) (hT : (M.1 0 4).toNat = T) (x1 x2 x3 : Int) : ∃ v, t_WF_canTry M x1 x2 = v ∧ (∀ N, MT0 (setI N 191 0 0) V → t_MO_tried N x1 x2 x3 = t_MO_tried_L49 x1 x2 x3 (setI N 191 0 0) v) ∧ (v = 0 ∨ (v = 1 ∧ (x1 = 3 → 0 ≤ x2 ∧ x2 < V 0 2) ∧ (x1 = 4 → 0 ≤ x2 ∧ x2 < V 0 3) ∧ 0 ≤ x1 ∧ x1 ≤ 4)) := by
  by_cases c3 : x1 = 3
  · refine ⟨if 0 ≤ x2 ∧ x2 < V 0 2 then 1 else 0, ?_, fun N hN => ?_, ?_⟩
    · unfold t_WF_canTry
      simp (config := { proj := false }) only [qlet]
      rw [if_neg (show ¬ x1 = 0 by omega), if_neg (show ¬ x1 = 1 by omega), if_neg (show ¬ x1 = 2 by omega), if_pos c3, hT, c_hasWard hX]
    · unfold t_MO_tried
      simp (config := { proj := false }) only [qlet]
      rw [if_pos c3, m_isWard hN]
    · by_cases z : 0 ≤ x2 ∧ x2 < V 0 2
      · rw [if_pos z]; exact Or.inr ⟨rfl, fun _ => z, fun w => by omega, by omega, by omega⟩
      · rw [if_neg z]; exact Or.inl rfl
  by_cases c4 : x1 = 4
  · refine ⟨if 0 ≤ x2 ∧ x2 < V 0 3 then 1 else 0, ?_, fun N hN => ?_, ?_⟩
    · unfold t_WF_canTry
      simp (config := { proj := false }) only [qlet]
      rw [if_neg (show ¬ x1 = 0 by omega), if_neg (show ¬ x1 = 1 by omega), if_neg (show ¬ x1 = 2 by omega), if_neg c3, if_pos c4, hT, c_hasThing hX]
    · unfold t_MO_tried
      simp (config := { proj := false }) only [qlet]
      rw [if_neg c3, if_pos c4, m_isThing hN]
    · by_cases z : 0 ≤ x2 ∧ x2 < V 0 3
      · rw [if_pos z]; exact Or.inr ⟨rfl, fun w => absurd w c3, fun _ => z, by omega, by omega⟩
      · rw [if_neg z]; exact Or.inl rfl
  by_cases c : 0 ≤ x1 ∧ x1 ≤ 2
  · refine ⟨if x2 = 0 then 1 else 0, ?_, fun N hN => ?_, ?_⟩
    · unfold t_WF_canTry t_WF_canTry_L36
      by_cases z0 : x1 = 0
      · rw [if_pos z0]
      · by_cases z1 : x1 = 1
        · rw [if_neg z0, if_pos z1]
        · rw [if_neg z0, if_neg z1, if_pos (show x1 = 2 by omega)]
    · unfold t_MO_tried t_MO_tried_L48
      simp (config := { proj := false }) only [qlet]
      rw [if_neg c3, if_neg c4, if_neg (show ¬ x1 < 0 by omega), if_neg (show ¬ 2 < x1 by omega)]
      by_cases z : x2 = 0
      · rw [if_pos z, if_pos z]
      · rw [if_neg z, if_neg z]
    · by_cases z : x2 = 0
      · rw [if_pos z]; exact Or.inr ⟨rfl, fun w => absurd w c3, fun w => absurd w c4, by omega, by omega⟩
      · rw [if_neg z]; exact Or.inl rfl
  · refine ⟨0, ?_, fun N hN => ?_, Or.inl rfl⟩
    · unfold t_WF_canTry
      simp (config := { proj := false }) only [qlet]
      rw [if_neg (show ¬ x1 = 0 by omega), if_neg (show ¬ x1 = 1 by omega), if_neg (show ¬ x1 = 2 by omega), if_neg c3, if_neg c4]
    · unfold t_MO_tried t_MO_tried_L48
      simp (config := { proj := false }) only [qlet]
      rw [if_neg c3, if_neg c4]
      by_cases z : x1 < 0
      · rw [if_pos z]
      · rw [if_neg z, if_pos (show 2 < x1 by omega)]
theorem bs_tried {M : Mem} (h : LI M) {x1 x2 x3 : Int} (h1 : InR x1) (h2 : InR x2) (h3 : InR x3) : Ok (fun q => Ok (fun r => q.2 = r.2 ∧ LI r.1) (t_MO_tried q.1 x1 x2 x3)) (t_WF_tried M x1 x2 x3) := by
  have h' := h
  have hTT := h.T
  obtain ⟨hI, ⟨V, hR, hX, hRL⟩, -⟩ := h
  have hV := hR.1.1
  have hv := hV.1
  have hC := hV.cells
  have hS : CScF M 47 V (DN M 0) (AT M 0) (ST M 0) (LN M 0) (M.2 210 0) (M.2 211 0) (wlV V) := hRL.1
  have okC := sf_WF_tried hI h1 h2 h3
  have same : t_WF_tried M x1 x2 x3 = some (M, -1) → t_MO_tried M x1 x2 x3 = some (setI M 191 0 0, -1) → Ok (fun q => Ok (fun r => q.2 = r.2 ∧ LI r.1) (t_MO_tried q.1 x1 x2 x3)) (t_WF_tried M x1 x2 x3) := fun e1 e2 => ⟨_, e1, _, e2, rfl, h'.at0⟩
  obtain ⟨v, t1, t2, t3⟩ := try_of (T := (M.1 0 4).toNat) hX.1 rfl x1 x2 x3
  have t2M := t2 M (hR.set0 0).1.2.1
  by_cases c1 : x3 < 0
  · refine same ?_ ?_
    · unfold t_WF_tried; rw [if_pos c1]
    · rw [t2M]; unfold t_MO_tried_L49
      by_cases z : v = 0
      · rw [if_pos z]
      · rw [if_neg z, if_pos c1]
  by_cases c2 : x3 ≤ 200
  rotate_left
  · refine same ?_ ?_
    · unfold t_WF_tried; rw [if_neg c1, if_pos (show 200 < x3 by omega)]
    · rw [t2M]; unfold t_MO_tried_L49
      by_cases z : v = 0
      · rw [if_pos z]
      · rw [if_neg z, if_neg c1, if_neg c2]
  rcases t3 with t3 | ⟨t3, t4, t5, t6, t7⟩
  · refine same ?_ ?_
    · unfold t_WF_tried; simp (config := { proj := false }) only [qlet]; rw [if_neg c1, if_neg (show ¬ 200 < x3 by omega), t1, if_pos t3]
    · rw [t2M]; unfold t_MO_tried_L49; rw [if_pos t3]
  obtain ⟨n, hn⟩ : ∃ n : Nat, (n : Int) = x3 := ⟨x3.toNat, by omega⟩
  obtain ⟨A', eA⟩ : ∃ A' : Int → Int, A' = fun t => if x1 = 4 ∧ x2 = t then -1 else AT M 0 t := ⟨_, rfl⟩
  have hA0 : ∀ t, 0 ≤ t → t < V 0 3 → 0 ≤ AT M 0 t ∧ AT M 0 t < cellsV V := fun t a b => hR.row0.2.1 t a b
  have hA' : ∀ t, 0 ≤ t → t < V 0 3 → -1 ≤ A' t ∧ A' t < cellsV V := fun t a b => by
    have := hA0 t a b
    rw [eA]
    show -1 ≤ (if x1 = 4 ∧ x2 = t then -1 else AT M 0 t) ∧ (if x1 = 4 ∧ x2 = t then -1 else AT M 0 t) < cellsV V
    split <;> omega
  have hA2 : ∀ t, 0 ≤ t → t < V 0 3 → ¬ (x1 = 4 ∧ x2 = t) → 0 ≤ A' t := fun t a b z => by
    rw [eA]
    show 0 ≤ (if x1 = 4 ∧ x2 = t then -1 else AT M 0 t)
    rw [if_neg z]
    exact (hA0 t a b).1
  have hcls : ∃ K, t_WF_tried M x1 x2 x3 = t_WF_tried_L126 x1 x2 x3 FU K 0 0 ∧ Fr (CsW 52) M K ∧ CScF K 52 V (trD x1 x2 (DN M 0)) A' (ST M 0) (LN M 0) (trN x1 (M.2 210 0)) (M.2 211 0) (trW x1 (wlV V)) := by
    unfold t_WF_tried t_WF_tried_L120
    simp (config := { proj := false }) only [qlet]
    rw [if_neg c1, if_neg (show ¬ 200 < x3 by omega), t1, if_neg (show ¬ v = 0 by omega)]
    obtain ⟨s1, s2⟩ := c_scopy (k0 := 52) (k1 := 47) hV (Or.inl (by omega)) hS
    generalize t_Scene_copy M 52 47 = K at *
    have eD : x1 ≠ 3 → ∀ w, 0 ≤ w → w < V 0 2 → DN M 0 w = trD x1 x2 (DN M 0) w := fun z w _ _ => (if_neg (fun y => z y.1)).symm
    have eA4 : x1 ≠ 4 → ∀ t, 0 ≤ t → t < V 0 3 → AT M 0 t = A' t ∧ ST M 0 t = ST M 0 t ∧ LN M 0 t = LN M 0 t := fun z t _ _ => ⟨by rw [eA]; exact (if_neg (fun y => z y.1)).symm, rfl, rfl⟩
    have eN : x1 ≠ 0 → M.2 210 0 = trN x1 (M.2 210 0) := fun z => (if_neg z).symm
    have eW : x1 ≠ 2 → trW x1 (wlV V) = wlV V := fun z => if_neg z
    by_cases z0 : x1 = 0
    · have f1 : Fr (fun q j => q = 52 ∧ j = 5) K (setL K 52 5 0) := Fr.rf.setL ⟨rfl, rfl⟩
      rw [if_pos z0]
      refine ⟨setL K 52 5 0, rfl, s2.trans (f1.mono (fun q j z => by unfold CsW; omega)), ?_⟩
      rw [eW (by omega)]
      obtain ⟨a1, a2, a3, a4, a5⟩ := s1
      have k : CScF (setL K 52 5 0) 52 V (DN M 0) (AT M 0) (ST M 0) (LN M 0) 0 (M.2 211 0) (wlV V) := ⟨a1, a2, sL_self _ _ _ _, by rw [(f1 52 6 (by omega)).2]; exact a4, fun c a b => by rw [(f1 52 4 (by omega)).2]; exact a5 c a b⟩
      exact k.eq (eD (by omega)) (eA4 (by omega)) (by unfold trN; rw [if_pos z0]) rfl
    by_cases z1 : x1 = 1
    · rw [if_neg z0, if_pos z1]
      refine ⟨K, rfl, s2, ?_⟩
      rw [eW (by omega)]
      exact s1.eq (eD (by omega)) (eA4 (by omega)) (eN z0) rfl
    by_cases z2 : x1 = 2
    · have f1 : Fr (fun q j => q = 52 ∧ j = 4) K (setL K 52 4 0) := Fr.rf.setL ⟨rfl, rfl⟩
      rw [if_neg z0, if_neg z1, if_pos z2]
      refine ⟨setL K 52 4 0, rfl, s2.trans (f1.mono (fun q j z => by unfold CsW; omega)), ?_⟩
      have ew : trW x1 (wlV V) = fun _ => false := if_pos z2
      rw [ew]
      obtain ⟨a1, a2, a3, a4, a5⟩ := s1
      have k : CScF (setL K 52 4 0) 52 V (DN M 0) (AT M 0) (ST M 0) (LN M 0) (M.2 210 0) (M.2 211 0) (fun _ => false) := ⟨a1, a2, by rw [(f1 52 5 (by omega)).2]; exact a3, by rw [(f1 52 6 (by omega)).2]; exact a4, fun c a b => by rw [sL_self]; exact tb_zero c⟩
      exact k.eq (eD (by omega)) (eA4 (by omega)) (eN z0) rfl
    by_cases z3 : x1 = 3
    · have hw := t4 z3
      have p1 : t_WF_put K 53 4 x2 4 = setI K 53 x2 4 := put_in hw.1 (by omega)
      have f1 : Fr (fun q j => q = 53 ∧ j = x2) K (setI K 53 x2 4) := Fr.rf.setI ⟨rfl, rfl⟩
      rw [if_neg z0, if_neg z1, if_neg z2, if_pos z3, p1]
      refine ⟨setI K 53 x2 4, rfl, s2.trans (f1.mono (fun q j z => by unfold CsW; omega)), ?_⟩
      rw [eW z2]
      obtain ⟨a1, a2, a3, a4, a5⟩ := s1
      have k : CScF (setI K 53 x2 4) 52 V (trD x1 x2 (DN M 0)) (AT M 0) (ST M 0) (LN M 0) (M.2 210 0) (M.2 211 0) (wlV V) := by
        refine ⟨fun w x y => ?_, fun t x y => ?_, a3, a4, a5⟩
        · unfold trD
          by_cases e : w = x2
          · rw [if_pos ⟨z3, e⟩, e]; exact sI_self _ _ _ _
          · rw [if_neg (fun q => e q.2), (f1 (52 + 1) w (by omega)).1]; exact a1 w x y
        · rw [(f1 (52 + 2) t (by omega)).1, (f1 (52 + 3) t (by omega)).1, (f1 (52 + 4) t (by omega)).1]; exact a2 t x y
      exact k.eq (fun _ _ _ => rfl) (eA4 (by omega)) (eN z0) rfl
    · have z4 : x1 = 4 := by omega
      have hw := t5 z4
      have p1 : t_WF_put K 54 8 x2 (-1) = setI K 54 x2 (-1) := put_in hw.1 (by omega)
      have f1 : Fr (fun q j => q = 54 ∧ j = x2) K (setI K 54 x2 (-1)) := Fr.rf.setI ⟨rfl, rfl⟩
      rw [if_neg z0, if_neg z1, if_neg z2, if_neg z3, if_pos z4, p1]
      refine ⟨setI K 54 x2 (-1), rfl, s2.trans (f1.mono (fun q j z => by unfold CsW; omega)), ?_⟩
      rw [eW z2]
      obtain ⟨a1, a2, a3, a4, a5⟩ := s1
      have k : CScF (setI K 54 x2 (-1)) 52 V (DN M 0) A' (ST M 0) (LN M 0) (M.2 210 0) (M.2 211 0) (wlV V) := by
        refine ⟨fun w x y => ?_, fun t x y => ⟨?_, ?_, ?_⟩, a3, a4, a5⟩
        · rw [(f1 (52 + 1) w (by omega)).1]; exact a1 w x y
        · rw [eA]
          show (setI K 54 x2 (-1)).1 54 t = if x1 = 4 ∧ x2 = t then -1 else AT M 0 t
          by_cases e : x2 = t
          · rw [if_pos ⟨z4, e⟩, e]; exact sI_self _ _ _ _
          · rw [if_neg (fun q => e q.2), (f1 54 t (by omega)).1]; exact (a2 t x y).1
        · rw [(f1 (52 + 3) t (by omega)).1]; exact (a2 t x y).2.1
        · rw [(f1 (52 + 4) t (by omega)).1]; exact (a2 t x y).2.2
      exact k.eq (eD z3) (fun t _ _ => ⟨rfl, rfl, rfl⟩) (eN z0) rfl
  obtain ⟨K, k1, k2, k3⟩ := hcls
  have XK : CT0 K (M.1 0 4).toNat V ∧ CTs K (M.1 0 4).toNat V := ⟨CT0.fr k2 (fun q j x y z => by unfold CsW at z; omega) hX.1, CTs.fr k2 (fun q j x y z => by unfold CsW at z; omega) hX.2.1⟩
  obtain ⟨N, n1, n2⟩ := c_tried_loop (x1 := x1) (x2 := x2) (x3 := x3) (T := (M.1 0 4).toNat) hV hTT.2 XK (by rw [(k2 0 4 (by unfold CsW; omega)).1]) c2 n FU K (A', ST M 0, LN M 0, 0) 0 (by omega) (by omega) (fu_big (by omega)) Fr.rf k3 hA'
  have hw : t_WF_tried M x1 x2 x3 = some (N, (btI V (decide (x1 ≠ 1)) (nxV V (trD x1 x2 (DN M 0)) (trN x1 (M.2 210 0)) (trW x1 (wlV V))) n (A', ST M 0, LN M 0, 0)).2.2.2) := k1.trans n1
  generalize hr : btI V (decide (x1 ≠ 1)) (nxV V (trD x1 x2 (DN M 0)) (trN x1 (M.2 210 0)) (trW x1 (wlV V))) n (A', ST M 0, LN M 0, 0) = r at *
  have fN : Fr (CsW 52) M N := k2.trans (n2.mono (fun q j z => by unfold BtW at z; unfold CsW; omega))
  obtain ⟨u, e, hu⟩ := okC
  have : u = (N, r.2.2.2) := Option.some.inj (e.symm.trans hw)
  subst this
  have hIN : IM N := hu.1
  have hRN : RI N V := hR.fr fN (fun q j a z => by unfold RIc at a; unfold CsW at z; omega)
  have hLN : LI N := h'.q hIN (fN.mono (fun q j z => by unfold CsW at z; unfold QkW; omega))
  have hmo : ∃ Q, t_MO_tried N x1 x2 x3 = some (Q, r.2.2.2) ∧ Fr QmW N Q := by
    have g0 : Fr (fun q j => q = 191 ∧ j = 0) N (setI N 191 0 0) := Fr.rf.setI ⟨rfl, rfl⟩
    have hR0 : RI (setI N 191 0 0) V := hRN.set0 0
    rw [t2 N hR0.1.2.1]
    unfold t_MO_tried_L49
    simp (config := { proj := false }) only [qlet]
    rw [if_neg (show ¬ v = 0 by omega), if_neg c1, if_pos c2]
    obtain ⟨Q1, a1, a2, a3⟩ := m_copies (M := setI N 191 0 0) (x1 := 1) (x2 := 0) (by omega) (by omega) (by omega)
    obtain ⟨Q1', b1, b2, b3, -⟩ := hR0.cp1
    have : Q1' = Q1 := Option.some.inj (b1.symm.trans a1)
    subst this
    rw [a1, obind_some]
    have row : RowEq Q1' 1 M 0 := (a3.trans (RowEq.fr g0 (fun q j z w => by unfold CW at z; omega))).trans (RowEq.fr fN (fun q j z w => by unfold CW at z; unfold CsW at w; omega))
    have fT : Fr (fun k j => BW 1 k j ∨ (k = 191 ∧ (j = 44 ∨ j = 45))) Q1' (setI (setI Q1' 191 44 x1) 191 45 x2) := (Fr.rf.setI (by omega)).setI (by omega)
    obtain ⟨Q, q1, q2⟩ := m_tried_loop (x1 := x1) (x2 := x2) (x3 := x3) (D := DN M 0) (nets := M.2 210 0) b2 b3 (fun w a b => row.2.1 w a (by omega)) row.1.2.2.2.1 c2 n FU (setI (setI Q1' 191 44 x1) 191 45 x2) (A', ST M 0, LN M 0, 0) 0 (by omega) (by omega) (fu_big (by omega)) fT rfl (by rw [sI_ne (by omega), sI_self]) (sI_self _ _ _ _) (fun t a b => by
      by_cases z : x1 = 4 ∧ x2 = t
      · exact Or.inl ⟨z.1, z.2, by show A' t = -1; rw [eA]; exact if_pos z⟩
      · refine Or.inr ⟨z, ?_, ?_, ?_⟩
        · rw [sI_ne (by omega), sI_ne (by omega)]
          show Q1'.1 213 (8 * 1 + t) = A' t
          rw [eA, (row.2.2 t a (by omega)).1]
          exact (if_neg z).symm
        · rw [sI_ne (by omega), sI_ne (by omega)]; exact (row.2.2 t a (by omega)).2.1
        · rw [sI_ne (by omega), sI_ne (by omega)]; exact (row.2.2 t a (by omega)).2.2) hA' hA2
    rw [hr] at q1
    have w0 : Fr QmW N (setI N 191 0 0) := g0.mono (fun q j z => by unfold QmW; omega)
    have w1 : Fr QmW (setI N 191 0 0) Q1' := a2.mono (fun q j z => by unfold QmW; exact Or.inr (Or.inl z))
    have w2 : Fr QmW Q1' Q := q2.mono (fun q j z => by
      rcases z with z | z
      · unfold BW at z; unfold QmW CW; omega
      · unfold QmW; omega)
    exact ⟨Q, q1, (w0.trans w1).trans w2⟩
  obtain ⟨Q, q1, q2⟩ := hmo
  have hIP := im_MO_tried hIN h1 h2 h3 _ q1
  exact ⟨_, hw, _, q1, rfl, hLN.qm hIP.1 q2⟩
end
section
/-! ===== what the questions leave alone ===== -/
theorem LJ0_qm : ∀ k j, LJ0 k j → QmW k j := by
  intro k j z
  unfold LJ0 LJ JW W_MO_goesFrom GO at z
  unfold QmW
  rcases z with ((((z | z) | z | (z | z)) | z | z) | z | z) <;> first | exact Or.inr (Or.inl z) | omega
theorem LF0_qm : ∀ k j, LF0 k j → QmW k j := by
  intro k j z
  unfold LF0 LF W_MO_goesFrom at z
  unfold QmW
  rcases z with (((z | z) | z | z | z | z) | z) <;> first | exact Or.inr (Or.inl z) | omega
def KQ (M0 : Mem) (V : TV) (M : Mem) : Prop := RI M V ∧ Fr QmW M0 M
theorem kq_clock_L50 {M0 : Mem} {x1 : Int} {V : TV} {bk : Mem → Int → Int → Int → Int → Int → Option (Mem × Int)} {v6 : Int} (hw : 0 ≤ v6 ∧ v6 < 4) (hbk : ∀ (M : Mem) (a b c d : Int), KQ M0 V M → Ok (fun r => KQ M0 V r.1) (bk M a b c d (v6 + 1))) : ∀ (n fu : Nat) (M : Mem) (v2 v3 v4 v5 v7 : Int), v7 + (n : Int) = 5 → 0 ≤ v7 → n < fu → KQ M0 V M → Ok (fun r => KQ M0 V r.1) (t_MO_clock_L50 x1 bk fu M v2 v3 v4 v5 v6 v7) := by
  intro n
  induction n with
  | zero =>
    intro fu M v2 v3 v4 v5 v7 g0 g1 g2 h
    obtain ⟨g, rfl⟩ : ∃ g, fu = g + 1 := ⟨fu - 1, by omega⟩
    rw [t_MO_clock_L50, if_pos (by omega), w32_id (x := v6 + 1) (by unfold InR; omega)]
    exact hbk M _ _ _ _ h
  | succ n ih =>
    intro fu M v2 v3 v4 v5 v7 g0 g1 g2 h
    obtain ⟨g, rfl⟩ : ∃ g, fu = g + 1 := ⟨fu - 1, by omega⟩
    rw [t_MO_clock_L50, if_neg (by omega), qguard_pos ⟨hw.1, by omega⟩]
    have nx : ∀ (N : Mem) (a b c d : Int), KQ M0 V N → Ok (fun r => KQ M0 V r.1) (t_MO_clock_L120 x1 bk (fun a0_ a1_ a2_ a3_ a4_ a5_ a6_ => t_MO_clock_L50 x1 bk g a0_ a1_ a2_ a3_ a4_ a5_ a6_) N a b c d v6 v7) := by
      intro N a b c d hN
      unfold t_MO_clock_L120
      rw [w32_id (x := v7 + 1) (by unfold InR; omega)]
      exact ih g N a b c d (v7 + 1) (by omega) (by omega) (by omega) hN
    refine ok_ite (fun _ => nx M _ _ _ _ h) (fun _ => ?_)
    refine ok_bind h.1.cp1 (fun N hN => ?_)
    rw [w32_id (x := 4 + v6) (by unfold InR; omega), qguard_pos ⟨by omega, by omega⟩]
    refine ok_let (fun M19 e19 => ?_)
    have f19 : Fr (fun k j => k = 212 ∧ j = 4 + v6) N M19 := by rw [e19]; exact Fr.rf.setI ⟨rfl, rfl⟩
    have h19 : RI M19 V := hN.1.fr f19 (fun k j a q => by unfold RIc at a; omega)
    have hr := hN.2.1
    have r19 : RowOK M19 1 V := by
      rw [e19]
      refine ⟨fun w a b => ?_, fun t a b => ?_, hr.2.2⟩
      · by_cases e : 4 * 1 + w = 4 + v6
        · rw [e, sI_self]; omega
        · rw [sI_ne (by omega)]; exact hr.1 w a b
      · rw [sI_ne (by omega)]; exact hr.2.1 t a b
    refine ok_bind (ri_longest (by omega) h19 r19) (fun q hq => ?_)
    have hq2 : KQ M0 V q.1 := ⟨h19.fr hq LGW_RIc, ((h.2.trans (hN.2.2.2.mono (fun k j z => by unfold QmW; exact Or.inr (Or.inl z)))).trans (f19.mono (fun k j z => by unfold QmW CW; omega))).trans (hq.mono (fun k j z => by unfold LGW at z; unfold QmW; omega))⟩
    exact ok_ite (fun _ => nx _ _ _ _ _ hq2) (fun _ => nx _ _ _ _ _ hq2)
theorem kq_clock_L36 {M0 : Mem} {x1 : Int} {V : TV} : ∀ (n fu : Nat) (M : Mem) (v2 v3 v4 v5 v6 : Int), v6 + (n : Int) = V 0 2 → 0 ≤ v6 → n < fu → KQ M0 V M → Ok (fun r => KQ M0 V r.1) (t_MO_clock_L36 x1 fu M v2 v3 v4 v5 v6) := by
  intro n
  induction n with
  | zero =>
    intro fu M v2 v3 v4 v5 v6 g0 g1 g2 h
    obtain ⟨g, rfl⟩ : ∃ g, fu = g + 1 := ⟨fu - 1, by omega⟩
    rw [t_MO_clock_L36, h.1.1.2.1.1.2.2.1, if_pos (by omega)]
    exact ok_ite (fun _ => ok_some h) (fun _ => ok_ite (fun _ => ok_some h) (fun _ => ok_ite (fun _ => ok_some h) (fun _ => ok_some h)))
  | succ n ih =>
    intro fu M v2 v3 v4 v5 v6 g0 g1 g2 h
    obtain ⟨g, rfl⟩ : ∃ g, fu = g + 1 := ⟨fu - 1, by omega⟩
    have hv := h.1.1.1.1
    rw [t_MO_clock_L36, h.1.1.2.1.1.2.2.1, if_neg (by omega)]
    exact kq_clock_L50 ⟨g1, by omega⟩ (fun N a b c d hN => ih g N a b c d (v6 + 1) (by omega) (by omega) (by omega) hN) 5 FU M _ _ _ _ 0 (by omega) (by omega) (fu_big (by omega)) h
theorem kq_clock {M : Mem} {V : TV} (h : RI M V) (x1 : Int) : Ok (fun r => KQ M V r.1) (t_MO_clock M x1) := by
  unfold t_MO_clock
  refine ok_let (fun M1 e1 => ?_)
  have h1 : KQ M V M1 := ⟨by rw [e1]; exact h.set0 0, by rw [e1]; exact Fr.rf.setI (by unfold QmW; omega)⟩
  have hv := h.1.1.1
  refine ok_ite (fun _ => ok_some h1) (fun _ => ok_ite (fun _ => ?_) (fun _ => ok_some h1))
  refine ok_bind (ri_longest (by omega) h1.1 h1.1.row0) (fun q hq => ?_)
  have hq2 : KQ M V q.1 := ⟨h1.1.fr hq LGW_RIc, h1.2.trans (hq.mono (fun k j z => by unfold LGW at z; unfold QmW; omega))⟩
  exact kq_clock_L36 (V 0 2).toNat FU _ _ _ _ _ 0 (by omega) (by omega) (fu_big (by omega)) hq2
def FdW : Nat → Int → Prop := fun k j => (k = 0 ∧ j = 1) ∨ k = 1
theorem ff_loop {x1 : Int} : ∀ (m fu : Nat) (M : Mem) (v : Int), v = 8 * (m : Int) - 8 → m < fu → m ≤ 4 → 0 ≤ M.1 0 1 → M.1 0 1 + (m : Int) ≤ 1000 → Ok (fun r => r.1 0 1 = M.1 0 1 + (m : Int) ∧ Fr FdW M r) (t_WF_feedFour_L3 x1 fu M v) := by
  intro m
  induction m with
  | zero =>
    intro fu M v g0 g1 g2 g3 g4
    obtain ⟨g, rfl⟩ : ∃ g, fu = g + 1 := ⟨fu - 1, by omega⟩
    rw [t_WF_feedFour_L3, if_pos (by omega)]
    exact ok_some ⟨by omega, Fr.rf⟩
  | succ m ih =>
    intro fu M v g0 g1 g2 g3 g4
    obtain ⟨g, rfl⟩ : ∃ g, fu = g + 1 := ⟨fu - 1, by omega⟩
    have f1 : Fr FdW M (t_WF_put M 1 700 (M.1 0 1) (q_and (q_ushr x1 v) 255)) := fr_WF_put (fun k j z => by unfold W_WF_put at z; unfold FdW; omega) Fr.rf
    have e1 : (t_WF_put M 1 700 (M.1 0 1) (q_and (q_ushr x1 v) 255)).1 0 1 = M.1 0 1 := (fr_WF_put (W := fun k _ => k = 1) (M0 := M) (fun k j z => by unfold W_WF_put at z; exact z) Fr.rf 0 1 (by omega)).1
    rw [t_WF_feedFour_L3, if_neg (by omega), w32_id (x := v + -8) (by unfold InR; omega)]
    simp (config := { proj := false }) only [qlet]
    generalize t_WF_put M 1 700 (M.1 0 1) (q_and (q_ushr x1 v) 255) = N at *
    rw [e1, w32_id (x := M.1 0 1 + 1) (by unfold InR; omega)]
    have f2 : Fr FdW M (setI N 0 1 (M.1 0 1 + 1)) := f1.setI (by unfold FdW; omega)
    have v1 : (setI N 0 1 (M.1 0 1 + 1)).1 0 1 = M.1 0 1 + 1 := sI_self _ _ _ _
    exact ok_mono (ih g _ (v + -8) (by omega) (by omega) (by omega) (by omega) (by omega)) (fun r hr => ⟨by omega, f2.trans hr.2⟩)
theorem ff_one {x1 : Int} {M : Mem} (hx : InR x1) (hM : IM M) (g3 : 0 ≤ M.1 0 1) (g4 : M.1 0 1 ≤ 700) : Ok (fun r => IM r ∧ r.1 0 1 = M.1 0 1 + 4 ∧ Fr FdW M r) (t_WF_feedFour M x1) := by
  have a := ff_loop (x1 := x1) 4 FU M 24 (by omega) (fu_big (by omega)) (by omega) g3 (by omega)
  refine ok_mono (ok_and (sf_WF_feedFour hM hx) (Q := fun r => r.1 0 1 = M.1 0 1 + 4 ∧ Fr FdW M r) ?_) (fun r hr => ⟨hr.1, hr.2⟩)
  intro r e
  obtain ⟨r', e', h'⟩ := a
  have : r' = r := Option.some.inj (e'.symm.trans e)
  rw [← this]
  exact h'
theorem c_feed0 {x1 x2 x3 x4 x5 : Int} {M : Mem} (h1 : InR x1) (h2 : InR x2) (h3 : InR x3) (h4 : InR x4) (h5 : InR x5) (hM : IM M) (g3 : 0 ≤ M.1 0 1) (g4 : M.1 0 1 ≤ 700) : Ok (fun r => IM r.1 ∧ Fr FdW M r.1 ∧ ((M.1 0 1 ≤ 680 ∧ r.2 = M.1 0 1 + 20 ∧ r.1.1 0 1 = M.1 0 1 + 20) ∨ (¬ M.1 0 1 ≤ 680 ∧ r.2 = -1 ∧ r.1.1 0 1 = M.1 0 1))) (t_WF_feed M x1 x2 x3 x4 x5) := by
  unfold t_WF_feed
  rw [w32_id (x := M.1 0 1 + 20) (by unfold InR; omega)]
  by_cases a : M.1 0 1 ≤ 680
  · rw [if_pos (by omega)]
    refine ok_bind (ff_one h1 hM g3 g4) (fun q1 k1 => ok_bind (ff_one h2 k1.1 (by omega) (by omega)) (fun q2 k2 => ok_bind (ff_one h3 k2.1 (by omega) (by omega)) (fun q3 k3 => ok_bind (ff_one h4 k3.1 (by omega) (by omega)) (fun q4 k4 => ok_bind (ff_one h5 k4.1 (by omega) (by omega)) (fun q5 k5 => ok_some ⟨k5.1, (((k1.2.2.trans k2.2.2).trans k3.2.2).trans k4.2.2).trans k5.2.2, Or.inl ⟨a, ?_, ?_⟩⟩)))))
    · show q5.1 0 1 = _
      omega
    · show q5.1 0 1 = _
      omega
  · rw [if_neg (by omega)]
    exact ok_some ⟨hM, Fr.rf, Or.inr ⟨a, rfl, rfl⟩⟩
theorem c_feed {x1 x2 x3 x4 x5 : Int} {M : Mem} (h1 : InR x1) (h2 : InR x2) (h3 : InR x3) (h4 : InR x4) (h5 : InR x5) (hM : IM M) (g3 : 0 ≤ M.1 0 1) (g4 : M.1 0 1 ≤ 700) : Ok (fun r => IM r.1 ∧ Fr FdW M r.1 ∧ ((M.1 0 1 ≤ 680 ∧ r.2 = M.1 0 1 + 20 ∧ r.1.1 0 1 = M.1 0 1 + 20 ∧ (∀ j, 0 ≤ j → j < 20 → r.1.1 1 (M.1 0 1 + j) = fdB x1 x2 x3 x4 x5 j) ∧ (∀ j, j < M.1 0 1 → r.1.1 1 j = M.1 1 j)) ∨ (¬ M.1 0 1 ≤ 680 ∧ r.2 = -1 ∧ r.1.1 0 1 = M.1 0 1 ∧ r.1 = M))) (t_WF_feed M x1 x2 x3 x4 x5) := by
  by_cases a : M.1 0 1 ≤ 680
  · refine ok_mono (ok_and (c_feed0 h1 h2 h3 h4 h5 hM g3 g4) (c_fd g3 a)) (fun r hr => ⟨hr.1.1, hr.1.2.1, Or.inl ⟨a, ?_, ?_, hr.2⟩⟩)
    · rcases hr.1.2.2 with q | q
      · exact q.2.1
      · exact absurd a q.1
    · rcases hr.1.2.2 with q | q
      · exact q.2.2
      · exact absurd a q.1
  · refine ok_mono (ok_and (c_feed0 h1 h2 h3 h4 h5 hM g3 g4) (c_fd_no (by omega) a)) (fun r hr => ⟨hr.1.1, hr.1.2.1, Or.inr ⟨a, ?_, by rw [hr.2], hr.2⟩⟩)
    rcases hr.1.2.2 with q | q
    · exact absurd q.1 a
    · exact q.2.1
/-- feed, both sides -/
theorem bs_feed {x1 x2 x3 x4 x5 : Int} {M : Mem} (h : LI M) (h1 : InR x1) (h2 : InR x2) (h3 : InR x3) (h4 : InR x4) (h5 : InR x5) : Ok (fun q => Ok (fun r => q.2 = r.2 ∧ LI r.1) (t_MO_feed q.1 x1 x2 x3 x4 x5)) (t_WF_feed M x1 x2 x3 x4 x5) := by
  have hTT := h.T
  obtain ⟨hI, ⟨V, hR, hX, hRL⟩, hT, hP, hl, hE, hf⟩ := h
  have t0 := hT.1
  refine ok_mono (c_feed h1 h2 h3 h4 h5 hI (by omega) (by omega)) (fun q hq => ?_)
  obtain ⟨q1, q2, q3⟩ := hq
  have r1 : RI q.1 V := hR.fr q2 (fun k j a z => by unfold RIc at a; unfold FdW at z; omega)
  have rl1 : RL q.1 V := hRL.frf hR.1.1 hR.yr q2 (fun k j a z => by unfold RLf at a; unfold FdW at z; omega)
  have r2 : TInv q.1 := hT.fr q2 (fun k j a z => by unfold FdW at z; omega)
  have e2 : q.1.1 191 2 = M.1 191 2 := (q2 191 2 (by unfold FdW; omega)).1
  have e4 : q.1.1 0 4 = M.1 0 4 := (q2 0 4 (by unfold FdW; omega)).1
  have e5 : q.1.1 0 5 = M.1 0 5 := (q2 0 5 (by unfold FdW; omega)).1
  have x192 : ∀ j, q.1.1 192 j = M.1 192 j := fun j => (q2 192 j (by unfold FdW; omega)).1
  have X1 : CTx q.1 (M.1 0 4).toNat V := hX.fr q2 (fun k j a z => by unfold CxW at a; unfold FdW at z; omega)
  have F1 : FE q.1 := hf.fr q2 (fun k j a z => by unfold FdW at z; omega)
  have fd : Post (fun r => (q.1.1 191 2 ≤ 680 → (∀ j, 0 ≤ j → j < 20 → r.1.1 192 (q.1.1 191 2 + j) = fdB x1 x2 x3 x4 x5 j) ∧ (∀ j, j < q.1.1 191 2 → r.1.1 192 j = q.1.1 192 j)) ∧ (¬ q.1.1 191 2 ≤ 680 → ∀ j, r.1.1 192 j = q.1.1 192 j)) (t_MO_feed q.1 x1 x2 x3 x4 x5) := by
    intro r er
    by_cases a : q.1.1 191 2 ≤ 680
    · exact ⟨fun _ => m_fd (by omega) a r er, fun z => absurd a z⟩
    · exact ⟨fun z => absurd z a, fun _ => m_fd_no a r er⟩
  refine ok_mono (ok_and (ok_and (ok_and (ri_feed r1 r2 x1 x2 x3 x4 x5) (im_MO_feed q1 h1 h2 h3 h4 h5)) (fr_MO_feed (W := W_MO_feed) (M0 := q.1) (fun k j z => z) Fr.rf)) fd) (fun r hr => ?_)
  obtain ⟨⟨⟨⟨s1, s2, s3⟩, s4⟩, s5⟩, s6⟩ := hr
  have f1 : r.1.1 0 1 = q.1.1 0 1 := (s5 0 1 (by unfold W_MO_feed; omega)).1
  have f4 : r.1.1 0 4 = q.1.1 0 4 := (s5 0 4 (by unfold W_MO_feed; omega)).1
  have f5 : r.1.1 0 5 = q.1.1 0 5 := (s5 0 5 (by unfold W_MO_feed; omega)).1
  have y1 : ∀ j, r.1.1 1 j = q.1.1 1 j := fun j => (s5 1 j (by unfold W_MO_feed; omega)).1
  refine ⟨by omega, s4.1, ⟨V, s1, ?_, rl1.frf hR.1.1 r1.yr s5 (fun k j a z => by unfold RLf at a; unfold W_MO_feed at z; omega)⟩, s2, ?_, by omega, ?_, F1.fr s5 (fun k j a z => by unfold W_MO_feed at z; omega)⟩
  · rw [f4, e4]
    exact X1.fr s5 (fun k j a z => by unfold CxW at a; unfold W_MO_feed at z; omega)
  · unfold TPt at *
    omega
  · unfold TpE
    intro j a b
    rw [f1] at b
    rw [y1]
    rcases q3 with ⟨a1, a2, a3, a4, a5⟩ | ⟨a1, a2, a3, a4⟩
    · obtain ⟨b1, b2⟩ := s6.1 (by omega)
      by_cases c : j < M.1 0 1
      · rw [a5 j c, b2 j (by omega), x192]
        exact hE j a c
      · have p := a4 (j - M.1 0 1) (by omega) (by omega)
        have s := b1 (j - M.1 0 1) (by omega) (by omega)
        rw [show M.1 0 1 + (j - M.1 0 1) = j by omega] at p
        rw [show q.1.1 191 2 + (j - M.1 0 1) = j by omega] at s
        rw [p, s]
    · have b1 := s6.2 (by omega)
      rw [a4, b1 j, x192]
      exact hE j a (by omega)
/-- a new start, both sides -/
theorem rl_new {N P : Mem} {V : TV} {T : Nat} (hT : T = 2 ∨ T = 22) (hV : VOK V) (hX : CTx N T V) (hB : BgC N T) (hL : 0 ≤ N.1 70 1 ∧ N.1 70 1 < 20) (hO : BgO P V) (h42 : P.1 191 42 = 0) (h43 : P.1 191 43 = 0) (h60 : P.1 191 60 = 0) (h61 : P.1 191 61 = -1) (hF : Fr W_MO_text N P) : RL P V := by
  have hv := hV.1
  obtain ⟨b1, b2, ⟨b3, b4, b5⟩, ⟨b6, b7, b8⟩, b9, b10, b11, b12, b13⟩ := hB
  obtain ⟨⟨o1, o2, o3, o4, o5⟩, o6, o7⟩ := hO
  have x0 := hX.1
  have e : ∀ q j, q < 191 → P.1 q j = N.1 q j ∧ P.2 q j = N.2 q j := fun q j x => hF q j (by unfold W_MO_text; omega)
  refine ⟨⟨fun w x y => ?_, fun t x y => ⟨?_, ?_, ?_⟩, ?_, ?_, fun c x y => ?_⟩, ⟨?_, ?_, ?_, fun y x z => ?_⟩, past_none ?_ ?_ h43, ⟨?_, fun z => ?_⟩, ⟨?_, ?_, fun k x y => ?_⟩, CaR.zero ?_⟩
  · show P.1 48 w = P.1 212 (4 * 0 + w)
    rw [(e 48 w (by omega)).1, b1 w x (by omega), show (4 : Int) * 0 + w = w by omega, o6 w x (by omega), if_neg (by omega)]
    exact (x0.2.1 w x y).2.1
  · show P.1 49 t = P.1 213 (8 * 0 + t)
    rw [(e 49 t (by omega)).1, (b2 t x (by omega)).1, show (8 : Int) * 0 + t = t by omega, (o7 t x (by omega)).1, if_neg (by omega)]
    exact (x0.2.2.1 t x y).2.2
  · show P.1 50 t = P.1 214 (8 * 0 + t)
    rw [(e 50 t (by omega)).1, (b2 t x (by omega)).2.1, show (8 : Int) * 0 + t = t by omega, (o7 t x (by omega)).2.1]
  · show P.1 51 t = P.1 215 (8 * 0 + t)
    rw [(e 51 t (by omega)).1, (b2 t x (by omega)).2.2, show (8 : Int) * 0 + t = t by omega, (o7 t x (by omega)).2.2]
  · rw [(e 47 5 (by omega)).2, b4, o4]
  · rw [(e 47 6 (by omega)).2, b5, o5]
  · rw [(e 47 4 (by omega)).2, b3]; exact (x0.2.2.2 c x y).2.1
  · rw [(e 62 3 (by omega)).1, b6, o1]
  · rw [(e 62 4 (by omega)).1, b7, o2]
  · rw [(e 62 5 (by omega)).2, b8, o3, x0.1.2.2.2.2.2]
  · rw [o1] at z; omega
  · rw [(e 70 2 (by omega)).1]; exact b10
  · rw [(e 70 1 (by omega)).1]; exact hL
  · rw [(e 0 13 (by omega)).1, b9, h42]
  · rw [h42] at z; exact absurd z (by decide)
  · rw [(e 172 5 (by omega)).1, b11, h60]
  · rw [(e 172 6 (by omega)).1, b12, h61]
  · rw [h60] at y; omega
  · rw [(e 177 8 (by omega)).1]; exact b13
/-- text, both sides -/
theorem tx_k {k : Nat} {j : Int} (z : W_MO_text k j) : 191 ≤ k := by
  unfold W_MO_text at z
  rcases z with z | z | z | z | z | z | z | z | z | z | z | z | z | z | z | z | z | z | z | z | z | z | z | z <;> omega
theorem tx_r3 {T k : Nat} {j : Int} (hT : T + 17 < 191) (x : CxW T k j) (z : W_MO_text k j) : False := by
  have := tx_k z
  unfold CxW at x
  omega
theorem tx_c {T k : Nat} {j : Int} (hT : T = 2 ∨ T = 22) (z : TfC T k j) : k ≤ 46 ∧ ¬ (k = 0 ∧ j = 13) := by
  unfold TfC at z
  omega
theorem tx_r1 {T k : Nat} {j : Int} (hT : T = 2 ∨ T = 22) (x : RLf k j ∨ (k = 177 ∧ 6 ≤ j ∧ j ≤ 8) ∨ k = 184) (z : TfC T k j) : False := by
  have := tx_c hT z
  unfold RLf at x
  omega
theorem tx_w {k : Nat} {j : Int} (z : TfW k j) : 191 ≤ k ∧ k ≤ 206 ∧ ¬ (k = 191 ∧ 29 < j) := by
  unfold TfW StW at z
  rcases z with (z | z | z | z | z | z | z) | z <;> omega
theorem tx_r2 {k : Nat} {j : Int} (x : RLf k j ∨ (k = 177 ∧ 6 ≤ j ∧ j ≤ 8) ∨ k = 184) (z : TfW k j) : False := by
  have := tx_w z
  unfold RLf at x
  omega
theorem tx_r4 {T k : Nat} {j : Int} (hT : T = 2 ∨ T = 22) {U : Nat} (hU : U = 2 ∨ U = 22) (ne : U ≠ T) (x : CxW U k j) (z : TfC T k j) : False := by
  unfold CxW at x
  unfold TfC at z
  rcases z with z | z | z <;> omega
theorem bs_text {x1 : Int} {M : Mem} (h : LI M) (h1 : InR x1) : Ok (fun q => Ok (fun r => q.2 = r.2 ∧ LI r.1) (t_MO_text q.1 x1)) (t_WF_text M x1) := by
  have hTT := h.T
  have h' := h
  obtain ⟨hI, ⟨V, hR, hX, hRL⟩, hT, hP, hl, hE, hf⟩ := h
  have t0 := hT.1
  have hT5 : M.1 0 5 = 2 ∨ M.1 0 5 = 22 := by unfold TPt at hP; omega
  have T5 : M.1 0 5 = (((M.1 0 5).toNat : Nat) : Int) := by omega
  by_cases hx : 0 ≤ x1 ∧ x1 ≤ M.1 0 1
  · have hB : TpC M (fun j => M.1 192 j) x1 := ⟨by omega, fun j a b => ⟨hE j a (by omega), hT.2 j a (by omega)⟩⟩
    have hPT : ((M.1 0 4).toNat = 2 ∧ (M.1 0 5).toNat = 22) ∨ ((M.1 0 4).toNat = 22 ∧ (M.1 0 5).toNat = 2) := by unfold TPt at hP; omega
    obtain ⟨N, r, n1, n2, n3, n4⟩ := cx_text hTT.1 T5 hPT hB hx
    obtain ⟨u, e, hu⟩ := sf_WF_text hI h1 hT5
    have : u = (N, r) := Option.some.inj (e.symm.trans n1)
    subst this
    have hIN : IM N := hu.1
    have e192 : ∀ j, N.1 192 j = M.1 192 j := fun j => (n3 192 j (by omega)).1
    have e2 : N.1 191 2 = M.1 191 2 := (n3 191 2 (by omega)).1
    have e70 : N.1 70 1 = M.1 70 1 := (n3 70 1 (by omega)).1
    have r1 : RI N V := hR.fr n3 (fun k j a z => by unfold RIc at a; omega)
    have r2 : TInv N := hT.fr n3 (fun k j a z => by omega)
    obtain ⟨P, s, p1, p2, p3, p4⟩ := ri_textV r1 r2 (x1 := x1) (by omega)
    have eB : (fun j => N.1 192 j) = (fun j => M.1 192 j) := funext e192
    rw [eB] at p4
    have hIP := im_MO_text hIN h1 _ p1
    have fP := fr_MO_text (W := W_MO_text) (M0 := N) (fun k j z => z) Fr.rf _ p1
    have g : ∀ j, P.1 0 j = N.1 0 j := fun j => (fP 0 j (by unfold W_MO_text; omega)).1
    refine ⟨(N, r), n1, (P, s), p1, ?_, hIP.1, ?_⟩
    · show r = s
      rcases n4 with ⟨a1, a2, -⟩ | ⟨a1, a2, -⟩
      · rcases p4 with ⟨b1, b2, -⟩ | ⟨b1, b2, -⟩
        · exact absurd a1 b1
        · rw [a2, b2]
      · rcases p4 with ⟨b1, b2, -⟩ | ⟨b1, b2, -⟩
        · rw [a2, b2]
        · exact absurd b1 a1
    · have tpe : TpE P := fun j a b => by
        have b : j < P.1 0 1 := b
        rw [g 1, n2] at b; omega
      rcases n4 with ⟨a1, a2, a3, a4, a5, a6, a7, a8⟩ | ⟨a1, a2, a3, a4, a5⟩
      · rcases p4 with ⟨b1, -⟩ | ⟨b1, b2, b3, b4, b5, b6, b7, b8, b9, b10, b11⟩
        · exact absurd a1 b1
        · refine ⟨⟨_, b3, ?_, rl_new (by omega) b6.1 a5 a8 (by rw [e70]; exact hRL.2.2.1.2.1) b7 b8 b9 b10 b11 fP⟩, p2, ?_, ?_, tpe, ?_, ?_⟩
          · show CTx P (P.1 0 4).toNat _
            rw [g 4, a3, Int.toNat_natCast]
            exact a5.fr fP (fun k j x z => tx_r3 (by omega) x z)
          · show (P.1 0 4 = 2 ∧ P.1 0 5 = 22) ∨ (P.1 0 4 = 22 ∧ P.1 0 5 = 2)
            rw [g 4, g 5, a3, a4]; omega
          · show P.1 0 1 = P.1 191 2
            rw [g 1, n2, p3]
          · show P.1 0 2 = P.1 191 26
            rw [g 2, a6, b4]
          · show P.1 0 3 = P.1 191 27
            rw [g 3, a7, b5]
      · rcases p4 with ⟨b1, b2, b3, b4, b5, b6⟩ | ⟨b1, -⟩
        · have c4 : N.1 0 4 = M.1 0 4 := (a5 0 4 (by unfold TfC; omega)).1
          have c5 : N.1 0 5 = M.1 0 5 := (a5 0 5 (by unfold TfC; omega)).1
          have rN : RL N V := hRL.frf hR.1.1 hR.yr a5 (fun k j x z => tx_r1 (by omega) x z)
          refine ⟨⟨V, b3, ?_, rN.frf hR.1.1 r1.yr b6 (fun k j x z => tx_r2 x z)⟩, p2, ?_, ?_, tpe, ?_, ?_⟩
          · show CTx P (P.1 0 4).toNat V
            rw [g 4, c4]
            exact (hX.fr a5 (fun k j x z => tx_r4 (by omega) (by omega) (by omega) x z)).fr fP (fun k j x z => tx_r3 (by omega) x z)
          · show (P.1 0 4 = 2 ∧ P.1 0 5 = 22) ∨ (P.1 0 4 = 22 ∧ P.1 0 5 = 2)
            rw [g 4, g 5, c4, c5]; exact hP
          · show P.1 0 1 = P.1 191 2
            rw [g 1, n2, p3]
          · show P.1 0 2 = P.1 191 26
            rw [g 2, a3, b4]
          · show P.1 0 3 = P.1 191 27
            rw [g 3, a4, b5]
        · exact absurd b1 a1
  · have ec : t_WF_text M x1 = some (M, -2) := by
      unfold t_WF_text
      by_cases a : x1 < 0
      · rw [if_pos a]
      · rw [if_neg a, if_neg (by omega)]
    have em : t_MO_text M x1 = some (setI M 191 0 0, -2) := by
      rcases m_text (x1 := x1) hT with ⟨a, e⟩ | ⟨a, -⟩
      · exact e
      · exact absurd (show 0 ≤ x1 ∧ x1 ≤ M.1 0 1 by omega) hx
    exact ⟨(M, -2), ec, (setI M 191 0 0, -2), em, rfl, h'.at0⟩
end
section
theorem togo_loop {x1 : Int} {M N : Mem} {V : TV} {f A : Int → Int} (hV : VOK V) (hX : CT0 M (M.1 0 4).toNat V) (hA : ∀ t, 0 ≤ t → t < V 0 3 → M.1 (47 + 2) t = A t ∧ N.1 213 t = A t ∧ 0 ≤ A t ∧ A t < cellsV V) (hf : stepOK f (cellsV V)) (hC : ∀ c, 0 ≤ c → c < cellsV V → t_Scene_nextOf M 47 (M.1 0 4).toNat c = f c) (hN : MT0 N V) (hM : ∀ c, 0 ≤ c → c < cellsV V → t_MO_nextOf N 0 c = some (f c)) : ∀ (n i fu fu' : Nat) (v : Int), (i : Int) + (n : Int) = V 0 3 → n < fu → n < fu' → 0 ≤ v → v ≤ (i : Int) → ∃ r, t_Scene_thingsToGo_L4 47 (M.1 0 4).toNat fu M v (i : Int) = some r ∧ t_MO_count_L164 x1 fu' N v (i : Int) = some (N, r) := by
  have hv := hV.1
  intro n
  induction n with
  | zero =>
    intro i fu fu' v g0 g1 g2 v0 v1
    obtain ⟨g, rfl⟩ : ∃ g, fu = g + 1 := ⟨fu - 1, by omega⟩
    obtain ⟨g', rfl⟩ : ∃ g, fu' = g + 1 := ⟨fu' - 1, by omega⟩
    refine ⟨v, ?_, ?_⟩
    · rw [t_Scene_thingsToGo_L4, hX.1.2.2.2.1, if_pos (by omega)]
    · rw [t_MO_count_L164, hN.1.2.2.2.1, if_pos (by omega)]
  | succ n ih =>
    intro i fu fu' v g0 g1 g2 v0 v1
    obtain ⟨g, rfl⟩ : ∃ g, fu = g + 1 := ⟨fu - 1, by omega⟩
    obtain ⟨g', rfl⟩ : ∃ g, fu' = g + 1 := ⟨fu' - 1, by omega⟩
    obtain ⟨a1, a2, a3, a4⟩ := hA (i : Int) (by omega) (by omega)
    have hs := hf (A (i : Int)) a3 a4
    rw [t_Scene_thingsToGo_L4, t_MO_count_L164, hX.1.2.2.2.1, hN.1.2.2.2.1, if_neg (by omega), if_neg (by omega), qguard_pos ⟨by omega, by omega⟩, a2, hM _ a3 a4, obind_some]
    unfold t_Scene_thingsToGo_L31 t_MO_count_L196
    simp (config := { proj := false }) only [qlet]
    rw [look_in (by omega) (by omega), a1, hC _ a3 a4, w32_succ (by omega)]
    by_cases c : f (A (i : Int)) < 0
    · rw [if_pos c, if_pos (show f (A (i : Int)) = -1 by omega)]
      rw [show v + 0 = v by omega, w32_id (x := v) (by unfold InR; omega)]
      exact ih (i + 1) g g' v (by omega) (by omega) (by omega) v0 (by omega)
    · rw [if_neg c, if_neg (show ¬ f (A (i : Int)) = -1 by omega), w32_id (x := v + 1) (by unfold InR; omega)]
      exact ih (i + 1) g g' (v + 1) (by omega) (by omega) (by omega) (by omega) (by omega)
end
