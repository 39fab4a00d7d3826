/-! the reference's years, both sides -/
theorem pfst {α β : Type} (a : α) (b : β) : (a, b).1 = a := rfl
theorem psnd {α β : Type} (a : α) (b : β) : (a, b).2 = b := rfl
def YmW (y : Int) : Nat → Int → Prop := fun q j => ((q = 207 ∨ q = 209 ∨ q = 211) ∧ j = 0) ∨ (q = 212 ∧ 0 ≤ j ∧ j < 4) ∨ ((q = 216 ∨ q = 217 ∨ q = 218) ∧ y ≤ j ∧ j < 99)
theorem m_year {M : Mem} {V : TV} {s : YS} {nets : Int64} {y : Int} (h : RI M V) (hu : M.1 191 43 = 0) (hy : M.1 207 0 = y) (h0 : 0 ≤ y) (h1 : y < 99) (hd : M.1 209 0 = s.1) (hD : ∀ w, 0 ≤ w → w < V 0 2 → DN M 0 w = s.2.1 w) (hn : M.2 210 0 = nets) (hwt : M.2 211 0 = s.2.2) :
    ∃ N, (∀ (x1 : Int) (fu : Nat) (v : Int), v < x1 → 0 ≤ v → v < 1000 → t_MO_years_L41 x1 (fu + 1) M v = t_MO_years_L41 x1 fu N (v + 1)) ∧ RI N V ∧ N.1 191 43 = 0 ∧ N.1 207 0 = y + 1 ∧ N.1 209 0 = (yrS V nets (wlV V) s).1 ∧ (∀ w, 0 ≤ w → w < V 0 2 → DN N 0 w = (yrS V nets (wlV V) s).2.1 w) ∧ N.2 211 0 = (yrS V nets (wlV V) s).2.2 ∧ N.1 216 y = (yrE V s).1 ∧ N.1 217 y = (yrE V s).2.1 ∧ N.1 218 y = (yrE V s).2.2 ∧ Fr (YmW y) M N := by
  have hV := h.1.1
  have hv := hV.1
  obtain ⟨M16, e16⟩ : ∃ K, K = setI (setI (setI M 216 y (-2)) 217 y (-2)) 218 y (-2) := ⟨_, rfl⟩
  have f16 : Fr (fun q j => (q = 216 ∨ q = 217 ∨ q = 218) ∧ j = y) M M16 := by rw [e16]; exact ((Fr.rf.setI (by omega)).setI (by omega)).setI (by omega)
  have r16 : RI M16 V := h.fr f16 (fun k j a q => by unfold RIc at a; omega)
  have u16 : M16.1 191 43 = 0 := by rw [(f16 191 43 (by omega)).1]; exact hu
  have y16 : M16.1 207 0 = y := by rw [(f16 207 0 (by omega)).1]; exact hy
  have w16 : M16.1 193 2 = V 0 2 := r16.1.2.1.1.2.2.1
  have d16 : M16.1 209 0 = s.1 := by rw [(f16 209 0 (by omega)).1]; exact hd
  by_cases c : V 0 2 ≤ 0
  · have eS : yrS V nets (wlV V) s = s := if_pos c
    have eE : yrE V s = (-2, -2, -2) := if_pos c
    rw [eS, eE]
    have f17 : Fr (fun q j => q = 207 ∧ j = 0) M16 (setI M16 207 0 (y + 1)) := Fr.rf.setI ⟨rfl, rfl⟩
    have fA : Fr (fun q j => ((q = 216 ∨ q = 217 ∨ q = 218) ∧ j = y) ∨ (q = 207 ∧ j = 0)) M (setI M16 207 0 (y + 1)) := (f16.mono (fun q j z => Or.inl z)).trans (f17.mono (fun q j z => Or.inr z))
    refine ⟨setI M16 207 0 (y + 1), fun x1 fu v a b z => ?_, r16.set9 u16 (Or.inr ⟨rfl, by omega, by omega⟩), ?_, sI_self _ _ _ _, ?_, fun w a b => ?_, ?_, ?_, ?_, ?_, fA.mono (fun q j z => by unfold YmW; omega)⟩
    · rw [t_MO_years_L41, if_neg (by omega), hy]
      simp (config := { proj := false }) only [qlet]
      rw [qguard_pos ⟨h0, by omega⟩, qguard_pos ⟨h0, by omega⟩, qguard_pos ⟨h0, by omega⟩, ← e16, w16, if_pos c]
      unfold t_MO_years_L149
      simp (config := { proj := false }) only [qlet]
      rw [y16, w32_id (x := y + 1) (by unfold InR; omega), w32_id (x := v + 1) (by unfold InR; omega)]
    · rw [(f17 191 43 (by omega)).1]; exact u16
    · rw [(f17 209 0 (by omega)).1]; exact d16
    · omega
    · rw [(fA 211 0 (by omega)).2]; exact hwt
    · rw [(f17 216 y (by omega)).1, e16, sI_ne (by omega), sI_ne (by omega), sI_self]
    · rw [(f17 217 y (by omega)).1, e16, sI_ne (by omega), sI_self]
    · rw [(f17 218 y (by omega)).1, e16, sI_self]
  · have eS : yrS V nets (wlV V) s = (LC (LC s.1), upA s.2.1 (yrW V s.1) (yrN s.1), flS (nxV V (upA s.2.1 (yrW V s.1) (yrN s.1)) nets (wlV V)) s.2.2 (cellsV V).toNat) := if_neg c
    have eE : yrE V s = (yrW V s.1, yrN s.1, s.2.1 (yrW V s.1)) := if_neg c
    rw [eS, eE]
    have hw := yrW_rng hV c s.1
    have hN : 0 ≤ yrN s.1 ∧ yrN s.1 < 4 := by unfold yrN; omega
    have ew : LC s.1 / 65536 % V 0 2 = yrW V s.1 := rfl
    have en : LC (LC s.1) / 65536 % 4 = yrN s.1 := rfl
    generalize yrW V s.1 = w at *
    generalize yrN s.1 = n at *
    obtain ⟨K1, eK1⟩ : ∃ K, K = setI M16 209 0 (LC s.1) := ⟨_, rfl⟩
    have a1 : t_MO_draw M16 (V 0 2) = some (K1, w) := by rw [m_drawn d16 ⟨by omega, by omega⟩, ew, eK1]
    obtain ⟨M23, e23⟩ : ∃ K, K = setI K1 216 y w := ⟨_, rfl⟩
    obtain ⟨M27, e27⟩ : ∃ K, K = setI M23 218 y (s.2.1 w) := ⟨_, rfl⟩
    have f23 : Fr (fun q j => ((q = 216 ∨ q = 217 ∨ q = 218) ∧ j = y) ∨ (q = 209 ∧ j = 0)) M M23 := by rw [e23, eK1]; exact ((f16.mono (fun q j z => Or.inl z)).setI (by omega)).setI (by omega)
    have f27 : Fr (fun q j => ((q = 216 ∨ q = 217 ∨ q = 218) ∧ j = y) ∨ (q = 209 ∧ j = 0)) M M27 := by rw [e27]; exact f23.setI (by omega)
    have v23 : M23.1 212 w = s.2.1 w := by
      rw [(f23 212 w (by omega)).1, ← hD w hw.1 hw.2]
      unfold DN
      rw [show (4 : Int) * 0 + w = w by omega]
    have d27 : M27.1 209 0 = LC s.1 := by rw [e27, sI_ne (by omega), e23, sI_ne (by omega), eK1, sI_self]
    obtain ⟨K2, eK2⟩ : ∃ K, K = setI M27 209 0 (LC (LC s.1)) := ⟨_, rfl⟩
    have a2 : t_MO_draw M27 4 = some (K2, n) := by rw [m_drawn d27 ⟨by omega, by omega⟩, en, eK2]
    obtain ⟨M31, e31⟩ : ∃ K, K = setI K2 212 w n := ⟨_, rfl⟩
    have v31 : M31.1 212 w = n := by rw [e31]; exact sI_self _ _ _ _
    obtain ⟨M35, e35⟩ : ∃ K, K = setI M31 217 y n := ⟨_, rfl⟩
    have f35 : Fr (fun q j => ((q = 216 ∨ q = 217 ∨ q = 218) ∧ j = y) ∨ (q = 209 ∧ j = 0) ∨ (q = 212 ∧ j = w)) M M35 := by rw [e35, e31, eK2]; exact (((f27.mono (fun q j z => by omega)).setI (by omega)).setI (by omega)).setI (by omega)
    have rK1 : RI K1 V := by rw [eK1]; exact r16.set9 u16 (Or.inl ⟨rfl, LC_rng _⟩)
    have r27 : RI M27 V := by rw [e27, e23]; exact (rK1.scr (by omega)).scr (by omega)
    have u27 : M27.1 191 43 = 0 := by rw [(f27 191 43 (by omega)).1]; exact hu
    have rK2 : RI K2 V := by rw [eK2]; exact r27.set9 u27 (Or.inl ⟨rfl, LC_rng _⟩)
    have r35 : RI M35 V := by rw [e35, e31]; exact (rK2.down0 ⟨hw.1, by omega⟩ ⟨hN.1, by omega⟩).scr (by omega)
    have u35 : M35.1 191 43 = 0 := by rw [(f35 191 43 (by omega)).1]; exact hu
    have y35 : M35.1 207 0 = y := by rw [(f35 207 0 (by omega)).1]; exact hy
    have w35 : M35.1 212 w = n := by rw [e35, sI_ne (by omega)]; exact v31
    have D35 : ∀ x, 0 ≤ x → x < V 0 2 → DN M35 0 x = upA s.2.1 w n x := fun x a b => by
      by_cases e : x = w
      · rw [e, upA_self]; unfold DN; rw [show (4 : Int) * 0 + w = w by omega]; exact w35
      · rw [upA_ne _ e, ← hD x a b]; exact (f35 212 _ (by omega)).1
    obtain ⟨N4, n1, n2, n3, n4⟩ := r35.floods0
    have u4 : N4.1 191 43 = 0 := by rw [(n3 191 43 (by omega)).1]; exact u35
    have y4 : N4.1 207 0 = y := by rw [(n3 207 0 (by omega)).1]; exact y35
    have f5 : Fr (fun q j => q = 207 ∧ j = 0) N4 (setI N4 207 0 (y + 1)) := Fr.rf.setI ⟨rfl, rfl⟩
    have f45 : Fr (fun q j => (q = 211 ∨ q = 207) ∧ j = 0) M35 (setI N4 207 0 (y + 1)) := (n3.mono (fun q j z => by omega)).trans (f5.mono (fun q j z => by omega))
    refine ⟨setI N4 207 0 (y + 1), fun x1 fu v a b z => ?_, n4.set9 u4 (Or.inr ⟨rfl, by omega, by omega⟩), ?_, sI_self _ _ _ _, ?_, fun x a b => ?_, ?_, ?_, ?_, ?_, (f35.mono (fun q j z => by unfold YmW; omega)).trans (f45.mono (fun q j z => by unfold YmW; omega))⟩
    · have v23' : uI K1.1 216 y w 212 w = s.2.1 w := by rw [e23] at v23; exact v23
      have v31' : uI K2.1 212 w n 212 w = n := by rw [e31] at v31; exact v31
      rw [t_MO_years_L41, if_neg (by omega), hy]
      simp (config := { proj := false }) only [qlet]
      rw [qguard_pos ⟨h0, by omega⟩, qguard_pos ⟨h0, by omega⟩, qguard_pos ⟨h0, by omega⟩, ← e16, w16, if_neg c, a1, obind_some]
      simp (config := { proj := false }) only [pfst, psnd]
      rw [qguard_pos ⟨h0, by omega⟩, ← e23, qguard_pos ⟨hw.1, by omega⟩, qguard_pos ⟨h0, by omega⟩, v23', ← e27, a2, obind_some]
      simp (config := { proj := false }) only [pfst, psnd]
      rw [qguard_pos ⟨hw.1, by omega⟩, ← e31, qguard_pos ⟨hw.1, by omega⟩, qguard_pos ⟨h0, by omega⟩, v31', ← e35, n1, obind_some]
      unfold t_MO_years_L149
      simp (config := { proj := false }) only [qlet]
      rw [y4, w32_id (x := y + 1) (by unfold InR; omega), w32_id (x := v + 1) (by unfold InR; omega)]
    · rw [(f45 191 43 (by omega)).1]; exact u35
    · rw [(f45 209 0 (by omega)).1, e35, sI_ne (by omega), e31, sI_ne (by omega), eK2, sI_self]
    · exact Eq.trans (show DN (setI N4 207 0 (y + 1)) 0 x = DN M35 0 x from (f45 212 _ (by omega)).1) (D35 x a b)
    · rw [(f5 211 0 (by omega)).2, n2, (f35 211 0 (by omega)).2, hwt]
      unfold nxR
      rw [(f35 210 0 (by omega)).2, hn]
      exact fl_congr hV D35 _ _ _
    · rw [(f45 216 y (by omega)).1, e35, sI_ne (by omega), e31, sI_ne (by omega), eK2, sI_ne (by omega), e27, sI_ne (by omega), e23, sI_self]
    · rw [(f45 217 y (by omega)).1, e35, sI_self]
    · rw [(f45 218 y (by omega)).1, e35, sI_ne (by omega), e31, sI_ne (by omega), eK2, sI_ne (by omega), e27, sI_self]
theorem m_years_loop {x1 : Int} {V : TV} {nets : Int64} (h2 : x1 ≤ 99) : ∀ (n fu : Nat) (M : Mem) (s : YS) (v y : Int), v + (n : Int) = x1 → 0 ≤ v → n < fu → 0 ≤ y → y + (n : Int) ≤ 99 → RI M V → (0 < n → M.1 191 43 = 0) → M.1 207 0 = y → M.1 209 0 = s.1 → (∀ w, 0 ≤ w → w < V 0 2 → DN M 0 w = s.2.1 w) → M.2 210 0 = nets → M.2 211 0 = s.2.2 →
    ∃ N, t_MO_years_L41 x1 fu M v = some (N, y + (n : Int)) ∧ Fr (YmW y) M N ∧ N.1 207 0 = y + (n : Int) ∧ N.1 209 0 = (yrI V nets (wlV V) n s).1 ∧ (∀ w, 0 ≤ w → w < V 0 2 → DN N 0 w = (yrI V nets (wlV V) n s).2.1 w) ∧ N.2 211 0 = (yrI V nets (wlV V) n s).2.2 ∧ ∀ i : Nat, i < n → N.1 216 (y + (i : Int)) = (yrE V (yrI V nets (wlV V) i s)).1 ∧ N.1 217 (y + (i : Int)) = (yrE V (yrI V nets (wlV V) i s)).2.1 ∧ N.1 218 (y + (i : Int)) = (yrE V (yrI V nets (wlV V) i s)).2.2 := by
  intro n
  induction n with
  | zero =>
    intro fu M s v y g0 g1 g2 a1 a3 h hu hy hd hD hn hw
    obtain ⟨g, rfl⟩ : ∃ g, fu = g + 1 := ⟨fu - 1, by omega⟩
    rw [t_MO_years_L41, if_pos (by omega), hy]
    refine ⟨M, ?_, Fr.rf, by omega, hd, hD, hw, fun i hi => by omega⟩
    rw [show y + ((0 : Nat) : Int) = y by omega]
  | succ n ih =>
    intro fu M s v y g0 g1 g2 a1 a3 h hu hy hd hD hn hw
    obtain ⟨g, rfl⟩ : ∃ g, fu = g + 1 := ⟨fu - 1, by omega⟩
    obtain ⟨K, k1, k2, k3, k4, k5, k6, k7, k8, k9, k10, k11⟩ := m_year h (hu (by omega)) hy a1 (by omega) hd hD hn hw
    rw [k1 x1 g v (by omega) g1 (by omega)]
    have kn : K.2 210 0 = nets := by rw [(k11 210 0 (by unfold YmW; omega)).2]; exact hn
    obtain ⟨N, n1, n2, n3, n4, n5, n6, n7⟩ := ih g K (yrS V nets (wlV V) s) (v + 1) (y + 1) (by omega) (by omega) (by omega) (by omega) (by omega) k2 (fun _ => k3) k4 k5 k6 kn k7
    have ey : y + 1 + (n : Int) = y + ((n + 1 : Nat) : Int) := by omega
    rw [ey] at n1 n3
    refine ⟨N, n1, k11.trans (n2.mono (fun q j z => by unfold YmW at z ⊢; omega)), n3, n4, n5, n6, fun i hi => ?_⟩
    cases i with
    | zero =>
      have e0 : y + ((0 : Nat) : Int) = y := by omega
      rw [e0, (n2 216 y (by unfold YmW; omega)).1, (n2 217 y (by unfold YmW; omega)).1, (n2 218 y (by unfold YmW; omega)).1]
      exact ⟨k8, k9, k10⟩
    | succ i =>
      have e1 : y + ((i + 1 : Nat) : Int) = y + 1 + (i : Int) := by omega
      rw [e1]
      exact n7 i (by omega)
theorem bs_years {M : Mem} (h : LI M) {x1 : Int} (h1 : InR x1) : Ok (fun q => Ok (fun r => q.2 = r.2 ∧ LI r.1) (t_MO_years q.1 x1)) (t_WF_years M x1) := by
  have h' := h
  have hTT := h.T
  obtain ⟨hI, ⟨V, hR, hX, hRL⟩, -⟩ := h
  have hV := hR.1.1
  have hv := hV.1
  have hC := hV.cells
  have hS : CScF M 47 V (DN M 0) (AT M 0) (ST M 0) (LN M 0) (M.2 210 0) (M.2 211 0) (wlV V) := hRL.1
  obtain ⟨k1, k2, k3, k4⟩ := hRL.2.1
  have hy := hR.2.2.1.2
  have okC := sf_WF_years hI h1
  have q0 : ∀ j, j ≠ 0 → (setI M 191 0 0).1 191 j = M.1 191 j := fun j z => sI_ne (by omega)
  have q7 : (setI M 191 0 0).1 207 0 = M.1 207 0 := sI_ne (by omega)
  have same : ∀ v, t_WF_years M x1 = some (M, v) → t_MO_years M x1 = some (setI M 191 0 0, v) → Ok (fun q => Ok (fun r => q.2 = r.2 ∧ LI r.1) (t_MO_years q.1 x1)) (t_WF_years M x1) := fun v e1 e2 => ⟨_, e1, _, e2, rfl, h'.at0⟩
  by_cases c1 : x1 < 0
  · refine same (-1) ?_ ?_
    · unfold t_WF_years; rw [if_pos c1]
    · unfold t_MO_years; simp (config := { proj := false }) only [qlet]; rw [if_pos c1]
  by_cases c2 : 99 < x1
  · refine same (-1) ?_ ?_
    · unfold t_WF_years; rw [if_neg c1, if_pos c2]
    · unfold t_MO_years; simp (config := { proj := false }) only [qlet]; rw [if_neg c1, if_pos c2]
  have ew : w32 (M.1 207 0 + x1) = M.1 207 0 + x1 := w32_id (by unfold InR; omega)
  by_cases c3 : M.1 207 0 + x1 ≤ 99
  rotate_left
  · refine same (-1) ?_ ?_
    · unfold t_WF_years; rw [if_neg c1, if_neg c2, k1, ew, if_neg c3]
    · unfold t_MO_years; simp (config := { proj := false }) only [qlet]; rw [if_neg c1, if_neg c2, q7, ew, if_neg c3]
  by_cases c4 : x1 ≤ 0
  · obtain ⟨g, hg⟩ : ∃ g, FU = g + 1 := ⟨FU - 1, by have : 0 < FU := fu_big (by omega); omega⟩
    refine same (M.1 207 0) ?_ ?_
    · unfold t_WF_years; rw [if_neg c1, if_neg c2, k1, ew, if_pos c3, hg, t_WF_years_L28, if_pos c4, if_pos c4]
      unfold t_WF_years_L73
      rw [k1]
    · unfold t_MO_years t_MO_years_L39; simp (config := { proj := false }) only [qlet]; rw [if_neg c1, if_neg c2, q7, ew, if_pos c3, if_pos c4, hg, t_MO_years_L41, if_pos c4, q7]
  obtain ⟨n, hn⟩ : ∃ n : Nat, (n : Int) = x1 := ⟨x1.toNat, by omega⟩
  obtain ⟨y, ey⟩ : ∃ y, y = M.1 207 0 := ⟨_, rfl⟩
  obtain ⟨s, es⟩ : ∃ s : YS, s = (M.1 209 0, DN M 0, M.2 211 0) := ⟨_, rfl⟩
  have s1 : s.1 = M.1 209 0 := by rw [es]
  have s2 : s.2.1 = DN M 0 := by rw [es]
  have s3 : s.2.2 = M.2 211 0 := by rw [es]
  obtain ⟨N0, n1, n2, -, n4, n5, n6, n7⟩ := c_years_loop (T := (M.1 0 4).toNat) (x1 := x1) hV hTT.2 ⟨hX.1, hX.2.1⟩ rfl (by omega) n FU M s 0 y y (by omega) (by omega) (fu_big (by omega)) (by omega) (by omega) (by omega) Fr.rf (by rw [s2, s3]; exact hS) (by rw [s1]; omega) (by rw [s1]; exact k3) (by rw [ey]; exact k1)
  have hw : t_WF_years M x1 = some (setI (setI N0 70 2 0) 177 8 0, y + (n : Int)) := by
    unfold t_WF_years
    rw [if_neg c1, if_neg c2, k1, ew, if_pos c3, n1]
    unfold yeE
    rw [if_neg c4, sI_ne (by omega), sI_ne (by omega), n6]
  have f3 : Fr (fun q j => (q = 70 ∧ j = 2) ∨ (q = 177 ∧ j = 8)) N0 (setI (setI N0 70 2 0) 177 8 0) := (Fr.rf.setI (by omega)).setI (by omega)
  have v2 : (setI (setI N0 70 2 0) 177 8 0).1 70 2 = 0 := by rw [sI_ne (by omega), sI_self]
  have v8 : (setI (setI N0 70 2 0) 177 8 0).1 177 8 = 0 := sI_self _ _ _ _
  have n4' := n4.fr f3 (fun q j z x => by unfold CsW at z; omega)
  have n5' : (setI (setI N0 70 2 0) 177 8 0).2 62 5 = q_i2l (yrI V (M.2 210 0) (wlV V) n s).1 := n5
  have n6' : (setI (setI N0 70 2 0) 177 8 0).1 62 3 = y + (n : Int) := by rw [(f3 62 3 (by omega)).1]; exact n6
  have n7' : ∀ i : Nat, i < n → (setI (setI N0 70 2 0) 177 8 0).1 63 (y + (i : Int)) = (yrE V (yrI V (M.2 210 0) (wlV V) i s)).1 ∧ (setI (setI N0 70 2 0) 177 8 0).1 64 (y + (i : Int)) = (yrE V (yrI V (M.2 210 0) (wlV V) i s)).2.1 ∧ (setI (setI N0 70 2 0) 177 8 0).1 65 (y + (i : Int)) = (yrE V (yrI V (M.2 210 0) (wlV V) i s)).2.2 := fun i hi => by
    rw [(f3 63 _ (by omega)).1, (f3 64 _ (by omega)).1, (f3 65 _ (by omega)).1]; exact n7 i hi
  have fN : Fr (fun q j => YcW y q j ∨ (q = 70 ∧ j = 2) ∨ (q = 177 ∧ j = 8)) M (setI (setI N0 70 2 0) 177 8 0) := (n2.mono (fun q j z => Or.inl z)).trans (f3.mono (fun q j z => Or.inr z))
  generalize setI (setI N0 70 2 0) 177 8 0 = N at *
  obtain ⟨u, e, hu⟩ := okC
  have : u = (N, y + (n : Int)) := Option.some.inj (e.symm.trans hw)
  subst this
  have hIN : IM N := hu.1
  have hRN : RI N V := hR.fr fN (fun q j a z => by unfold RIc at a; unfold YcW at z; omega)
  have eN : ∀ q j, 191 ≤ q → N.1 q j = M.1 q j ∧ N.2 q j = M.2 q j := fun q j x => fN q j (by unfold YcW; omega)
  obtain ⟨P, p0, p1⟩ := ri_years hRN x1
  have hIP := im_MO_years hIN h1 P p0
  refine ⟨(N, y + (n : Int)), hw, P, p0, ?_⟩
  have hRM5 : RI (setI (setI N 191 0 0) 191 43 0) V := (hRN.set0 0).no_undo
  have f5 : Fr (fun q j => q = 191 ∧ (j = 0 ∨ j = 43)) N (setI (setI N 191 0 0) 191 43 0) := (Fr.rf.setI (by omega)).setI (by omega)
  have e5 : ∀ q j, 192 ≤ q → (setI (setI N 191 0 0) 191 43 0).1 q j = M.1 q j ∧ (setI (setI N 191 0 0) 191 43 0).2 q j = M.2 q j := fun q j x => ⟨((f5 q j (by omega)).1).trans (eN q j (by omega)).1, ((f5 q j (by omega)).2).trans (eN q j (by omega)).2⟩
  have v43 : (setI (setI N 191 0 0) 191 43 0).1 191 43 = 0 := sI_self _ _ _ _
  obtain ⟨Q, b1, b2, b3, b4, b5, b6, b7⟩ := m_years_loop (V := V) (nets := M.2 210 0) (x1 := x1) (by omega) n FU (setI (setI N 191 0 0) 191 43 0) s 0 y (by omega) (by omega) (fu_big (by omega)) (by omega) (by omega) hRM5 (fun _ => v43) (by rw [(e5 207 0 (by omega)).1, ey]) (by rw [(e5 209 0 (by omega)).1, s1]) (fun w a b => by rw [s2]; exact (e5 212 _ (by omega)).1) (e5 210 0 (by omega)).2 (by rw [s3]; exact (e5 211 0 (by omega)).2)
  have r7 : (setI N 191 0 0).1 207 0 = M.1 207 0 := by rw [sI_ne (by omega)]; exact (eN 207 0 (by omega)).1
  have q1 : t_MO_years N x1 = some (Q, y + (n : Int)) := by
    unfold t_MO_years t_MO_years_L39
    simp (config := { proj := false }) only [qlet]
    rw [if_neg c1, if_neg c2, r7, ew, if_pos c3, if_neg c4]
    exact b1
  have ePQ : P = (Q, y + (n : Int)) := Option.some.inj (p0.symm.trans q1)
  subst ePQ
  have fP : Fr (fun q j => (q = 191 ∧ (j = 0 ∨ j = 43)) ∨ YmW y q j) N Q := (f5.mono (fun q j z => Or.inl z)).trans (b2.mono (fun q j z => Or.inr z))
  have fA : Fr (fun q j => (YcW y q j ∨ (q = 70 ∧ j = 2) ∨ (q = 177 ∧ j = 8)) ∨ ((q = 191 ∧ (j = 0 ∨ j = 43)) ∨ YmW y q j)) M Q := (fN.mono (fun q j z => Or.inl z)).trans (fP.mono (fun q j z => Or.inr z))
  have u43 : Q.1 191 43 = 0 := by rw [(b2 191 43 (by unfold YmW; omega)).1]; exact v43
  have hy0 : 0 ≤ y := by omega
  refine ⟨rfl, h'.two hX hIP.1 p1 ⟨?_, ?_, ?_, ?_, ?_, ?_⟩ (fA.mono (fun q j z => by unfold YcW YmW at z; unfold KpA; omega))⟩
  · have k := n4'.fr fP (fun q j z x => by unfold CsW at z; unfold YmW at x; omega)
    exact k.eq (fun w a b => (b5 w a b).symm) (fun t a b => ⟨((fA 213 _ (fun x => by unfold YcW YmW at x; omega)).1).symm, ((fA 214 _ (fun x => by unfold YcW YmW at x; omega)).1).symm, ((fA 215 _ (fun x => by unfold YcW YmW at x; omega)).1).symm⟩) ((fA 210 0 (fun x => by unfold YcW YmW at x; omega)).2).symm b6.symm
  · refine ⟨?_, ?_, ?_, fun z a b => ?_⟩
    · rw [(fP 62 3 (fun x => by unfold YmW at x; omega)).1, n6', b3]
    · rw [(fA 62 4 (fun x => by unfold YcW YmW at x; omega)).1, (fA 208 0 (fun x => by unfold YcW YmW at x; omega)).1]; exact k2
    · rw [(fP 62 5 (fun x => by unfold YmW at x; omega)).2, n5', b4]
    · rw [b3] at b
      rw [show (100 : Int) * 0 + z = z by omega]
      by_cases e : z < y
      · have k := k4 z a (by omega)
        rw [show (100 : Int) * 0 + z = z by omega] at k
        rw [(fA (62 + 1) z (fun x => by unfold YcW YmW at x; omega)).1, (fA (62 + 2) z (fun x => by unfold YcW YmW at x; omega)).1, (fA (62 + 3) z (fun x => by unfold YcW YmW at x; omega)).1, (fA 216 z (fun x => by unfold YcW YmW at x; omega)).1, (fA 217 z (fun x => by unfold YcW YmW at x; omega)).1, (fA 218 z (fun x => by unfold YcW YmW at x; omega)).1]
        exact k
      · obtain ⟨i, hi⟩ : ∃ i : Nat, z = y + (i : Int) := ⟨(z - y).toNat, by omega⟩
        subst hi
        have t := n7' i (by omega)
        have t2 := b7 i (by omega)
        rw [(fP (62 + 1) _ (fun x => by unfold YmW at x; omega)).1, (fP (62 + 2) _ (fun x => by unfold YmW at x; omega)).1, (fP (62 + 3) _ (fun x => by unfold YmW at x; omega)).1, t2.1, t2.2.1, t2.2.2]
        exact t
  · refine past_none ?_ ?_ u43
    · rw [(fP 70 2 (fun x => by unfold YmW at x; omega)).1]; exact v2
    · rw [(fA 70 1 (fun x => by unfold YcW YmW at x; omega)).1]; exact hRL.2.2.1.2.1
  · exact hRL.2.2.2.1.fr hV hR.yr.2 fA (fun q j z x => by unfold CsW RwW ChW RgR at z; unfold YcW YmW at x; omega)
  · exact hRL.2.2.2.2.1.fr fA (fun q j z x => by unfold YcW YmW at x; omega)
  · exact CaR.zero (((fP 177 8 (fun x => by unfold YmW at x; omega)).1).trans v8)
