/-! ===== back, beats ===== -/
theorem bs_back {M : Mem} (h : LI M) : Ok (fun r => (t_WF_back M).2 = r.2 ∧ LI r.1) (t_MO_back (t_WF_back M).1) := by
  have h' := h
  obtain ⟨hI, ⟨V, hR, hX, hRL⟩, -⟩ := h
  have hV := hR.1.1
  have hv := hV.1
  have hIC := (sf_WF_back hI).1
  have h42 := hR.2.2.2.1
  have g00 : ∀ N : Mem, Fr (fun q j => q = 191 ∧ j = 0) N (setI N 191 0 0) := fun N => Fr.rf.setI ⟨rfl, rfl⟩
  by_cases c1 : M.1 191 42 = 0
  · have hw : t_WF_back M = (M, -1) := by
      unfold t_WF_back
      rw [if_pos (hRL.2.2.2.1.1.trans c1)]
    rw [hw]
    refine ⟨(setI M 191 0 0, -1), ?_, rfl, h'.at0⟩
    unfold t_MO_back
    simp (config := { proj := false }) only [qlet]
    rw [((g00 M) 191 42 (by omega)).1, if_pos c1]
  have c2 : M.1 191 42 = 1 := h42.1.resolve_left c1
  obtain ⟨i1, i2⟩ := hRL.2.2.2.1.2 c2
  have i1' : CScF M 57 V (DN M 2) (AT M 2) (ST M 2) (LN M 2) (M.2 210 2) (M.2 211 2) (wlV V) := i1
  obtain ⟨y1, y2, y3, y4, y5⟩ := h42.2 c2
  obtain ⟨k1, k2, k3, k4⟩ := i2
  have hcl : ∃ N, t_WF_back M = (N, M.1 207 2) ∧ Fr (fun q j => (47 ≤ q ∧ q ≤ 51) ∨ ChW 62 q j ∨ (q = 70 ∧ j = 2) ∨ (q = 177 ∧ j = 8)) M N ∧ CScF N 47 V (DN M 2) (AT M 2) (ST M 2) (LN M 2) (M.2 210 2) (M.2 211 2) (wlV V) ∧ N.1 62 3 = M.1 207 2 ∧ N.1 62 4 = M.1 208 2 ∧ N.2 62 5 = q_i2l (M.1 209 2) ∧ (∀ y, 0 ≤ y → y < 99 → N.1 63 y = M.1 67 y ∧ N.1 64 y = M.1 68 y ∧ N.1 65 y = M.1 69 y) ∧ N.1 70 2 = 0 ∧ N.1 177 8 = 0 := by
    unfold t_WF_back
    rw [if_neg (show ¬ M.1 0 13 = 0 from fun z => c1 (by rw [← hRL.2.2.2.1.1]; exact z))]
    unfold t_Past_clear
    simp (config := { proj := false }) only [qlet]
    obtain ⟨s1, s2⟩ := c_scopy (k0 := 47) (k1 := 57) hV (Or.inr (by omega)) i1'
    generalize t_Scene_copy M 47 57 = N1 at *
    obtain ⟨t1, t2, t3, t4, t5⟩ := c_ccopy N1 (k0 := 62) (k1 := 66) (Or.inr (by omega))
    generalize t_Chronicle_copy N1 62 66 = N2 at *
    have e : ∀ q j, ChW 66 q j → N1.1 q j = M.1 q j ∧ N1.2 q j = M.2 q j := fun q j z => s2 q j (fun y => by unfold ChW at z; unfold CsW at y; omega)
    have f3 : Fr (fun q j => (q = 70 ∧ j = 2) ∨ (q = 177 ∧ j = 8)) N2 (setI (setI N2 70 2 0) 177 8 0) := (Fr.rf.setI (by omega)).setI (by omega)
    have z3 : (setI (setI N2 70 2 0) 177 8 0).1 62 3 = M.1 207 2 := by rw [(f3 62 3 (by omega)).1, t2, (e 66 3 (by unfold ChW; omega)).1]; exact k1
    rw [z3]
    refine ⟨_, rfl, ((s2.mono (fun q j z => by unfold CsW at z; omega)).trans (t1.mono (fun q j z => Or.inr (Or.inl z)))).trans (f3.mono (fun q j z => by omega)), (s1.fr t1 (fun q j z y => by unfold CsW at z; unfold ChW at y; omega)).fr f3 (fun q j z y => by unfold CsW at z; omega), z3, ?_, ?_, fun y a b => ⟨?_, ?_, ?_⟩, ?_, sI_self _ _ _ _⟩
    · rw [(f3 62 4 (by omega)).1, t3, (e 66 4 (by unfold ChW; omega)).1]; exact k2
    · rw [(f3 62 5 (by omega)).2, t4, (e 66 5 (by unfold ChW; omega)).2]; exact k3
    · rw [(f3 63 y (by omega)).1]; exact ((t5 y a b).1).trans (e 67 y (by unfold ChW; omega)).1
    · rw [(f3 64 y (by omega)).1]; exact ((t5 y a b).2.1).trans (e 68 y (by unfold ChW; omega)).1
    · rw [(f3 65 y (by omega)).1]; exact ((t5 y a b).2.2).trans (e 69 y (by unfold ChW; omega)).1
    · rw [sI_ne (by omega), sI_self]
  obtain ⟨N, n1, n2, n3, n4, n5, n6, n7, n8, n9⟩ := hcl
  rw [n1] at hIC ⊢
  have hRN : RI N V := hR.fr n2 (fun q j a z => by unfold RIc at a; unfold ChW at z; omega)
  have eN : ∀ q j, 191 ≤ q → N.1 q j = M.1 q j ∧ N.2 q j = M.2 q j := fun q j x => n2 q j (fun z => by unfold ChW at z; omega)
  obtain ⟨P, p0, p1⟩ := ri_back hRN
  have hIP := im_MO_back hIC P p0
  have p0' := p0
  unfold t_MO_back at p0'
  simp (config := { proj := false }) only [qlet] at p0'
  have g0 := g00 N
  have w42 : (setI N 191 0 0).1 191 42 = M.1 191 42 := ((g0 191 42 (by omega)).1).trans (eN 191 42 (by omega)).1
  rw [w42, if_neg c1] at p0'
  obtain ⟨Q1, a1, a2, a3⟩ := m_copies (M := setI N 191 0 0) (x1 := 0) (x2 := 2) (by omega) (by omega) (by omega)
  obtain ⟨Q2, b1, b2, b3⟩ := m_copiesLog (M := Q1) (x1 := 0) (x2 := 2) (by omega) (by omega) (by omega)
  rw [a1, obind_some, b1, obind_some] at p0'
  have f3 : Fr (fun q j => q = 191 ∧ j = 43) Q2 (setI Q2 191 43 0) := Fr.rf.setI ⟨rfl, rfl⟩
  have v43 : (setI Q2 191 43 0).1 191 43 = 0 := sI_self _ _ _ _
  generalize setI Q2 191 43 0 = Q at *
  have eP := Option.some.inj p0'
  subst eP
  have fP : Fr (fun q j => (q = 191 ∧ (j = 0 ∨ j = 43)) ∨ CW 0 q j ∨ LW 0 q j) N Q := (((g0.mono (fun q j z => by omega)).trans (a2.mono (fun q j z => Or.inr (Or.inl z)))).trans (b2.mono (fun q j z => Or.inr (Or.inr z)))).trans (f3.mono (fun q j z => by omega))
  have fA : Fr (fun q j => ((47 ≤ q ∧ q ≤ 51) ∨ ChW 62 q j ∨ (q = 70 ∧ j = 2) ∨ (q = 177 ∧ j = 8)) ∨ ((q = 191 ∧ (j = 0 ∨ j = 43)) ∨ CW 0 q j ∨ LW 0 q j)) M Q := (n2.mono (fun q j z => Or.inl z)).trans (fP.mono (fun q j z => Or.inr z))
  have row : RowEq Q 0 M 2 := ((((RowEq.fr f3 (fun q j z w => by unfold CW at z; omega)).trans (RowEq.fr b2 (fun q j z w => by unfold CW at z; unfold LW at w; omega))).trans a3).trans (RowEq.fr g0 (fun q j z w => by unfold CW at z; omega))).trans (RowEq.fr n2 (fun q j z w => by unfold CW at z; unfold ChW at w; omega))
  refine ⟨(Q, Q.1 207 0), p0, row.1.1.symm, ?_⟩
  refine h'.two hX hIP.1 p1 ⟨?_, ?_, ?_, ?_, ?_, ?_⟩ (fA.mono (fun q j z => by unfold ChW CW LW at z; unfold KpA; omega))
  · exact CSR.of hV (n3.fr fP (fun q j z y => by unfold CsW at z; unfold CW LW at y; omega)) row
  · have c : ∀ q j, ChW 62 q j → Q.1 q j = N.1 q j ∧ Q.2 q j = N.2 q j := fun q j z => fP q j (fun y => by unfold ChW at z; unfold CW LW at y; omega)
    refine ⟨by rw [(c 62 3 (by unfold ChW; omega)).1, n4, row.1.1], by rw [(c 62 4 (by unfold ChW; omega)).1, n5, row.1.2.1], by rw [(c 62 5 (by unfold ChW; omega)).2, n6, row.1.2.2.1], fun y a b => ?_⟩
    rw [row.1.1] at b
    have b9 : y < 99 := by omega
    have lg : ∀ k, (k = 216 ∨ k = 217 ∨ k = 218) → Q.1 k (100 * 0 + y) = M.1 k (100 * 2 + y) := fun k hk => by
      rw [(f3 k _ (by omega)).1, b3 k y hk a (by omega), (a2 k _ (fun z => by unfold CW at z; omega)).1, (g0 k _ (by omega)).1, (eN k _ (by omega)).1]
    rw [(c (62 + 1) y (by unfold ChW; omega)).1, (c (62 + 2) y (by unfold ChW; omega)).1, (c (62 + 3) y (by unfold ChW; omega)).1, lg 216 (by omega), lg 217 (by omega), lg 218 (by omega), (n7 y a b9).1, (n7 y a b9).2.1, (n7 y a b9).2.2]
    exact k4 y a b
  · refine past_none ?_ ?_ v43
    · rw [(fP 70 2 (fun y => by unfold CW LW at y; omega)).1]; exact n8
    · rw [(fA 70 1 (fun y => by unfold ChW CW LW at y; omega)).1]; exact hRL.2.2.1.2.1
  · exact hRL.2.2.2.1.fr hV hR.yr.2 fA (fun q j z y => by unfold CsW RwW ChW RgR at z; unfold ChW CW LW at y; omega)
  · exact hRL.2.2.2.2.1.fr fA (fun q j z y => by unfold ChW CW LW at y; omega)
  · exact CaR.zero (((fP 177 8 (fun y => by unfold CW LW at y; omega)).1).trans n9)
/-! beats -/
def btI (V : TV) (way : Bool) (f : Int → Int) : Nat → BT → BT
  | 0, q => q
  | n + 1, q => btI V way f n ((btS V f way q.1 q.2.1 q.2.2.1 (V 0 3).toNat).1, (btS V f way q.1 q.2.1 q.2.2.1 (V 0 3).toNat).2.1, (btS V f way q.1 q.2.1 q.2.2.1 (V 0 3).toNat).2.2.1, w32 (q.2.2.2 + (btS V f way q.1 q.2.1 q.2.2.1 (V 0 3).toNat).2.2.2))
def beE (x1 : Int) (M : Mem) (v : Int) : Option (Mem × Int) := if x1 ≤ 0 then some (M, v) else some (setI (setI (setI M 62 4 (w32 (M.1 62 4 + x1))) 70 2 0) 177 8 0, v)
theorem c_beats_loop {M0 : Mem} {x1 : Int} {T : Nat} {V : TV} {D : Int → Int} {nets wat : Int64} {wl : Int → Bool} (hV : VOK V) (hT : T = 2 ∨ T = 22) (hX : CT0 M0 T V ∧ CTs M0 T V) (hT0 : (M0.1 0 4).toNat = T) (h2 : x1 ≤ 200) : ∀ (n fu : Nat) (M : Mem) (q : BT) (v3 : Int), v3 + (n : Int) = x1 → 0 ≤ v3 → n < fu → Fr (BtW 47) M0 M → CScF M 47 V D q.1 q.2.1 q.2.2.1 nets wat wl → (∀ t, 0 ≤ t → t < V 0 3 → -1 ≤ q.1 t ∧ q.1 t < cellsV V) →
    ∃ N, t_WF_beats_L17 x1 fu M q.2.2.2 v3 = beE x1 N (btI V true (nxV V D nets wl) n q).2.2.2 ∧ Fr (BtW 47) M0 N ∧ CScF N 47 V D (btI V true (nxV V D nets wl) n q).1 (btI V true (nxV V D nets wl) n q).2.1 (btI V true (nxV V D nets wl) n q).2.2.1 nets wat wl := by
  intro n
  induction n with
  | zero =>
    intro fu M q v3 g0 g1 g2 hF h hA
    obtain ⟨g, rfl⟩ : ∃ g, fu = g + 1 := ⟨fu - 1, by omega⟩
    rw [t_WF_beats_L17, if_pos (by omega)]
    exact ⟨M, rfl, hF, h⟩
  | succ n ih =>
    intro fu M q v3 g0 g1 g2 hF h hA
    obtain ⟨g, rfl⟩ : ∃ g, fu = g + 1 := ⟨fu - 1, by omega⟩
    have hX' : CT0 M T V ∧ CTs M T V := ⟨CT0.fr hF (fun q j x y z => by unfold BtW at z; omega) hX.1, CTs.fr hF (fun q j x y z => by unfold BtW at z; omega) hX.2⟩
    have eT : (M.1 0 4).toNat = T := by rw [(hF 0 4 (by unfold BtW; omega)).1]; exact hT0
    rw [t_WF_beats_L17, if_neg (by omega), eT, w32_id (x := v3 + 1) (by unfold InR; omega)]
    obtain ⟨N, n1, n2, n3⟩ := c_beat (x2 := 1) hV hT (by omega) hX' h hA
    have hd : decide ((1 : Int) ≠ 0) = true := by decide
    rw [hd] at n1 n2
    rw [n1, obind_some, btI]
    exact ih g N (_, _, _, _) (v3 + 1) (by omega) (by omega) (by omega) (hF.trans n3) n2 (fun t a b => btS_rng (nx_ok hV D nets wl) hA _ (by have := hV.1; omega) t a b)
def TP (M : Mem) (a : Int) (V : TV) (A S L : Int → Int) : Prop := ∀ t, 0 ≤ t → t < V 0 3 → M.1 213 (8 * a + t) = A t ∧ M.1 214 (8 * a + t) = S t ∧ M.1 215 (8 * a + t) = L t
theorem m_beats_loop {x1 : Int} {V : TV} {D : Int → Int} {nets : Int64} (h2 : x1 ≤ 200) : ∀ (n fu : Nat) (M : Mem) (q : BT) (v3 : Int), v3 + (n : Int) = x1 → 0 ≤ v3 → n < fu → RI M V → IM M → (0 < n → M.1 191 43 = 0) → (∀ w, 0 ≤ w → w < V 0 2 → DN M 0 w = D w) → M.2 210 0 = nets → TP M 0 V q.1 q.2.1 q.2.2.1 →
    ∃ N, t_MO_beats_L31 x1 fu M q.2.2.2 v3 = some (N, (btI V true (nxV V D nets (wlV V)) n q).2.2.2) ∧ Fr (BW 0) M N ∧ TP N 0 V (btI V true (nxV V D nets (wlV V)) n q).1 (btI V true (nxV V D nets (wlV V)) n q).2.1 (btI V true (nxV V D nets (wlV V)) n q).2.2.1 ∧ N.1 208 0 = w32 (M.1 208 0 + (n : Int)) := by
  intro n
  induction n with
  | zero =>
    intro fu M q v3 g0 g1 g2 h hI hu hD hn hT
    obtain ⟨g, rfl⟩ : ∃ g, fu = g + 1 := ⟨fu - 1, by omega⟩
    rw [t_MO_beats_L31, if_pos (by omega)]
    refine ⟨M, rfl, Fr.rf, hT, ?_⟩
    rw [show M.1 208 0 + ((0 : Nat) : Int) = M.1 208 0 by omega]
    exact (w32_id (hI 208 0)).symm
  | succ n ih =>
    intro fu M q v3 g0 g1 g2 h hI hu hD hn hT
    obtain ⟨g, rfl⟩ : ∃ g, fu = g + 1 := ⟨fu - 1, by omega⟩
    have hV := h.1.1
    have hv := hV.1
    have hC := hV.cells
    have hr := h.row0
    have h44 := h.2.1
    have hs : stepOK (nxV V D nets (wlV V)) (cellsV V) := nx_ok hV _ _ _
    have hA : ∀ t, 0 ≤ t → t < V 0 3 → 0 ≤ q.1 t ∧ q.1 t < cellsV V := fun t a b => by rw [← (hT t a b).1]; exact hr.2.1 t a b
    have hd : decide (M.1 191 44 ≠ 1) = true := by rw [h44]; decide
    obtain ⟨N, e1, e2, e3, e4⟩ := m_beat (M := M) (at_ := 0) (f := nxV V D nets (wlV V)) (A := q.1) (S := q.2.1) (L := q.2.2.1) (by omega) hV hC.2 hs (fun t a b => by have := hA t a b; omega) (fun t a b _ => (hA t a b).1) (fun N hF => by
      have hN := (h.nb hr).fr hF (fun k j x q => by unfold TW at q; omega)
      have e : nxR N 0 V = nxR M 0 V := nxR_fr hF (fun k j x q => by unfold TW at q; omega)
      refine ⟨hN.2.1, fun c x y => ?_⟩
      rw [hN.next (by omega) x y, e]
      unfold nxR
      rw [hn, nx_congr hV hD nets (wlV V) x (by omega)]) (fun t a b => Or.inr ⟨fun z => by omega, (hT t a b).1, (hT t a b).2.1, (hT t a b).2.2⟩)
    rw [hd] at e1 e3
    obtain ⟨N', f1, f2, f3, -⟩ := h.beat (hu (by omega))
    have eNN : N' = N := by
      have := Option.some.inj (f1.symm.trans e1)
      exact congrArg Prod.fst this
    subst eNN
    have hIN : IM N' := (im_MO_beat hI (by unfold InR; omega) _ f1).1
    have hT' : TP N' 0 V (btS V (nxV V D nets (wlV V)) true q.1 q.2.1 q.2.2.1 (V 0 3).toNat).1 (btS V (nxV V D nets (wlV V)) true q.1 q.2.1 q.2.2.1 (V 0 3).toNat).2.1 (btS V (nxV V D nets (wlV V)) true q.1 q.2.1 q.2.2.1 (V 0 3).toNat).2.2.1 := fun t a b => by
      rcases e3 t a b with z | z
      · exact absurd z.1 (by omega)
      · exact z.2
    rw [t_MO_beats_L31, if_neg (by omega), w32_id (x := v3 + 1) (by unfold InR; omega), e1, obind_some, btI]
    obtain ⟨Q, q1, q2, q3, q4⟩ := ih g N' ((btS V (nxV V D nets (wlV V)) true q.1 q.2.1 q.2.2.1 (V 0 3).toNat).1, (btS V (nxV V D nets (wlV V)) true q.1 q.2.1 q.2.2.1 (V 0 3).toNat).2.1, (btS V (nxV V D nets (wlV V)) true q.1 q.2.1 q.2.2.1 (V 0 3).toNat).2.2.1, w32 (q.2.2.2 + (btS V (nxV V D nets (wlV V)) true q.1 q.2.1 q.2.2.1 (V 0 3).toNat).2.2.2)) (v3 + 1) (by omega) (by omega) (by omega) f2 hIN (fun _ => f3) (fun w a b => by rw [← hD w a b]; exact (e2 212 _ (by unfold BW; omega)).1) (by rw [(e2 210 0 (by unfold BW; omega)).2]; exact hn) hT'
    refine ⟨Q, q1, e2.trans q2, q3, ?_⟩
    rw [q4, e4]
    unfold w32
    omega
theorem bs_beats {M : Mem} (h : LI M) {x1 : Int} (h1 : InR x1) : Ok (fun q => Ok (fun r => q.2 = r.2 ∧ LI r.1) (t_MO_beats q.1 x1)) (t_WF_beats M x1) := by
  have h' := h
  have hTT := h.T
  obtain ⟨hI, ⟨V, hR, hX, hRL⟩, -⟩ := h
  have hV := hR.1.1
  have hv := hV.1
  have hC := hV.cells
  have hS : CScF M 47 V (DN M 0) (AT M 0) (ST M 0) (LN M 0) (M.2 210 0) (M.2 211 0) (wlV V) := hRL.1
  have okC := sf_WF_beats hI h1
  have same : ∀ v, t_WF_beats M x1 = some (M, v) → t_MO_beats M x1 = some (setI M 191 0 0, v) → Ok (fun q => Ok (fun r => q.2 = r.2 ∧ LI r.1) (t_MO_beats q.1 x1)) (t_WF_beats M x1) := fun v e1 e2 => ⟨_, e1, _, e2, rfl, h'.at0⟩
  by_cases c1 : x1 < 0
  · refine same (-1) ?_ ?_
    · unfold t_WF_beats; rw [if_pos c1]
    · unfold t_MO_beats; simp (config := { proj := false }) only [qlet]; rw [if_pos c1]
  by_cases c2 : x1 ≤ 200
  rotate_left
  · refine same (-1) ?_ ?_
    · unfold t_WF_beats; rw [if_neg c1, if_neg c2]
    · unfold t_MO_beats; simp (config := { proj := false }) only [qlet]; rw [if_neg c1, if_neg c2]
  by_cases c3 : x1 ≤ 0
  · obtain ⟨g, hg⟩ : ∃ g, FU = g + 1 := ⟨FU - 1, by have : 0 < FU := fu_big (by omega); omega⟩
    refine same 0 ?_ ?_
    · unfold t_WF_beats; rw [if_neg c1, if_pos c2, hg, t_WF_beats_L17, if_pos c3, if_pos c3]
    · unfold t_MO_beats t_MO_beats_L27; simp (config := { proj := false }) only [qlet]; rw [if_neg c1, if_pos c2, if_pos c3, hg, t_MO_beats_L31, if_pos c3]
  obtain ⟨n, hn⟩ : ∃ n : Nat, (n : Int) = x1 := ⟨x1.toNat, by omega⟩
  obtain ⟨N0, n1, n2, n3⟩ := c_beats_loop (T := (M.1 0 4).toNat) (x1 := x1) hV hTT.2 ⟨hX.1, hX.2.1⟩ rfl c2 n FU M (AT M 0, ST M 0, LN M 0, 0) 0 (by omega) (by omega) (fu_big (by omega)) Fr.rf hS (fun t a b => by have := hR.row0.2.1 t a b; show -1 ≤ AT M 0 t ∧ AT M 0 t < cellsV V; unfold AT; omega)
  have hw : t_WF_beats M x1 = some (setI (setI (setI N0 62 4 (w32 (N0.1 62 4 + x1))) 70 2 0) 177 8 0, (btI V true (nxV V (DN M 0) (M.2 210 0) (wlV V)) n (AT M 0, ST M 0, LN M 0, 0)).2.2.2) := by
    unfold t_WF_beats
    rw [if_neg c1, if_pos c2]
    refine n1.trans ?_
    unfold beE
    rw [if_neg c3]
  generalize hr : btI V true (nxV V (DN M 0) (M.2 210 0) (wlV V)) n (AT M 0, ST M 0, LN M 0, 0) = r at *
  have f3 : Fr (fun q j => (q = 62 ∧ j = 4) ∨ (q = 70 ∧ j = 2) ∨ (q = 177 ∧ j = 8)) N0 (setI (setI (setI N0 62 4 (w32 (N0.1 62 4 + x1))) 70 2 0) 177 8 0) := ((Fr.rf.setI (by omega)).setI (by omega)).setI (by omega)
  have v4 : (setI (setI (setI N0 62 4 (w32 (N0.1 62 4 + x1))) 70 2 0) 177 8 0).1 62 4 = w32 (M.1 208 0 + x1) := by rw [sI_ne (by omega), sI_ne (by omega), sI_self, (n2 62 4 (by unfold BtW; omega)).1, hRL.2.1.2.1]
  have v2 : (setI (setI (setI N0 62 4 (w32 (N0.1 62 4 + x1))) 70 2 0) 177 8 0).1 70 2 = 0 := by rw [sI_ne (by omega), sI_self]
  have v8 : (setI (setI (setI N0 62 4 (w32 (N0.1 62 4 + x1))) 70 2 0) 177 8 0).1 177 8 = 0 := sI_self _ _ _ _
  have n4 := n3.fr f3 (fun q j z y => by unfold CsW at z; omega)
  have fN : Fr (fun q j => (49 ≤ q ∧ q ≤ 51) ∨ (q = 62 ∧ j = 4) ∨ (q = 70 ∧ j = 2) ∨ (q = 177 ∧ j = 8)) M (setI (setI (setI N0 62 4 (w32 (N0.1 62 4 + x1))) 70 2 0) 177 8 0) := (n2.mono (fun q j z => by unfold BtW at z; omega)).trans (f3.mono (fun q j z => by omega))
  generalize setI (setI (setI N0 62 4 (w32 (N0.1 62 4 + x1))) 70 2 0) 177 8 0 = N at *
  obtain ⟨u, e, hu⟩ := okC
  have : u = (N, r.2.2.2) := Option.some.inj (e.symm.trans hw)
  subst this
  have hIN : IM N := hu.1
  have hRN : RI N V := hR.fr fN (fun q j a z => by unfold RIc at a; omega)
  have eN : ∀ q j, 191 ≤ q → N.1 q j = M.1 q j ∧ N.2 q j = M.2 q j := fun q j x => fN q j (by omega)
  obtain ⟨P, p0, p1⟩ := ri_beats hRN x1
  have hIP := im_MO_beats hIN h1 P p0
  refine ⟨(N, r.2.2.2), hw, P, p0, ?_⟩
  have hRM5 : RI (setI (setI N 191 0 0) 191 43 0) V := (hRN.set0 0).no_undo
  have hIM5 : IM (setI (setI N 191 0 0) 191 43 0) := (hIN.setI (by unfold InR; omega)).setI (by unfold InR; omega)
  have f5 : Fr (fun q j => q = 191 ∧ (j = 0 ∨ j = 43)) N (setI (setI N 191 0 0) 191 43 0) := (Fr.rf.setI (by omega)).setI (by omega)
  have e5 : ∀ q j, 192 ≤ q → (setI (setI N 191 0 0) 191 43 0).1 q j = M.1 q j ∧ (setI (setI N 191 0 0) 191 43 0).2 q j = M.2 q j := fun q j x => ⟨((f5 q j (by omega)).1).trans (eN q j (by omega)).1, ((f5 q j (by omega)).2).trans (eN q j (by omega)).2⟩
  have v43 : (setI (setI N 191 0 0) 191 43 0).1 191 43 = 0 := sI_self _ _ _ _
  obtain ⟨Q, q1, q2, q3, q4⟩ := m_beats_loop (V := V) (D := DN M 0) (nets := M.2 210 0) c2 n FU (setI (setI N 191 0 0) 191 43 0) (AT M 0, ST M 0, LN M 0, 0) 0 (by omega) (by omega) (fu_big (by omega)) hRM5 hIM5 (fun _ => v43) (fun w a b => (e5 212 _ (by omega)).1) (e5 210 0 (by omega)).2 (fun t a b => ⟨(e5 213 _ (by omega)).1, (e5 214 _ (by omega)).1, (e5 215 _ (by omega)).1⟩)
  rw [hr] at q1 q3
  have q0 : t_MO_beats N x1 = some (Q, r.2.2.2) := by
    unfold t_MO_beats t_MO_beats_L27
    simp (config := { proj := false }) only [qlet]
    rw [if_neg c1, if_pos c2, if_neg c3]
    exact q1
  have ePQ : P = (Q, r.2.2.2) := Option.some.inj (p0.symm.trans q0)
  subst ePQ
  have fP : Fr (fun q j => (q = 191 ∧ (j = 0 ∨ j = 43)) ∨ BW 0 q j) N Q := (f5.mono (fun q j z => Or.inl z)).trans (q2.mono (fun q j z => Or.inr z))
  have fA : Fr (fun q j => ((49 ≤ q ∧ q ≤ 51) ∨ (q = 62 ∧ j = 4) ∨ (q = 70 ∧ j = 2) ∨ (q = 177 ∧ j = 8)) ∨ ((q = 191 ∧ (j = 0 ∨ j = 43)) ∨ BW 0 q j)) M Q := (fN.mono (fun q j z => Or.inl z)).trans (fP.mono (fun q j z => Or.inr z))
  have u43 : Q.1 191 43 = 0 := by rw [(q2 191 43 (by unfold BW; omega)).1]; exact v43
  refine ⟨rfl, h'.two hX hIP.1 p1 ⟨?_, ?_, ?_, ?_, ?_, ?_⟩ (fA.mono (fun q j z => by unfold BW at z; unfold KpA; omega))⟩
  · have k := n4.fr fP (fun q j z y => by unfold CsW at z; unfold BW at y; omega)
    exact k.eq (fun w a b => ((fA 212 _ (fun y => by unfold BW at y; omega)).1).symm) (fun t a b => ⟨(q3 t a b).1.symm, (q3 t a b).2.1.symm, (q3 t a b).2.2.symm⟩) ((fA 210 0 (fun y => by unfold BW at y; omega)).2).symm ((fA 211 0 (fun y => by unfold BW at y; omega)).2).symm
  · obtain ⟨k1, k2, k3, k4⟩ := hRL.2.1
    have r7 : Q.1 207 0 = M.1 207 0 := (fA 207 0 (fun y => by unfold BW at y; omega)).1
    have r9 : Q.1 209 0 = M.1 209 0 := (fA 209 0 (fun y => by unfold BW at y; omega)).1
    have c : ∀ q j, q ≤ 69 → 62 ≤ q → ¬ (q = 62 ∧ j = 4) → Q.1 q j = M.1 q j ∧ Q.2 q j = M.2 q j := fun q j x y z => fA q j (fun y => by unfold BW at y; omega)
    refine ⟨by rw [(c 62 3 (by omega) (by omega) (by omega)).1, r7]; exact k1, ?_, by rw [(c 62 5 (by omega) (by omega) (by omega)).2, r9]; exact k3, fun y a b => ?_⟩
    · rw [(fP 62 4 (fun y => by unfold BW at y; omega)).1, v4, q4, (e5 208 0 (by omega)).1, hn]
    · rw [r7] at b
      rw [(c (62 + 1) y (by omega) (by omega) (by omega)).1, (c (62 + 2) y (by omega) (by omega) (by omega)).1, (c (62 + 3) y (by omega) (by omega) (by omega)).1, (fA 216 _ (fun y => by unfold BW at y; omega)).1, (fA 217 _ (fun y => by unfold BW at y; omega)).1, (fA 218 _ (fun y => by unfold BW at y; omega)).1]
      exact k4 y a b
  · refine past_none ?_ ?_ u43
    · rw [(fP 70 2 (fun y => by unfold BW at y; omega)).1]; exact v2
    · rw [(fA 70 1 (fun y => by unfold BW at y; omega)).1]; exact hRL.2.2.1.2.1
  · exact hRL.2.2.2.1.fr hV hR.yr.2 fA (fun q j z y => by unfold CsW RwW ChW RgR at z; unfold BW at y; omega)
  · exact hRL.2.2.2.2.1.fr fA (fun q j z y => by unfold BW at y; omega)
  · exact CaR.zero (((fP 177 8 (fun y => by unfold BW at y; omega)).1).trans v8)
