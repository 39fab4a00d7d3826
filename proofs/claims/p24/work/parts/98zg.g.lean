section
/-! ===== war ===== -/
theorem lc_same {V : TV} {f : Int → Int} {c : Int} : ∀ k : Nat, (∀ a : Nat, a ≤ k → V 7 (itr f c a) = V 7 (itr f c 0)) → lcV V f c k = 0 := by
  intro k
  induction k with
  | zero => intro _; rfl
  | succ k ih =>
    intro h
    rw [lcV, ih (fun a ha => h a (by omega))]
    unfold lnV
    rw [if_pos ((h k (by omega)).trans (h (k + 1) (by omega)).symm)]
    rfl
theorem fo_first {V : TV} {f : Int → Int} {c : Int} {k : Nat} (h0 : lcV V f c k = 0) (h1 : ¬ V 7 (itr f c k) = V 7 (itr f c (k + 1))) : ∀ m : Nat, foV V f c (k + 1 + m) = V 7 (itr f c (k + 1)) + 1 ∧ 1 ≤ lcV V f c (k + 1 + m) := by
  have hl : lnV V (itr f c k) (itr f c (k + 1)) = 1 := if_neg h1
  intro m
  induction m with
  | zero =>
    show foV V f c (k + 1) = _ ∧ 1 ≤ lcV V f c (k + 1)
    rw [foV, lcV, h0, hl, if_pos rfl, if_neg (show ¬ (1 : Int) = 0 by decide)]
    exact ⟨rfl, by decide⟩
  | succ m ih =>
    show foV V f c (k + 1 + m + 1) = _ ∧ 1 ≤ lcV V f c (k + 1 + m + 1)
    have hr := ln_rng V (itr f c (k + 1 + m)) (itr f c (k + 1 + m + 1))
    rw [foV, lcV, if_neg (show ¬ lcV V f c (k + 1 + m) = 0 by omega)]
    exact ⟨ih.1, by omega⟩
def fOS (V : TV) (f : Int → Int) (c : Int) (r : Nat × Option Nat) : Int := if wLines V f c r ≤ 0 then -2 else wFirst V f c r - 1
theorem fo_none {V : TV} {f : Int → Int} {c : Int} {r : Nat × Option Nat} (hs : (r.2 = none) ∨ ∃ a, r.2 = some a ∧ a ≤ r.1 ∧ itr f c (r.1 + 1) = itr f c a) (h : ∀ a : Nat, a ≤ r.1 → V 7 (itr f c a) = V 7 (itr f c 0)) : fOS V f c r = -2 := by
  obtain ⟨i, o⟩ := r
  have hl : wLines V f c (i, o) = 0 := by
    rcases hs with e | ⟨a, e, ha, hi⟩
    · have e : o = none := e
      subst e
      exact lc_same i h
    · have e : o = some a := e
      subst e
      refine lc_same (i + 1) (fun b hb => ?_)
      by_cases q : b = i + 1
      · rw [q]
        have hi : itr f c (i + 1) = itr f c a := hi
        rw [hi]; exact h a ha
      · exact h b (by show b ≤ i; omega)
  unfold fOS
  rw [hl, if_pos (by decide)]
theorem fo_some {V : TV} {f : Int → Int} {c : Int} {r : Nat × Option Nat} {k : Nat} (h : ∀ a : Nat, a ≤ k → V 7 (itr f c a) = V 7 (itr f c 0)) (hk : k + 1 ≤ r.1) (h1 : ¬ V 7 (itr f c (k + 1)) = V 7 (itr f c 0)) : fOS V f c r = V 7 (itr f c (k + 1)) := by
  have hf := fo_first (k := k) (lc_same k h) (fun q => h1 (q.symm.trans (h k (Nat.le_refl _))))
  obtain ⟨i, o⟩ := r
  have hk : k + 1 ≤ i := hk
  have e1 := hf (i - (k + 1))
  have e2 := hf (i + 1 - (k + 1))
  rw [show k + 1 + (i - (k + 1)) = i by omega] at e1
  rw [show k + 1 + (i + 1 - (k + 1)) = i + 1 by omega] at e2
  unfold fOS
  cases o with
  | none =>
    show (if lcV V f c i ≤ 0 then -2 else foV V f c i - 1) = _
    rw [if_neg (by omega), e1.1]
    omega
  | some a =>
    show (if lcV V f c (i + 1) ≤ 0 then -2 else foV V f c (i + 1) - 1) = _
    rw [if_neg (by omega), e2.1]
    omega
theorem c_first_loop {N : Mem} {T : Nat} {V : TV} {f : Int → Int} {c : Int} {r : Nat × Option Nat} (hX : CT0 N T V) (hF : FolR N 189 V f c r) (hi : ∀ a : Nat, a ≤ r.1 → 0 ≤ itr f c a ∧ itr f c a < 48) (hr : r.1 < 48) (hs : (r.2 = none) ∨ ∃ a, r.2 = some a ∧ a ≤ r.1 ∧ itr f c (r.1 + 1) = itr f c a) : ∀ (n k fu : Nat), k + n = r.1 → n < fu → (∀ a : Nat, a ≤ k → V 7 (itr f c a) = V 7 (itr f c 0)) → t_Trail_firstOther_L2 189 T fu N ((k + 1 : Nat) : Int) = some (fOS V f c r) := by
  obtain ⟨f1, -, -, -, f5⟩ := hF
  have lk : ∀ a : Nat, a ≤ r.1 → t_WF_look N (189 + 1) 48 (a : Int) = itr f c a := fun a ha => by rw [look_in (by omega) (by omega)]; exact f5 a ha
  intro n
  induction n with
  | zero =>
    intro k fu g0 g1 h
    obtain ⟨g, rfl⟩ : ∃ g, fu = g + 1 := ⟨fu - 1, by omega⟩
    rw [t_Trail_firstOther_L2, f1, if_pos (by omega), fo_none hs (fun a ha => h a (by omega))]
  | succ n ih =>
    intro k fu g0 g1 h
    obtain ⟨g, rfl⟩ : ∃ g, fu = g + 1 := ⟨fu - 1, by omega⟩
    have i1 := hi (k + 1) (by omega)
    have i0 := hi 0 (by omega)
    rw [t_Trail_firstOther_L2, f1, if_neg (by omega)]
    simp (config := { proj := false }) only [qlet]
    have lk0 : t_WF_look N (189 + 1) 48 0 = itr f c 0 := lk 0 (by omega)
    rw [lk (k + 1) (by omega), lk0, c_owner hX i1.1 i1.2, c_owner hX i0.1 i0.2]
    by_cases q : V 7 (itr f c (k + 1)) = V 7 (itr f c 0)
    · rw [if_pos q, w32_succ (by omega)]
      exact ih (k + 1) g (by omega) (by omega) (fun a ha => by
        by_cases e : a = k + 1
        · rw [e]; exact q
        · exact h a (by omega))
    · rw [if_neg q, fo_some h (by omega) q]
def waC (V : TV) (f : Int → Int) (x1 x2 : Int) : Nat → Int
  | 0 => 0
  | n + 1 => waC V f x1 x2 n + (if V 7 (n : Int) = x1 ∧ V 8 (n : Int) = 0 ∧ fOS V f (n : Int) (wayS f (n : Int)) = x2 then 1 else 0)
theorem waC_rng (V : TV) (f : Int → Int) (x1 x2 : Int) : ∀ n : Nat, 0 ≤ waC V f x1 x2 n ∧ waC V f x1 x2 n ≤ (n : Int) := by
  intro n
  induction n with
  | zero => exact ⟨Int.le_refl _, Int.le_refl _⟩
  | succ n ih => rw [waC]; split <;> omega
theorem c_war_loop {M0 : Mem} {V : TV} {x1 x2 : Int} {D A S L : Int → Int} {nets wat : Int64} (hV : VOK V) (hTT : (M0.1 0 4).toNat = 2 ∨ (M0.1 0 4).toNat = 22) (hX : CT0 M0 (M0.1 0 4).toNat V ∧ CTs M0 (M0.1 0 4).toNat V) (hS : CScF M0 47 V D A S L nets wat (wlV V)) : ∀ (n i fu : Nat) (M : Mem), (i : Int) + (n : Int) = cellsV V → n < fu → Fr (W_Trail_follow 189) M0 M →
    ∃ N, t_WF_war_L34 x1 x2 fu M (waC V (nxV V D nets (wlV V)) x1 x2 i) (i : Int) = some (N, waC V (nxV V D nets (wlV V)) x1 x2 (cellsV V).toNat) ∧ Fr (W_Trail_follow 189) M0 N := by
  have hC := hV.cells
  intro n
  induction n with
  | zero =>
    intro i fu M g0 g1 hF
    obtain ⟨g, rfl⟩ : ∃ g, fu = g + 1 := ⟨fu - 1, by omega⟩
    have e4 : M.1 0 4 = M0.1 0 4 := (hF 0 4 (by unfold W_Trail_follow; omega)).1
    have e13 : M.1 (M0.1 0 4).toNat 13 = cellsV V := by rw [(hF _ 13 (by unfold W_Trail_follow; omega)).1]; exact hX.2.1
    rw [t_WF_war_L34, e4, e13, if_pos (by omega), show (cellsV V).toNat = i by omega]
    exact ⟨M, rfl, hF⟩
  | succ n ih =>
    intro i fu M g0 g1 hF
    obtain ⟨g, rfl⟩ : ∃ g, fu = g + 1 := ⟨fu - 1, by omega⟩
    have hd : ∀ q j, W_Trail_follow 189 q j → 189 ≤ q ∧ q ≤ 190 := fun q j z => by unfold W_Trail_follow at z; omega
    have e4 : M.1 0 4 = M0.1 0 4 := (hF 0 4 (fun z => by have := hd _ _ z; omega)).1
    have e13 : M.1 (M0.1 0 4).toNat 13 = cellsV V := by rw [(hF _ 13 (fun z => by have := hd _ _ z; omega)).1]; exact hX.2.1
    have XM : CT0 M (M0.1 0 4).toNat V ∧ CTs M (M0.1 0 4).toNat V := ⟨CT0.fr hF (fun q j x y z => by have := hd _ _ z; omega) hX.1, CTs.fr hF (fun q j x y z => by have := hd _ _ z; omega) hX.2⟩
    have SM := hS.fr hF (fun q j x z => by have := hd _ _ z; unfold CsW at x; omega)
    have hr := waC_rng V (nxV V D nets (wlV V)) x1 x2 i
    have hnx := ih (i + 1) g
    have ew : waC V (nxV V D nets (wlV V)) x1 x2 (i + 1) = waC V (nxV V D nets (wlV V)) x1 x2 i + (if V 7 (i : Int) = x1 ∧ V 8 (i : Int) = 0 ∧ fOS V (nxV V D nets (wlV V)) (i : Int) (wayS (nxV V D nets (wlV V)) (i : Int)) = x2 then 1 else 0) := rfl
    have w8 := (hV.2.2.2 (i : Int) (by omega) (by omega)).2.2.1
    rw [t_WF_war_L34, e4, e13, if_neg (by omega)]
    unfold t_WF_war_L109
    simp (config := { proj := false }) only [qlet]
    rw [c_owner XM.1 (by omega) (by omega), w32_succ (by omega)]
    by_cases c7 : V 7 (i : Int) = x1
    rotate_left
    · rw [if_neg c7]
      rw [if_neg (fun q => c7 q.1), Int.add_zero] at ew
      rw [ew] at hnx
      exact hnx M (by omega) (by omega) hF
    rw [if_pos c7, bitOf_tb M _ (by omega) (by omega), SM.2.2.2.2 _ (by omega) (by omega), show wlV V (i : Int) = decide (V 8 (i : Int) = 1) from rfl]
    by_cases c8 : V 8 (i : Int) = 1
    · rw [decide_eq_true c8, if_neg (show ¬ (if true = true then (1 : Int) else 0) = 0 by decide)]
      rw [if_neg (fun q => by omega), Int.add_zero] at ew
      rw [ew] at hnx
      exact hnx M (by omega) (by omega) hF
    rw [decide_eq_false c8, if_pos (show (if false = true then (1 : Int) else 0) = 0 from rfl)]
    show ∃ N, (obind (t_Trail_follow M 189 (M0.1 0 4).toNat 47 (i : Int)) _) = _ ∧ _
    have ws := way_spec (c := (i : Int)) hC.2 (nx_ok hV D nets (wlV V)) (by omega) (by omega)
    have wf := way_facts (c := (i : Int)) hC.2 (nx_ok hV D nets (wlV V)) (by omega) (by omega)
    obtain ⟨N, n1, n2, n3⟩ := c_follow (k := 189) (k2 := 47) hTT (Or.inr rfl) (by omega) hV XM.1 XM.2 SM.sc (c := (i : Int)) (by omega) (by omega)
    have e4N : N.1 0 4 = M0.1 0 4 := ((n2 0 4 (fun z => by have := hd _ _ z; omega)).1).trans e4
    have XN : CT0 N (M0.1 0 4).toNat V := CT0.fr n2 (fun q j x y z => by have := hd _ _ z; omega) XM.1
    rw [n1, obind_some, e4N]
    have fo := c_first_loop XN n3 (fun a ha => by have := wf.2.2.2.2.2 a ha; omega) wf.2.2.2.2.1 (ws.2.2.imp (fun q => q.1) (fun q => q)) (wayS (nxV V D nets (wlV V)) (i : Int)).1 0 FU (by omega) (fu_big (by have := wf.2.2.2.2.1; omega)) (fun a ha => by
      have : a = 0 := by omega
      rw [this])
    unfold t_Trail_firstOther
    have fo' : t_Trail_firstOther_L2 189 (M0.1 0 4).toNat FU N 1 = some (fOS V (nxV V D nets (wlV V)) (i : Int) (wayS (nxV V D nets (wlV V)) (i : Int))) := fo
    rw [fo', obind_some]
    by_cases c9 : fOS V (nxV V D nets (wlV V)) (i : Int) (wayS (nxV V D nets (wlV V)) (i : Int)) = x2
    · rw [if_pos c9, w32_id (x := waC V (nxV V D nets (wlV V)) x1 x2 i + 1) (by unfold InR; omega)]
      have hc : V 7 (i : Int) = x1 ∧ V 8 (i : Int) = 0 ∧ fOS V (nxV V D nets (wlV V)) (i : Int) (wayS (nxV V D nets (wlV V)) (i : Int)) = x2 := ⟨c7, w8.resolve_right c8, c9⟩
      rw [if_pos hc] at ew
      rw [ew] at hnx
      exact hnx N (by omega) (by omega) (hF.trans n2)
    · rw [if_neg c9]
      rw [if_neg (fun q => c9 q.2.2), Int.add_zero] at ew
      rw [ew] at hnx
      exact hnx N (by omega) (by omega) (hF.trans n2)
theorem m_war_loop {M0 : Mem} {V : TV} {x1 x2 : Int} {f : Int → Int} (h0 : RI M0 V) (hf : nxR M0 0 V = f) (hx1 : 0 ≤ x1 ∧ x1 < 4) (hx2 : 0 ≤ x2 ∧ x2 < 4) : ∀ (n i fu : Nat) (M : Mem), (i : Int) + (n : Int) = cellsV V → n < fu → Fr W_MO_goesFrom M0 M →
    ∃ N, t_MO_war_L33 x1 x2 fu M (waC V f x1 x2 i) (i : Int) = some (N, waC V f x1 x2 (cellsV V).toNat) ∧ Fr W_MO_goesFrom M0 N := by
  have hV := h0.1.1
  have hC := hV.cells
  intro n
  induction n with
  | zero =>
    intro i fu M g0 g1 hF
    obtain ⟨g, rfl⟩ : ∃ g, fu = g + 1 := ⟨fu - 1, by omega⟩
    have hR := h0.goesFr hF
    rw [t_MO_war_L33]
    simp (config := { proj := false }) only [qlet]
    rw [m_cells hR.1.2.1 hV, if_pos (by omega), show (cellsV V).toNat = i by omega]
    exact ⟨M, rfl, hF⟩
  | succ n ih =>
    intro i fu M g0 g1 hF
    obtain ⟨g, rfl⟩ : ∃ g, fu = g + 1 := ⟨fu - 1, by omega⟩
    have hR := h0.goesFr hF
    have hr := waC_rng V f x1 x2 i
    have hnx := ih (i + 1) g
    have ew : waC V f x1 x2 (i + 1) = waC V f x1 x2 i + (if V 7 (i : Int) = x1 ∧ V 8 (i : Int) = 0 ∧ fOS V f (i : Int) (wayS f (i : Int)) = x2 then 1 else 0) := rfl
    have ho := hR.1.2.1.2.2.2 (i : Int) (by omega) (by omega)
    have hl := hV.2.2.2 (i : Int) (by omega) (by omega)
    have e32 : w32 (waC V f x1 x2 i + 0) = waC V f x1 x2 i := by rw [Int.add_zero]; exact w32_id (by unfold InR; omega)
    rw [t_MO_war_L33]
    unfold t_MO_war_L97 t_MO_war_L98 t_MO_war_L100
    simp (config := { proj := false }) only [qlet]
    rw [m_cells hR.1.2.1 hV, if_neg (by omega), qguard_pos ⟨by omega, by omega⟩, ho.2.1, w32_succ (by omega), w32_id (x := x1 + 1) (by unfold InR; omega), w32_id (x := x2 + 1) (by unfold InR; omega), e32]
    by_cases c8 : V 8 (i : Int) = 0
    rotate_left
    · rw [if_neg c8]
      rw [if_neg (fun q => c8 q.2.1), Int.add_zero] at ew
      rw [ew] at hnx
      exact hnx M (by omega) (by omega) hF
    rw [if_pos c8, qguard_pos ⟨by omega, by omega⟩, ho.1]
    by_cases c7 : V 7 (i : Int) = x1
    rotate_left
    · rw [if_neg (show ¬ V 7 (i : Int) + 1 = x1 + 1 by omega)]
      rw [if_neg (fun q => c7 q.1), Int.add_zero] at ew
      rw [ew] at hnx
      exact hnx M (by omega) (by omega) hF
    rw [if_pos (show V 7 (i : Int) + 1 = x1 + 1 by omega)]
    obtain ⟨P, p1, p2, p3⟩ := hR.goes (a := 0) (c := (i : Int)) (by omega) hR.row0 (by omega) (by omega)
    have er : nxR M 0 V = f := by rw [← hf]; exact nxR_fr hF (fun k j x q => by unfold W_MO_goesFrom at q; omega)
    rw [er] at p3
    rw [p1, obind_some, p3.2.2.2.1, p3.2.2.2.2]
    by_cases cl : wLines V f (i : Int) (wayS f (i : Int)) ≤ 0
    · have fo : fOS V f (i : Int) (wayS f (i : Int)) = -2 := if_pos cl
      rw [if_pos cl]
      rw [if_neg (fun q => by have := q.2.2; omega), Int.add_zero] at ew
      rw [ew] at hnx
      exact hnx P (by omega) (by omega) (hF.trans p2)
    · have fo : fOS V f (i : Int) (wayS f (i : Int)) = wFirst V f (i : Int) (wayS f (i : Int)) - 1 := if_neg cl
      rw [if_neg cl]
      by_cases c9 : wFirst V f (i : Int) (wayS f (i : Int)) = x2 + 1
      · rw [if_pos c9, w32_id (x := waC V f x1 x2 i + 1) (by unfold InR; omega)]
        have hc : V 7 (i : Int) = x1 ∧ V 8 (i : Int) = 0 ∧ fOS V f (i : Int) (wayS f (i : Int)) = x2 := ⟨c7, c8, by omega⟩
        rw [if_pos hc] at ew
        rw [ew] at hnx
        exact hnx P (by omega) (by omega) (hF.trans p2)
      · rw [if_neg c9]
        rw [if_neg (fun q => by have := q.2.2; omega), Int.add_zero] at ew
        rw [ew] at hnx
        exact hnx P (by omega) (by omega) (hF.trans p2)
theorem bs_war {M : Mem} (h : LI M) {x1 x2 : Int} (h1 : InR x1) (h2 : InR x2) : Ok (fun q => Ok (fun r => q.2 = r.2 ∧ LI r.1) (t_MO_war q.1 x1 x2)) (t_WF_war M x1 x2) := by
  have h' := h
  have hTT := h.T
  obtain ⟨hI, ⟨V, hR, hX, hRL⟩, -⟩ := h
  have hV := hR.1.1
  have hv := hV.1
  have hC := hV.cells
  have hS : CScF M 47 V (DN M 0) (AT M 0) (ST M 0) (LN M 0) (M.2 210 0) (M.2 211 0) (wlV V) := hRL.1
  have same : t_WF_war M x1 x2 = some (M, -1) → t_MO_war M x1 x2 = some (setI M 191 0 0, -1) → Ok (fun q => Ok (fun r => q.2 = r.2 ∧ LI r.1) (t_MO_war q.1 x1 x2)) (t_WF_war M x1 x2) := fun e1 e2 => ⟨_, e1, _, e2, rfl, h'.at0⟩
  have hMT := (hR.set0 0).1.2.1
  by_cases c1 : 0 ≤ x1 ∧ x1 < V 0 2
  rotate_left
  · refine same ?_ ?_
    · unfold t_WF_war; simp (config := { proj := false }) only [qlet]; rw [c_hasWard hX.1, if_neg c1, if_pos rfl]
    · unfold t_MO_war; simp (config := { proj := false }) only [qlet]; rw [m_isWard hMT, if_neg c1, if_pos rfl]
  by_cases c2 : 0 ≤ x2 ∧ x2 < V 0 2
  rotate_left
  · refine same ?_ ?_
    · unfold t_WF_war; simp (config := { proj := false }) only [qlet]; rw [c_hasWard hX.1, if_pos c1, if_neg (show ¬ (1 : Int) = 0 by decide), c_hasWard hX.1, if_neg c2, if_pos rfl]
    · unfold t_MO_war; simp (config := { proj := false }) only [qlet]; rw [m_isWard hMT, if_pos c1, if_neg (show ¬ (1 : Int) = 0 by decide), m_isWard hMT, if_neg c2, if_pos rfl]
  by_cases c3 : x1 = x2
  · refine same ?_ ?_
    · unfold t_WF_war; simp (config := { proj := false }) only [qlet]; rw [c_hasWard hX.1, if_pos c1, if_neg (show ¬ (1 : Int) = 0 by decide), c_hasWard hX.1, if_pos c2, if_neg (show ¬ (1 : Int) = 0 by decide), if_pos c3]
    · unfold t_MO_war; simp (config := { proj := false }) only [qlet]; rw [m_isWard hMT, if_pos c1, if_neg (show ¬ (1 : Int) = 0 by decide), m_isWard hMT, if_pos c2, if_neg (show ¬ (1 : Int) = 0 by decide), if_pos c3]
  obtain ⟨N, n1, n2⟩ := c_war_loop (x1 := x1) (x2 := x2) hV hTT.2 ⟨hX.1, hX.2.1⟩ hS (cellsV V).toNat 0 FU M (by omega) (fu_big (by omega)) Fr.rf
  have hfr : nxR M 0 V = nxV V (DN M 0) (M.2 210 0) (wlV V) := rfl
  rw [← hfr] at n1
  have hw : t_WF_war M x1 x2 = some (N, waC V (nxR M 0 V) x1 x2 (cellsV V).toNat) := by
    unfold t_WF_war; simp (config := { proj := false }) only [qlet]
    rw [c_hasWard hX.1, if_pos c1, if_neg (show ¬ (1 : Int) = 0 by decide), c_hasWard hX.1, if_pos c2, if_neg (show ¬ (1 : Int) = 0 by decide), if_neg c3]
    exact n1
  obtain ⟨u, e, hu⟩ := sf_WF_war hI h1 h2
  have : u = _ := Option.some.inj (e.symm.trans hw)
  subst this
  have hLN : LI N := h'.q hu.1 (n2.mono (fun q j z => by unfold W_Trail_follow at z; unfold QkW; omega))
  have hRN : RI N V := hR.fr n2 (fun q j a z => by unfold RIc at a; unfold W_Trail_follow at z; omega)
  have f0 : Fr (fun k j => W_Trail_follow 189 k j ∨ (k = 191 ∧ j = 0)) M (setI N 191 0 0) := (n2.mono (fun k j z => Or.inl z)).setI (Or.inr ⟨rfl, rfl⟩)
  have er : nxR (setI N 191 0 0) 0 V = nxR M 0 V := nxR_fr f0 (fun k j x q => by unfold W_Trail_follow at q; omega)
  obtain ⟨P, p1, p2⟩ := m_war_loop (x1 := x1) (x2 := x2) (hRN.set0 0) er (by omega) (by omega) (cellsV V).toNat 0 FU (setI N 191 0 0) (by omega) (fu_big (by omega)) Fr.rf
  have hMN := (hRN.set0 0).1.2.1
  have q0 : t_MO_war N x1 x2 = some (P, waC V (nxR M 0 V) x1 x2 (cellsV V).toNat) := by
    unfold t_MO_war; simp (config := { proj := false }) only [qlet]
    rw [m_isWard hMN, if_pos c1, if_neg (show ¬ (1 : Int) = 0 by decide), m_isWard hMN, if_pos c2, if_neg (show ¬ (1 : Int) = 0 by decide), if_neg c3]
    exact p1
  have hIP := im_MO_war hu.1 h1 h2 _ q0
  have g0 : Fr QmW N (setI N 191 0 0) := Fr.rf.setI (by unfold QmW; omega)
  exact ⟨_, hw, _, q0, rfl, hLN.qm hIP.1 (g0.trans (p2.mono (fun k j z => by unfold W_MO_goesFrom at z; unfold QmW; omega)))⟩
end
