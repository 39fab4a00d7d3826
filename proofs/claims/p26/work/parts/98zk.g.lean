section
/-! ===== clock ===== -/
def clG (V : TV) (f : Int → Int) (b c : Int) : Nat → Int × Int
  | 0 => (b, c)
  | n + 1 => if V 8 (n : Int) = 0 ∧ wAhead (wayS f (n : Int)) = 0 ∧ (clG V f b c n).1 < wRound (wayS f (n : Int)) then (wRound (wayS f (n : Int)), (n : Int)) else clG V f b c n
theorem clG_mono (V : TV) (f : Int → Int) (b c : Int) : ∀ n : Nat, b ≤ (clG V f b c n).1 := by
  intro n
  induction n with
  | zero => exact Int.le_refl _
  | succ n ih =>
    rw [clG]
    by_cases z : V 8 (n : Int) = 0 ∧ wAhead (wayS f (n : Int)) = 0 ∧ (clG V f b c n).1 < wRound (wayS f (n : Int))
    · rw [if_pos z]
      show b ≤ wRound (wayS f (n : Int))
      have := z.2.2
      omega
    · rw [if_neg z]; exact ih
theorem clG_from (V : TV) (f : Int → Int) {b c : Int} (hb : 0 ≤ b) : ∀ n : Nat, clG V f b c n = if b < (clG V f 0 (-1) n).1 then clG V f 0 (-1) n else (b, c) := by
  intro n
  induction n with
  | zero => rw [if_neg (show ¬ b < (clG V f 0 (-1) 0).1 from fun z => by have z : b < 0 := z; omega)]; rfl
  | succ n ih =>
    rw [clG, ih]
    have e : clG V f 0 (-1) (n + 1) = if V 8 (n : Int) = 0 ∧ wAhead (wayS f (n : Int)) = 0 ∧ (clG V f 0 (-1) n).1 < wRound (wayS f (n : Int)) then (wRound (wayS f (n : Int)), (n : Int)) else clG V f 0 (-1) n := rfl
    rw [e]
    generalize clG V f 0 (-1) n = m at *
    by_cases h1 : b < m.1
    · rw [if_pos h1]
      by_cases z : V 8 (n : Int) = 0 ∧ wAhead (wayS f (n : Int)) = 0 ∧ m.1 < wRound (wayS f (n : Int))
      · have hz := z.2.2
        rw [if_pos z, if_pos (show b < wRound (wayS f (n : Int)) by omega)]
      · rw [if_neg z, if_pos h1]
    · rw [if_neg h1]
      by_cases z : V 8 (n : Int) = 0 ∧ wAhead (wayS f (n : Int)) = 0 ∧ m.1 < wRound (wayS f (n : Int))
      · rw [if_pos z]
        by_cases y : b < wRound (wayS f (n : Int))
        · rw [if_pos (show V 8 (n : Int) = 0 ∧ wAhead (wayS f (n : Int)) = 0 ∧ b < wRound (wayS f (n : Int)) from ⟨z.1, z.2.1, y⟩), if_pos y]
        · rw [if_neg (show ¬ (V 8 (n : Int) = 0 ∧ wAhead (wayS f (n : Int)) = 0 ∧ b < wRound (wayS f (n : Int))) from fun q => y q.2.2), if_neg y]
      · rw [if_neg z, if_neg h1, if_neg (show ¬ (V 8 (n : Int) = 0 ∧ wAhead (wayS f (n : Int)) = 0 ∧ b < wRound (wayS f (n : Int))) from fun q => z ⟨q.1, q.2.1, by have := q.2.2; omega⟩)]
/-! the reference: the longest round of a scene -/
theorem m_longest_loop {V : TV} {a : Int} (ha : 0 ≤ a ∧ a < 23) {M0 : Mem} {D A : Int → Int} {nets : Int64} (h : RI M0 V) (hm : MSc M0 a V D A nets) (hD : ∀ w, 0 ≤ w → w < V 0 2 → 0 ≤ D w ∧ D w ≤ 4) : ∀ (n i fu : Nat) (M : Mem), (i : Int) + (n : Int) = cellsV V → n < fu → Fr LGW M0 M → M.1 191 57 = (clG V (nxV V D nets (wlV V)) 0 (-1) i).2 → ∃ N, t_MO_longest_L9 a fu M (clG V (nxV V D nets (wlV V)) 0 (-1) i).1 (i : Int) = some (N, (clG V (nxV V D nets (wlV V)) 0 (-1) (cellsV V).toNat).1) ∧ Fr LGW M0 N ∧ N.1 191 57 = (clG V (nxV V D nets (wlV V)) 0 (-1) (cellsV V).toNat).2 := by
  have hV := h.1.1
  have hC := hV.cells
  intro n
  induction n with
  | zero =>
    intro i fu M g0 g1 hF h57
    obtain ⟨g, rfl⟩ : ∃ g, fu = g + 1 := ⟨fu - 1, by omega⟩
    have hM := h.fr hF LGW_RIc
    rw [t_MO_longest_L9]
    simp (config := { proj := false }) only [qlet]
    rw [m_cells hM.1.2.1 hV, if_pos (by omega), show (cellsV V).toNat = i by omega]
    exact ⟨M, rfl, hF, h57⟩
  | succ n ih =>
    intro i fu M g0 g1 hF h57
    obtain ⟨g, rfl⟩ : ∃ g, fu = g + 1 := ⟨fu - 1, by omega⟩
    have hM := h.fr hF LGW_RIc
    have mM : MSc M a V D A nets := ⟨fun w x y => by rw [(hF 212 _ (by unfold LGW; omega)).1]; exact hm.1 w x y, fun t x y => by rw [(hF 213 _ (by unfold LGW; omega)).1]; exact hm.2.1 t x y, by rw [(hF 210 a (by unfold LGW; omega)).2]; exact hm.2.2⟩
    have o8 := (hM.1.2.1.2.2.2 (i : Int) (by omega) (by omega)).2.1
    have w8 := (hV.2.2.2 (i : Int) (by omega) (by omega)).2.2.1
    have hnx := ih (i + 1) g
    have ew : clG V (nxV V D nets (wlV V)) 0 (-1) (i + 1) = if V 8 (i : Int) = 0 ∧ wAhead (wayS (nxV V D nets (wlV V)) (i : Int)) = 0 ∧ (clG V (nxV V D nets (wlV V)) 0 (-1) i).1 < wRound (wayS (nxV V D nets (wlV V)) (i : Int)) then (wRound (wayS (nxV V D nets (wlV V)) (i : Int)), (i : Int)) else clG V (nxV V D nets (wlV V)) 0 (-1) i := rfl
    rw [t_MO_longest_L9]
    unfold t_MO_longest_L63
    simp (config := { proj := false }) only [qlet]
    rw [m_cells hM.1.2.1 hV, if_neg (by omega), qguard_pos ⟨by omega, by omega⟩, o8, w32_succ (by omega)]
    by_cases c8 : V 8 (i : Int) = 0
    rotate_left
    · rw [if_neg c8]
      rw [if_neg (fun q => c8 q.1)] at ew
      rw [ew] at hnx
      exact hnx M (by omega) (by omega) hF h57
    rw [if_pos c8]
    obtain ⟨P, p1, p2, p3⟩ := m_goes (c := (i : Int)) hV hM.1.2.1 mM hD hM.2.1 ha (by omega) (by omega)
    have wf := way_facts (c := (i : Int)) hC.2 (nx_ok hV D nets (wlV V)) (by omega) (by omega)
    have wf0 : 0 ≤ wAhead (wayS (nxV V D nets (wlV V)) (i : Int)) := wf.1
    have fP : Fr LGW M0 P := hF.trans (p2.mono (fun k j z => by unfold W_MO_goesFrom at z; unfold LGW; omega))
    have P57 : P.1 191 57 = (clG V (nxV V D nets (wlV V)) 0 (-1) i).2 := by rw [(p2 191 57 (by unfold W_MO_goesFrom; omega)).1]; exact h57
    rw [p1, obind_some, p3.1, p3.2.1]
    by_cases c9 : 0 < wAhead (wayS (nxV V D nets (wlV V)) (i : Int))
    · rw [if_pos c9]
      rw [if_neg (fun q => by have := q.2.1; omega)] at ew
      rw [ew] at hnx
      exact hnx P (by omega) (by omega) fP P57
    rw [if_neg c9]
    by_cases c10 : (clG V (nxV V D nets (wlV V)) 0 (-1) i).1 < wRound (wayS (nxV V D nets (wlV V)) (i : Int))
    · rw [if_pos c10]
      have hc : V 8 (i : Int) = 0 ∧ wAhead (wayS (nxV V D nets (wlV V)) (i : Int)) = 0 ∧ (clG V (nxV V D nets (wlV V)) 0 (-1) i).1 < wRound (wayS (nxV V D nets (wlV V)) (i : Int)) := ⟨c8, by omega, c10⟩
      rw [if_pos hc] at ew
      rw [ew] at hnx
      exact hnx (setI P 191 57 (i : Int)) (by omega) (by omega) (fP.setI (by unfold LGW; omega)) (sI_self _ _ _ _)
    · rw [if_neg c10]
      rw [if_neg (fun q => c10 q.2.2)] at ew
      rw [ew] at hnx
      exact hnx P (by omega) (by omega) fP P57
theorem m_longest {V : TV} {a : Int} (ha : 0 ≤ a ∧ a < 23) {M : Mem} {D A : Int → Int} {nets : Int64} (h : RI M V) (hm : MSc M a V D A nets) (hD : ∀ w, 0 ≤ w → w < V 0 2 → 0 ≤ D w ∧ D w ≤ 4) : ∃ N, t_MO_longest M a = some (N, (clG V (nxV V D nets (wlV V)) 0 (-1) (cellsV V).toNat).1) ∧ Fr LGW M N ∧ N.1 191 57 = (clG V (nxV V D nets (wlV V)) 0 (-1) (cellsV V).toNat).2 := by
  have hC := h.1.1.cells
  have f0 : Fr LGW M (setI M 191 57 (-1)) := Fr.rf.setI (by unfold LGW; omega)
  unfold t_MO_longest
  simp (config := { proj := false }) only [qlet]
  exact m_longest_loop ha h hm hD (cellsV V).toNat 0 FU (setI M 191 57 (-1)) (by omega) (fu_big (by omega)) f0 (sI_self _ _ _ _)
/-! the class: one scene -/
def TcW : Nat → Int → Prop := fun q j => (q = 189 ∧ 1 ≤ j ∧ j ≤ 8) ∨ q = 190
abbrev CKS : Type := Int × Int × Int × Int
def CkR (M : Mem) (s : CKS) : Prop := M.1 189 5 = s.1 ∧ M.1 189 6 = s.2.1 ∧ M.1 189 7 = s.2.2.1 ∧ M.1 189 8 = s.2.2.2
def ckX (x3 x4 : Int) (s : CKS) (m : Int × Int) : CKS := if s.1 < m.1 then (m.1, x3, x4, m.2) else s
theorem c_tryClock_loop {M0 : Mem} {T : Nat} {V : TV} {D A S L : Int → Int} {nets wat : Int64} {x3 x4 : Int} {s : CKS} (hV : VOK V) (hT : T = 2 ∨ T = 22) (hX : CT0 M0 T V ∧ CTs M0 T V) (hS : CScF M0 52 V D A S L nets wat (wlV V)) : ∀ (n i fu : Nat) (M : Mem), (i : Int) + (n : Int) = cellsV V → n < fu → Fr TcW M0 M → CkR M (ckX x3 x4 s (clG V (nxV V D nets (wlV V)) s.1 s.2.2.2 i)) → ∃ N, t_Trail_tryClock_L3 189 T 52 x3 x4 fu M (i : Int) = some N ∧ Fr TcW M0 N ∧ CkR N (ckX x3 x4 s (clG V (nxV V D nets (wlV V)) s.1 s.2.2.2 (cellsV V).toNat)) := by
  have hC := hV.cells
  intro n
  induction n with
  | zero =>
    intro i fu M g0 g1 hF hk
    obtain ⟨g, rfl⟩ : ∃ g, fu = g + 1 := ⟨fu - 1, by omega⟩
    have e13 : M.1 T 13 = cellsV V := by rw [(hF T 13 (by unfold TcW; omega)).1]; exact hX.2.1
    rw [t_Trail_tryClock_L3, e13, if_pos (by omega), show (cellsV V).toNat = i by omega]
    exact ⟨M, rfl, hF, hk⟩
  | succ n ih =>
    intro i fu M g0 g1 hF hk
    obtain ⟨g, rfl⟩ : ∃ g, fu = g + 1 := ⟨fu - 1, by omega⟩
    have hd : ∀ q j, TcW q j → 189 ≤ q ∧ q ≤ 190 := fun q j z => by unfold TcW at z; omega
    have e13 : M.1 T 13 = cellsV V := by rw [(hF T 13 (fun z => by have := hd _ _ z; omega)).1]; exact hX.2.1
    have XM : CT0 M T V ∧ CTs M T V := ⟨CT0.fr hF (fun q j x y z => by have := hd _ _ z; omega) hX.1, CTs.fr hF (fun q j x y z => by have := hd _ _ z; omega) hX.2⟩
    have SM := hS.fr hF (fun q j x z => by have := hd _ _ z; unfold CsW at x; omega)
    have w8 := (hV.2.2.2 (i : Int) (by omega) (by omega)).2.2.1
    have hmn := clG_mono V (nxV V D nets (wlV V)) s.1 s.2.2.2 i
    have hnx := ih (i + 1) g
    have ew : clG V (nxV V D nets (wlV V)) s.1 s.2.2.2 (i + 1) = if V 8 (i : Int) = 0 ∧ wAhead (wayS (nxV V D nets (wlV V)) (i : Int)) = 0 ∧ (clG V (nxV V D nets (wlV V)) s.1 s.2.2.2 i).1 < wRound (wayS (nxV V D nets (wlV V)) (i : Int)) then (wRound (wayS (nxV V D nets (wlV V)) (i : Int)), (i : Int)) else clG V (nxV V D nets (wlV V)) s.1 s.2.2.2 i := rfl
    rw [t_Trail_tryClock_L3, e13, if_neg (by omega)]
    unfold t_Trail_tryClock_L75
    simp (config := { proj := false }) only [qlet]
    rw [bitOf_tb M _ (by omega) (by omega), SM.2.2.2.2 _ (by omega) (by omega), show wlV V (i : Int) = decide (V 8 (i : Int) = 1) from rfl, w32_succ (by omega)]
    by_cases c8 : V 8 (i : Int) = 1
    · rw [decide_eq_true c8, if_neg (show ¬ (if true = true then (1 : Int) else 0) = 0 by decide)]
      rw [if_neg (fun q => by have := q.1; omega)] at ew
      rw [ew] at hnx
      exact hnx M (by omega) (by omega) hF hk
    have c80 := w8.resolve_right c8
    rw [decide_eq_false c8, if_pos (show (if false = true then (1 : Int) else 0) = 0 from rfl)]
    obtain ⟨N, n1, n2, n3⟩ := c_follow (k := 189) (k2 := 52) hT (Or.inr rfl) (by omega) hV XM.1 XM.2 SM.sc (c := (i : Int)) (by omega) (by omega)
    have fN : Fr TcW M0 N := hF.trans (n2.mono (fun q j z => by unfold W_Trail_follow at z; unfold TcW; omega))
    have kN : CkR N (ckX x3 x4 s (clG V (nxV V D nets (wlV V)) s.1 s.2.2.2 i)) := ⟨((n2 189 5 (by unfold W_Trail_follow; omega)).1).trans hk.1, ((n2 189 6 (by unfold W_Trail_follow; omega)).1).trans hk.2.1, ((n2 189 7 (by unfold W_Trail_follow; omega)).1).trans hk.2.2.1, ((n2 189 8 (by unfold W_Trail_follow; omega)).1).trans hk.2.2.2⟩
    have k5 : N.1 189 5 = (clG V (nxV V D nets (wlV V)) s.1 s.2.2.2 i).1 := by
      rw [kN.1]
      unfold ckX
      by_cases z : s.1 < (clG V (nxV V D nets (wlV V)) s.1 s.2.2.2 i).1
      · rw [if_pos z]
      · rw [if_neg z]; omega
    rw [n1, obind_some, n3.2.1, n3.2.2.1, k5]
    by_cases c9 : wAhead (wayS (nxV V D nets (wlV V)) (i : Int)) = 0
    rotate_left
    · rw [if_neg c9]
      rw [if_neg (fun q => c9 q.2.1)] at ew
      rw [ew] at hnx
      exact hnx N (by omega) (by omega) fN kN
    rw [if_pos c9]
    by_cases c10 : wRound (wayS (nxV V D nets (wlV V)) (i : Int)) ≤ (clG V (nxV V D nets (wlV V)) s.1 s.2.2.2 i).1
    · rw [if_pos c10]
      rw [if_neg (fun q => by have := q.2.2; omega)] at ew
      rw [ew] at hnx
      exact hnx N (by omega) (by omega) fN kN
    · rw [if_neg c10]
      have hc : V 8 (i : Int) = 0 ∧ wAhead (wayS (nxV V D nets (wlV V)) (i : Int)) = 0 ∧ (clG V (nxV V D nets (wlV V)) s.1 s.2.2.2 i).1 < wRound (wayS (nxV V D nets (wlV V)) (i : Int)) := ⟨c80, c9, by omega⟩
      rw [if_pos hc] at ew
      rw [ew] at hnx
      refine hnx _ (by omega) (by omega) ((((fN.setI (by unfold TcW; omega)).setI (by unfold TcW; omega)).setI (by unfold TcW; omega)).setI (by unfold TcW; omega)) ?_
      unfold ckX
      rw [if_pos (show s.1 < (wRound (wayS (nxV V D nets (wlV V)) (i : Int)), (i : Int)).1 by show s.1 < wRound (wayS (nxV V D nets (wlV V)) (i : Int)); omega)]
      refine ⟨?_, ?_, ?_, ?_⟩
      · rw [sI_ne (by omega), sI_ne (by omega), sI_ne (by omega), sI_self]
      · rw [sI_ne (by omega), sI_ne (by omega), sI_self]
      · rw [sI_ne (by omega), sI_self]
      · rw [sI_self]
/-- one try of the class: the best so far against the scene's longest round -/
theorem c_tryClock {M : Mem} {T : Nat} {V : TV} {D A S L : Int → Int} {nets wat : Int64} {x3 x4 : Int} {s : CKS} (hV : VOK V) (hT : T = 2 ∨ T = 22) (hX : CT0 M T V ∧ CTs M T V) (hS : CScF M 52 V D A S L nets wat (wlV V)) (hk : CkR M s) (hs : 0 ≤ s.1) : ∃ N, t_Trail_tryClock M 189 T 52 x3 x4 = some N ∧ Fr TcW M N ∧ CkR N (ckX x3 x4 s (clG V (nxV V D nets (wlV V)) 0 (-1) (cellsV V).toNat)) := by
  have hC := hV.cells
  have e0 : ckX x3 x4 s (clG V (nxV V D nets (wlV V)) s.1 s.2.2.2 0) = s := if_neg (Int.lt_irrefl _)
  obtain ⟨N, n1, n2, n3⟩ := c_tryClock_loop (x3 := x3) (x4 := x4) (s := s) hV hT hX hS (cellsV V).toNat 0 FU M (by omega) (fu_big (by omega)) Fr.rf (by rw [e0]; exact hk)
  have e1 : ckX x3 x4 s (clG V (nxV V D nets (wlV V)) s.1 s.2.2.2 (cellsV V).toNat) = ckX x3 x4 s (clG V (nxV V D nets (wlV V)) 0 (-1) (cellsV V).toNat) := by
    rw [clG_from V (nxV V D nets (wlV V)) hs]
    generalize clG V (nxV V D nets (wlV V)) 0 (-1) (cellsV V).toNat = m
    by_cases z : s.1 < m.1
    · rw [if_pos z]
    · rw [if_neg z]
      unfold ckX
      rw [if_neg z, if_neg (show ¬ s.1 < (s.1, s.2.2.2).1 from Int.lt_irrefl _)]
  rw [e1] at n3
  exact ⟨N, n1, n2, n3⟩
/-! all tries -/
def ckT (V : TV) (D : Int → Int) (nets : Int64) (w d : Int) (s : CKS) : CKS := ckX w d s (clG V (nxV V (upA D w d) nets (wlV V)) 0 (-1) (cellsV V).toNat)
def ckD (V : TV) (D : Int → Int) (nets : Int64) (w : Int) (s : CKS) : Nat → CKS
  | 0 => s
  | d + 1 => ckT V D nets w (d : Int) (ckD V D nets w s d)
def ckW (V : TV) (D : Int → Int) (nets : Int64) (s : CKS) : Nat → CKS
  | 0 => s
  | w + 1 => ckD V D nets (w : Int) (ckW V D nets s w) 5
theorem ckX_mono (x y : Int) (s : CKS) (m : Int × Int) : s.1 ≤ (ckX x y s m).1 := by
  unfold ckX
  by_cases z : s.1 < m.1
  · rw [if_pos z]; show s.1 ≤ m.1; omega
  · rw [if_neg z]; exact Int.le_refl _
theorem ckD_mono (V : TV) (D : Int → Int) (nets : Int64) (w : Int) (s : CKS) : ∀ d : Nat, s.1 ≤ (ckD V D nets w s d).1 := by
  intro d
  induction d with
  | zero => exact Int.le_refl _
  | succ d ih => rw [ckD]; exact Int.le_trans ih (ckX_mono _ _ _ _)
theorem ckW_mono (V : TV) (D : Int → Int) (nets : Int64) (s : CKS) : ∀ w : Nat, s.1 ≤ (ckW V D nets s w).1 := by
  intro w
  induction w with
  | zero => exact Int.le_refl _
  | succ w ih => rw [ckW]; exact Int.le_trans ih (ckD_mono _ _ _ _ _ _)
theorem upA_id (D : Int → Int) (w : Int) : upA D w (D w) = D := by
  funext x
  unfold upA
  by_cases z : x = w
  · rw [if_pos z, z]
  · rw [if_neg z]
theorem upA_up (D : Int → Int) (w a b : Int) : upA (upA D w a) w b = upA D w b := by
  funext x
  unfold upA
  by_cases z : x = w
  · rw [if_pos z, if_pos z]
  · rw [if_neg z, if_neg z, if_neg z]
def FcW : Nat → Int → Prop := fun q j => (q = 189 ∧ 1 ≤ j ∧ j ≤ 8) ∨ q = 190 ∨ q = 53
theorem c_setD {M : Mem} {V : TV} {D A S L : Int → Int} {nets wat : Int64} {wl : Int → Bool} (hV : VOK V) (hS : CScF M 52 V D A S L nets wat wl) {w d : Int} (hw : 0 ≤ w ∧ w < V 0 2) : t_WF_put M (52 + 1) 4 w d = setI M 53 w d ∧ Fr (fun q j => q = 53 ∧ j = w) M (setI M 53 w d) ∧ CScF (setI M 53 w d) 52 V (upA D w d) A S L nets wat wl := by
  have hv := hV.1
  have f1 : Fr (fun q j => q = 53 ∧ j = w) M (setI M 53 w d) := Fr.rf.setI ⟨rfl, rfl⟩
  refine ⟨put_in hw.1 (by omega), f1, ?_⟩
  obtain ⟨a1, a2, a3, a4, a5⟩ := hS
  refine ⟨fun x p q => ?_, fun t p q => ?_, a3, a4, a5⟩
  · by_cases e : x = w
    · rw [e, upA_self]; exact sI_self _ _ _ _
    · rw [upA_ne _ e, (f1 (52 + 1) x (by omega)).1]; exact a1 x p q
  · rw [(f1 (52 + 2) t (by omega)).1, (f1 (52 + 3) t (by omega)).1, (f1 (52 + 4) t (by omega)).1]; exact a2 t p q
theorem c_clock_L51 {M0 : Mem} {T : Nat} {V : TV} {D A S L : Int → Int} {nets wat : Int64} {w : Int} {s : CKS} {bk : Mem → Int → Option Mem} (hV : VOK V) (hT : T = 2 ∨ T = 22) (hX : CT0 M0 T V ∧ CTs M0 T V) (hw : 0 ≤ w ∧ w < V 0 2) (hs : 0 ≤ s.1) : ∀ (n d fu : Nat) (M : Mem) (d' : Int), d + n = 5 → n < fu → Fr FcW M0 M → CScF M 52 V (upA D w d') A S L nets wat (wlV V) → CkR M (ckD V D nets w s d) → ∃ N, t_Trail_findClock_L51 189 T 52 bk fu M w (D w) (d : Int) = bk N (w + 1) ∧ Fr FcW M0 N ∧ CScF N 52 V D A S L nets wat (wlV V) ∧ CkR N (ckD V D nets w s 5) := by
  have hv := hV.1
  intro n
  induction n with
  | zero =>
    intro d fu M d' g0 g1 hF hS hk
    obtain ⟨g, rfl⟩ : ∃ g, fu = g + 1 := ⟨fu - 1, by omega⟩
    have e5 : d = 5 := by omega
    subst e5
    obtain ⟨p1, p2, p3⟩ := c_setD (d := D w) hV hS hw
    rw [upA_up, upA_id] at p3
    rw [t_Trail_findClock_L51, if_pos (by omega)]
    simp (config := { proj := false }) only [qlet]
    rw [p1, w32_id (x := w + 1) (by unfold InR; omega)]
    refine ⟨setI M 53 w (D w), rfl, hF.trans (p2.mono (fun q j z => by unfold FcW; omega)), p3, ⟨((p2 189 5 (by omega)).1).trans hk.1, ((p2 189 6 (by omega)).1).trans hk.2.1, ((p2 189 7 (by omega)).1).trans hk.2.2.1, ((p2 189 8 (by omega)).1).trans hk.2.2.2⟩⟩
  | succ n ih =>
    intro d fu M d' g0 g1 hF hS hk
    obtain ⟨g, rfl⟩ : ∃ g, fu = g + 1 := ⟨fu - 1, by omega⟩
    obtain ⟨p1, p2, p3⟩ := c_setD (d := (d : Int)) hV hS hw
    rw [upA_up] at p3
    rw [t_Trail_findClock_L51, if_neg (by omega)]
    simp (config := { proj := false }) only [qlet]
    rw [p1, w32_succ (by omega)]
    have f1 : Fr FcW M0 (setI M 53 w (d : Int)) := hF.trans (p2.mono (fun q j z => by unfold FcW; omega))
    have k1 : CkR (setI M 53 w (d : Int)) (ckD V D nets w s d) := ⟨((p2 189 5 (by omega)).1).trans hk.1, ((p2 189 6 (by omega)).1).trans hk.2.1, ((p2 189 7 (by omega)).1).trans hk.2.2.1, ((p2 189 8 (by omega)).1).trans hk.2.2.2⟩
    generalize setI M 53 w (d : Int) = M1 at *
    have X1 : CT0 M1 T V ∧ CTs M1 T V := ⟨CT0.fr f1 (fun q j x y z => by unfold FcW at z; omega) hX.1, CTs.fr f1 (fun q j x y z => by unfold FcW at z; omega) hX.2⟩
    obtain ⟨N, n1, n2, n3⟩ := c_tryClock (x3 := w) (x4 := (d : Int)) hV hT X1 p3 k1 (Int.le_trans hs (ckD_mono V D nets w s d))
    rw [n1, obind_some]
    exact ih (d + 1) g N (d : Int) (by omega) (by omega) (f1.trans (n2.mono (fun q j z => by unfold TcW at z; unfold FcW; omega))) (p3.fr n2 (fun q j z y => by unfold CsW at z; unfold TcW at y; omega)) n3
theorem c_clock_L30 {M0 : Mem} {T : Nat} {V : TV} {D A S L : Int → Int} {nets wat : Int64} {s : CKS} (hV : VOK V) (hT : T = 2 ∨ T = 22) (hX : CT0 M0 T V ∧ CTs M0 T V) (hs : 0 ≤ s.1) : ∀ (n w fu : Nat) (M : Mem), (w : Int) + (n : Int) = V 0 2 → n < fu → Fr FcW M0 M → CScF M 52 V D A S L nets wat (wlV V) → CkR M (ckW V D nets s w) → ∃ N, t_Trail_findClock_L30 189 T 52 fu M (w : Int) = some N ∧ Fr FcW M0 N ∧ CkR N (ckW V D nets s (V 0 2).toNat) := by
  have hv := hV.1
  intro n
  induction n with
  | zero =>
    intro w fu M g0 g1 hF hS hk
    obtain ⟨g, rfl⟩ : ∃ g, fu = g + 1 := ⟨fu - 1, by omega⟩
    have e14 : M.1 T 14 = V 0 2 := by rw [(hF T 14 (by unfold FcW; omega)).1]; exact hX.1.1.2.2.1
    rw [t_Trail_findClock_L30, e14, if_pos (by omega), show (V 0 2).toNat = w by omega]
    exact ⟨M, rfl, hF, hk⟩
  | succ n ih =>
    intro w fu M g0 g1 hF hS hk
    obtain ⟨g, rfl⟩ : ∃ g, fu = g + 1 := ⟨fu - 1, by omega⟩
    have e14 : M.1 T 14 = V 0 2 := by rw [(hF T 14 (by unfold FcW; omega)).1]; exact hX.1.1.2.2.1
    rw [t_Trail_findClock_L30, e14, if_neg (by omega)]
    simp (config := { proj := false }) only [qlet]
    have lk : t_WF_look M (52 + 1) 4 (w : Int) = D (w : Int) := by rw [look_in (by omega) (by omega)]; exact hS.1 (w : Int) (by omega) (by omega)
    rw [lk]
    obtain ⟨N, n1, n2, n3, n4⟩ := c_clock_L51 (D := D) (w := (w : Int)) (s := ckW V D nets s w) (bk := fun a0_ a1_ => t_Trail_findClock_L30 189 T 52 g a0_ a1_) hV hT hX ⟨by omega, by omega⟩ (Int.le_trans hs (ckW_mono V D nets s w)) 5 0 FU M (D (w : Int)) (by omega) (fu_big (by omega)) hF (by rw [upA_id]; exact hS) hk
    have n1' : t_Trail_findClock_L51 189 T 52 (fun a0_ a1_ => t_Trail_findClock_L30 189 T 52 g a0_ a1_) FU M (w : Int) (D (w : Int)) 0 = t_Trail_findClock_L30 189 T 52 g N ((w : Int) + 1) := n1
    rw [n1', show (w : Int) + 1 = ((w + 1 : Nat) : Int) by omega]
    exact ih (w + 1) g N (by omega) (by omega) n2 n3 n4
end
section
/-! ===== clock: the reference's tries, both sides ===== -/
theorem m_clock_L50 {M0 : Mem} {x1 : Int} {V : TV} {D : Int → Int} {nets : Int64} {w : Int} {s : CKS} {bk : Mem → Int → Int → Int → Int → Int → Option (Mem × Int)} (h0 : RI M0 V) (eD : DN M0 0 = D) (en : M0.2 210 0 = nets) (hw : 0 ≤ w ∧ w < V 0 2) (hb : (clG V (nxV V D nets (wlV V)) 0 (-1) (cellsV V).toNat).1 ≤ s.1) : ∀ (n d fu : Nat) (M : Mem), d + n = 5 → n < fu → KQ M0 V M → ∃ N, KQ M0 V N ∧ t_MO_clock_L50 x1 bk fu M (ckD V D nets w s d).1 (ckD V D nets w s d).2.1 (ckD V D nets w s d).2.2.1 (ckD V D nets w s d).2.2.2 w (d : Int) = bk N (ckD V D nets w s 5).1 (ckD V D nets w s 5).2.1 (ckD V D nets w s 5).2.2.1 (ckD V D nets w s 5).2.2.2 (w + 1) := by
  have hV := h0.1.1
  have hv := hV.1
  intro n
  induction n with
  | zero =>
    intro d fu M g0 g1 hk
    obtain ⟨g, rfl⟩ : ∃ g, fu = g + 1 := ⟨fu - 1, by omega⟩
    have e5 : d = 5 := by omega
    subst e5
    rw [t_MO_clock_L50, if_pos (by omega), w32_id (x := w + 1) (by unfold InR; omega)]
    exact ⟨M, hk, rfl⟩
  | succ n ih =>
    intro d fu M g0 g1 hk
    obtain ⟨g, rfl⟩ : ∃ g, fu = g + 1 := ⟨fu - 1, by omega⟩
    have eDx : ∀ x, 0 ≤ x → x < 4 → M.1 212 (4 * 0 + x) = D x := fun x a b => by
      rw [(hk.2 212 _ (by unfold QmW CW; omega)).1, ← eD]
      rfl
    have e212 : M.1 212 w = D w := by
      have := eDx w hw.1 (by omega)
      rw [show (4 : Int) * 0 + w = w by omega] at this
      exact this
    rw [t_MO_clock_L50, if_neg (by omega), qguard_pos ⟨hw.1, by omega⟩, e212]
    unfold t_MO_clock_L120
    simp (config := { proj := false }) only [qlet]
    rw [w32_succ (by omega)]
    have es : ckD V D nets w s (d + 1) = ckX w (d : Int) (ckD V D nets w s d) (clG V (nxV V (upA D w (d : Int)) nets (wlV V)) 0 (-1) (cellsV V).toNat) := rfl
    have hnx := ih (d + 1) g
    by_cases c : (d : Int) = D w
    · rw [if_pos c]
      have hmn := ckD_mono V D nets w s d
      have e2 : ckD V D nets w s (d + 1) = ckD V D nets w s d := by
        rw [es, c, upA_id]
        unfold ckX
        rw [if_neg (show ¬ (ckD V D nets w s d).1 < (clG V (nxV V D nets (wlV V)) 0 (-1) (cellsV V).toNat).1 by omega)]
      rw [e2] at hnx
      exact hnx M (by omega) (by omega) hk
    rw [if_neg c]
    obtain ⟨C, c1, c2, c3, c4, c5⟩ := hk.1.cp1
    rw [c1, obind_some, w32_id (x := 4 + w) (by unfold InR; omega), qguard_pos ⟨by omega, by omega⟩]
    have f19 : Fr (fun k j => k = 212 ∧ j = 4 + w) C (setI C 212 (4 + w) (d : Int)) := Fr.rf.setI ⟨rfl, rfl⟩
    have v19 : (setI C 212 (4 + w) (d : Int)).1 212 (4 + w) = (d : Int) := sI_self _ _ _ _
    have e210 : (setI C 212 (4 + w) (d : Int)).2 210 1 = nets := by
      rw [(f19 210 1 (by omega)).2, c4.1.2.2.2.1, (hk.2 210 0 (by unfold QmW CW; omega)).2]; exact en
    generalize setI C 212 (4 + w) (d : Int) = M19 at *
    have h19 : RI M19 V := c2.fr f19 (fun k j a q => by unfold RIc at a; omega)
    have hm : MSc M19 1 V (upA D w (d : Int)) (AT M19 1) nets := by
      refine ⟨fun x a b => ?_, fun t _ _ => rfl, e210⟩
      by_cases e : x = w
      · rw [e, upA_self, show (4 : Int) * 1 + w = 4 + w by omega]; exact v19
      · rw [upA_ne _ e, (f19 212 _ (by omega)).1, c4.2.1 x a (by omega)]; exact eDx x a (by omega)
    have hD : ∀ x, 0 ≤ x → x < V 0 2 → 0 ≤ upA D w (d : Int) x ∧ upA D w (d : Int) x ≤ 4 := fun x a b => by
      by_cases e : x = w
      · rw [e, upA_self]; omega
      · rw [upA_ne _ e, ← eDx x a (by omega)]; exact hk.1.row0.1 x a b
    obtain ⟨P, p1, p2, p3⟩ := m_longest (a := 1) (by omega) h19 hm hD
    have kP : KQ M0 V P := ⟨h19.fr p2 LGW_RIc, ((hk.2.trans (c5.mono (fun k j z => by unfold QmW; exact Or.inr (Or.inl z)))).trans (f19.mono (fun k j z => by unfold QmW CW; omega))).trans (p2.mono (fun k j z => by unfold LGW at z; unfold QmW; omega))⟩
    rw [p1, obind_some]
    by_cases z : (ckD V D nets w s d).1 < (clG V (nxV V (upA D w (d : Int)) nets (wlV V)) 0 (-1) (cellsV V).toNat).1
    · have e2 : ckD V D nets w s (d + 1) = ((clG V (nxV V (upA D w (d : Int)) nets (wlV V)) 0 (-1) (cellsV V).toNat).1, w, (d : Int), (clG V (nxV V (upA D w (d : Int)) nets (wlV V)) 0 (-1) (cellsV V).toNat).2) := by rw [es]; unfold ckX; rw [if_pos z]
      rw [if_pos z, p3]
      rw [e2] at hnx
      exact hnx P (by omega) (by omega) kP
    · have e2 : ckD V D nets w s (d + 1) = ckD V D nets w s d := by rw [es]; unfold ckX; rw [if_neg z]
      rw [if_neg z]
      rw [e2] at hnx
      exact hnx P (by omega) (by omega) kP
def ckV (x1 : Int) (S : CKS) : Int := if x1 = 0 then S.1 else if x1 = 1 then S.2.1 else if x1 = 2 then S.2.2.1 else S.2.2.2
theorem m_clock_L36 {M0 : Mem} {x1 : Int} {V : TV} {D : Int → Int} {nets : Int64} {s : CKS} (h0 : RI M0 V) (eD : DN M0 0 = D) (en : M0.2 210 0 = nets) (hb : (clG V (nxV V D nets (wlV V)) 0 (-1) (cellsV V).toNat).1 ≤ s.1) : ∀ (n w fu : Nat) (M : Mem), (w : Int) + (n : Int) = V 0 2 → n < fu → KQ M0 V M → ∃ N, KQ M0 V N ∧ t_MO_clock_L36 x1 fu M (ckW V D nets s w).1 (ckW V D nets s w).2.1 (ckW V D nets s w).2.2.1 (ckW V D nets s w).2.2.2 (w : Int) = some (N, ckV x1 (ckW V D nets s (V 0 2).toNat)) := by
  have hv := h0.1.1.1
  intro n
  induction n with
  | zero =>
    intro w fu M g0 g1 hk
    obtain ⟨g, rfl⟩ : ∃ g, fu = g + 1 := ⟨fu - 1, by omega⟩
    rw [t_MO_clock_L36, hk.1.1.2.1.1.2.2.1, if_pos (by omega), show (V 0 2).toNat = w by omega]
    refine ⟨M, hk, ?_⟩
    unfold ckV
    by_cases z0 : x1 = 0
    · rw [if_pos z0, if_pos z0]
    rw [if_neg z0, if_neg z0]
    by_cases z1 : x1 = 1
    · rw [if_pos z1, if_pos z1]
    rw [if_neg z1, if_neg z1]
    by_cases z2 : x1 = 2
    · rw [if_pos z2, if_pos z2]
    rw [if_neg z2, if_neg z2]
  | succ n ih =>
    intro w fu M g0 g1 hk
    obtain ⟨g, rfl⟩ : ∃ g, fu = g + 1 := ⟨fu - 1, by omega⟩
    rw [t_MO_clock_L36, hk.1.1.2.1.1.2.2.1, if_neg (by omega)]
    obtain ⟨N, n1, n2⟩ := m_clock_L50 (x1 := x1) (w := (w : Int)) (s := ckW V D nets s w) (bk := fun a0_ a1_ a2_ a3_ a4_ a5_ => t_MO_clock_L36 x1 g a0_ a1_ a2_ a3_ a4_ a5_) h0 eD en ⟨by omega, by omega⟩ (Int.le_trans hb (ckW_mono V D nets s w)) 5 0 FU M (by omega) (fu_big (by omega)) hk
    have n2' : t_MO_clock_L50 x1 (fun a0_ a1_ a2_ a3_ a4_ a5_ => t_MO_clock_L36 x1 g a0_ a1_ a2_ a3_ a4_ a5_) FU M (ckW V D nets s w).1 (ckW V D nets s w).2.1 (ckW V D nets s w).2.2.1 (ckW V D nets s w).2.2.2 (w : Int) 0 = t_MO_clock_L36 x1 g N (ckW V D nets s (w + 1)).1 (ckW V D nets s (w + 1)).2.1 (ckW V D nets s (w + 1)).2.2.1 (ckW V D nets s (w + 1)).2.2.2 ((w : Int) + 1) := n2
    rw [n2', show (w : Int) + 1 = ((w + 1 : Nat) : Int) by omega]
    exact ih (w + 1) g N (by omega) (by omega) n1
theorem ck0 (V : TV) (f : Int → Int) (n : Nat) : ckX (-1) (-1) ((0, -1, -1, -1) : CKS) (clG V f 0 (-1) n) = ((clG V f 0 (-1) n).1, -1, -1, (clG V f 0 (-1) n).2) := by
  have h := clG_from V f (b := 0) (c := -1) (Int.le_refl _) n
  unfold ckX
  by_cases z : (0 : Int) < (clG V f 0 (-1) n).1
  · rw [if_pos z]
  · rw [if_neg z] at h
    rw [if_neg z, h]
theorem bs_clock {M : Mem} (h : LI M) {x1 : Int} (h1 : InR x1) : Ok (fun q => Ok (fun r => q.2 = r.2 ∧ LI r.1) (t_MO_clock q.1 x1)) (t_WF_clock M x1) := by
  have h' := h
  have hTT := h.T
  obtain ⟨hI, ⟨V, hR, hX, hRL⟩, -⟩ := h
  have hV := hR.1.1
  have hv := hV.1
  have hC := hV.cells
  have hS : CScF M 47 V (DN M 0) (AT M 0) (ST M 0) (LN M 0) (M.2 210 0) (M.2 211 0) (wlV V) := hRL.1
  have same : t_WF_clock M x1 = some (M, -1) → t_MO_clock M x1 = some (setI M 191 0 0, -1) → Ok (fun q => Ok (fun r => q.2 = r.2 ∧ LI r.1) (t_MO_clock q.1 x1)) (t_WF_clock M x1) := fun e1 e2 => ⟨_, e1, _, e2, rfl, h'.at0⟩
  by_cases c1 : x1 < 0
  · refine same ?_ ?_
    · unfold t_WF_clock; rw [if_pos c1]
    · unfold t_MO_clock; simp (config := { proj := false }) only [qlet]; rw [if_pos c1]
  by_cases c2 : x1 ≤ 3
  rotate_left
  · refine same ?_ ?_
    · unfold t_WF_clock; rw [if_neg c1, if_neg c2]
    · unfold t_MO_clock; simp (config := { proj := false }) only [qlet]; rw [if_neg c1, if_neg c2]
  obtain ⟨m0, em⟩ : ∃ m0 : Int × Int, m0 = clG V (nxV V (DN M 0) (M.2 210 0) (wlV V)) 0 (-1) (cellsV V).toNat := ⟨_, rfl⟩
  have hm0 : 0 ≤ m0.1 := by rw [em]; exact clG_mono _ _ _ _ _
  obtain ⟨s0, es⟩ : ∃ s0 : CKS, s0 = (m0.1, -1, -1, m0.2) := ⟨_, rfl⟩
  have hs0 : 0 ≤ s0.1 := by rw [es]; exact hm0
  obtain ⟨R, eR⟩ : ∃ R : CKS, R = ckW V (DN M 0) (M.2 210 0) s0 (V 0 2).toNat := ⟨_, rfl⟩
  have hcl : ∃ N, t_WF_clock M x1 = some (N, ckV x1 R) ∧ Fr (fun q j => CsW 52 q j ∨ FcW q j) M N := by
    unfold t_WF_clock t_Trail_findClock
    simp (config := { proj := false }) only [qlet]
    rw [if_neg c1, if_pos c2]
    obtain ⟨s1, s2⟩ := c_scopy (k0 := 52) (k1 := 47) hV (Or.inl (by omega)) hS
    generalize t_Scene_copy M 52 47 = K0 at *
    rw [(s2 0 4 (by unfold CsW; omega)).1]
    have f1 : Fr FcW K0 (setI (setI (setI (setI K0 189 5 0) 189 6 (-1)) 189 7 (-1)) 189 8 (-1)) := (((Fr.rf.setI (by unfold FcW; omega)).setI (by unfold FcW; omega)).setI (by unfold FcW; omega)).setI (by unfold FcW; omega)
    have k1 : CkR (setI (setI (setI (setI K0 189 5 0) 189 6 (-1)) 189 7 (-1)) 189 8 (-1)) ((0, -1, -1, -1) : CKS) := by
      refine ⟨?_, ?_, ?_, ?_⟩
      · rw [sI_ne (by omega), sI_ne (by omega), sI_ne (by omega), sI_self]
      · rw [sI_ne (by omega), sI_ne (by omega), sI_self]
      · rw [sI_ne (by omega), sI_self]
      · rw [sI_self]
    have g1 : Fr (fun q j => q = 189 ∧ 5 ≤ j ∧ j ≤ 8) K0 (setI (setI (setI (setI K0 189 5 0) 189 6 (-1)) 189 7 (-1)) 189 8 (-1)) := (((Fr.rf.setI (by omega)).setI (by omega)).setI (by omega)).setI (by omega)
    generalize setI (setI (setI (setI K0 189 5 0) 189 6 (-1)) 189 7 (-1)) 189 8 (-1) = K1 at *
    have fK : Fr (fun q j => CsW 52 q j ∨ FcW q j) M K1 := (s2.mono (fun q j z => Or.inl z)).trans (f1.mono (fun q j z => Or.inr z))
    have S1 := s1.fr g1 (fun q j z y => by unfold CsW at z; omega)
    have X1 : CT0 K1 (M.1 0 4).toNat V ∧ CTs K1 (M.1 0 4).toNat V := ⟨CT0.fr fK (fun q j x y z => by unfold CsW FcW at z; omega) hX.1, CTs.fr fK (fun q j x y z => by unfold CsW FcW at z; omega) hX.2.1⟩
    obtain ⟨K2, a1, a2, a3⟩ := c_tryClock (x3 := -1) (x4 := -1) hV hTT.2 X1 S1 k1 (Int.le_refl _)
    rw [ck0, ← em, ← es] at a3
    rw [a1, obind_some]
    have S2 := S1.fr a2 (fun q j z y => by unfold CsW at z; unfold TcW at y; omega)
    have X2 : CT0 K2 (M.1 0 4).toNat V ∧ CTs K2 (M.1 0 4).toNat V := ⟨CT0.fr a2 (fun q j x y z => by unfold TcW at z; omega) X1.1, CTs.fr a2 (fun q j x y z => by unfold TcW at z; omega) X1.2⟩
    obtain ⟨N, n1, n2, n3⟩ := c_clock_L30 (s := s0) hV hTT.2 X2 hs0 (V 0 2).toNat 0 FU K2 (by omega) (fu_big (by omega)) Fr.rf S2 a3
    have n1' : t_Trail_findClock_L30 189 (M.1 0 4).toNat 52 FU K2 0 = some N := n1
    rw [n1', obind_some, n3.1, n3.2.1, n3.2.2.1, n3.2.2.2, ← eR]
    refine ⟨N, ?_, (fK.trans (a2.mono (fun q j z => Or.inr (by unfold TcW at z; unfold FcW; omega)))).trans (n2.mono (fun q j z => Or.inr z))⟩
    unfold ckV
    by_cases z0 : x1 = 0
    · rw [if_pos z0, if_pos z0]
    rw [if_neg z0, if_neg z0]
    by_cases z1 : x1 = 1
    · rw [if_pos z1, if_pos z1]
    rw [if_neg z1, if_neg z1]
    by_cases z2 : x1 = 2
    · rw [if_pos z2, if_pos z2]
    rw [if_neg z2, if_neg z2]
  obtain ⟨N, n1, n2⟩ := hcl
  obtain ⟨u, e, hu⟩ := sf_WF_clock hI h1
  have : u = _ := Option.some.inj (e.symm.trans n1)
  subst this
  have hLN : LI N := h'.q hu.1 (n2.mono (fun q j z => by unfold CsW FcW at z; unfold QkW; omega))
  have hRN : RI N V := hR.fr n2 (fun q j a z => by unfold RIc at a; unfold CsW FcW at z; omega)
  have h0 := hRN.set0 0
  have f0 : Fr (fun q j => (CsW 52 q j ∨ FcW q j) ∨ (q = 191 ∧ j = 0)) M (setI N 191 0 0) := (n2.mono (fun q j z => Or.inl z)).setI (Or.inr ⟨rfl, rfl⟩)
  have eD : DN (setI N 191 0 0) 0 = DN M 0 := funext (fun w => (f0 212 _ (fun z => by unfold CsW FcW at z; omega)).1)
  have en : (setI N 191 0 0).2 210 0 = M.2 210 0 := (f0 210 0 (fun z => by unfold CsW FcW at z; omega)).2
  have hmS : MSc (setI N 191 0 0) 0 V (DN M 0) (AT (setI N 191 0 0) 0) (M.2 210 0) := ⟨fun w _ _ => by rw [← eD]; rfl, fun _ _ _ => rfl, en⟩
  obtain ⟨P, p1, p2, p3⟩ := m_longest (a := 0) (by omega) h0 hmS (fun w a b => hR.row0.1 w a b)
  rw [← em] at p1 p3
  have g0 : Fr QmW N (setI N 191 0 0) := Fr.rf.setI (by unfold QmW; omega)
  have kP : KQ (setI N 191 0 0) V P := ⟨h0.fr p2 LGW_RIc, p2.mono (fun k j z => by unfold LGW at z; unfold QmW; omega)⟩
  obtain ⟨Q, q1, q2⟩ := m_clock_L36 (x1 := x1) (s := s0) h0 eD en (by rw [← em, es]; exact Int.le_refl _) (V 0 2).toNat 0 FU P (by omega) (fu_big (by omega)) kP
  have q3 : t_MO_clock N x1 = some (Q, ckV x1 R) := by
    unfold t_MO_clock
    simp (config := { proj := false }) only [qlet]
    rw [if_neg c1, if_pos c2, p1, obind_some, p3, eR]
    have q2' : t_MO_clock_L36 x1 FU P s0.1 s0.2.1 s0.2.2.1 s0.2.2.2 0 = some (Q, ckV x1 (ckW V (DN M 0) (M.2 210 0) s0 (V 0 2).toNat)) := q2
    rw [es] at q2' ⊢
    exact q2'
  have hIP := im_MO_clock hu.1 h1 _ q3
  exact ⟨_, n1, _, q3, rfl, hLN.qm hIP.1 (g0.trans q1.2)⟩
end
