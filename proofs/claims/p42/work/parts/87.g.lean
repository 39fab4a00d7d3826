section
/-! ===== lines: walls, stairs ===== -/
section LC
variable {B : Int → Int} {n : Int}
theorem cell_rng {V : TV} (hV : VOK V) {x y : Int} (x0 : 0 ≤ x) (x1 : x ≤ V 0 0 - 1) (y0 : 0 ≤ y) (y1 : y ≤ V 0 1 - 1) : 0 ≤ y * V 0 0 + x ∧ y * V 0 0 + x < cellsV V ∧ y * V 0 0 ≤ 48 ∧ 0 ≤ y * V 0 0 := by
  obtain ⟨⟨a1, a2, a3, a4, -⟩, -⟩ := hV
  unfold cellsV
  generalize V 0 0 = w at *
  generalize V 0 1 = g at *
  have hy : y = 0 ∨ y = 1 ∨ y = 2 ∨ y = 3 ∨ y = 4 ∨ y = 5 := by omega
  have hw : w = 1 ∨ w = 2 ∨ w = 3 ∨ w = 4 ∨ w = 5 ∨ w = 6 ∨ w = 7 ∨ w = 8 := by omega
  rcases hw with rfl | rfl | rfl | rfl | rfl | rfl | rfl | rfl <;> omega
theorem m_cellAtHand {M : Mem} {V : TV} {l : Int} {i : Nat} (h : TS M B n i) (hL : LB M V l) (hP : POK V) :
    (nuS B n i 0 (V 0 0 - 1) = 0 ∧ nuS B n (i + 1) 0 (V 0 1 - 1) = 0 ∧ (0 ≤ tW B n (i + 1) * V 0 0 + tW B n i ∧ tW B n (i + 1) * V 0 0 + tW B n i < cellsV V) ∧ ∃ N, t_MO_cellAtHand M = some (N, tW B n (i + 1) * V 0 0 + tW B n i) ∧ Fr NF M N ∧ TS N B n (i + 1)) ∨
    (∃ f p : Int, ∃ N c, t_MO_cellAtHand M = some (N, c) ∧ Fr NF M N ∧ FS N f p ∧ ∀ k, clS B n V i k = (f, p, 0, V)) := by
  have hv := hP.1.1
  have hC := hP.1.cells
  have w9 : ∀ N, Fr NF M N → N.1 193 (9 + 0) = V 0 0 ∧ N.1 193 (9 + 1) = V 0 1 := fun N q => ⟨((q 193 (9 + 0) (by unfold NF; omega)).1).trans (hL.1.sc (j := 9) (x := 0) (by omega)), ((q 193 (9 + 1) (by unfold NF; omega)).1).trans (hL.1.sc (j := 10) (x := 1) (by omega))⟩
  unfold t_MO_cellAtHand clS
  simp (config := { proj := false }) only [m_fresher (show (0 : Int) ≤ 0 by omega) (show (0 : Int) < 9 by omega), m_fresher (show (0 : Int) ≤ 1 by omega) (show (1 : Int) < 9 by omega), obind_some, qlet]
  rw [(w9 M Fr.rf).1, w32_id (x := V 0 0 - 1) (by unfold InR; omega)]
  rcases m_numeral h (lo := 0) (hi := V 0 0 - 1) (by omega) (by omega) (by omega) with ⟨a0, a1, N1, n1, n2, n3⟩ | ⟨N1, n1, n2, n3⟩
  · rw [n1, obind_some, (w9 N1 n2).2, w32_id (x := V 0 1 - 1) (by unfold InR; omega)]
    rcases m_numAt n3 (lo := 0) (hi := V 0 1 - 1) (by omega) (by omega) (by omega) with ⟨b0, b1, b2, b3⟩ | ⟨N2, b1, b2, b3⟩
    · have cr := cell_rng hP.1 a1.1 a1.2 b2 b3
      rw [b1]
      show _ ∨ _
      left
      refine ⟨a0, b0, ⟨cr.1, cr.2.1⟩, N1, ?_, n2, n3⟩
      show some (N1, w32 (w32 (tW B n (i + 1) * N1.1 193 (9 + 0)) + tW B n i)) = _
      rw [(w9 N1 n2).1, w32_id (x := tW B n (i + 1) * V 0 0) (by unfold InR; omega), w32_id (by unfold InR; omega)]
    · rw [b1]
      right
      exact ⟨_, _, N2, _, rfl, n2.trans b2, b3, fun k => by rw [if_neg (fun q => q a0), if_pos b3.1]⟩
  · rw [n1, obind_some]
    right
    refine ⟨_, _, (t_MO_numeralAtHand N1 0 (w32 (N1.1 193 (9 + 1) - 1))).1, _, rfl, ?_, ?_, fun k => by rw [if_pos n3.1]⟩
    · rw [flt_numAt n3.nz]; exact n2
    · rw [flt_numAt n3.nz]; exact n3
theorem m_hasThing {M : Mem} {V : TV} {l c : Int} (hL : LB M V l) (hP : POK V) : t_MO_hasThing M c = some (if fnd (fun a => V 6 (a : Int)) c (V 0 3).toNat = none then 0 else 1) := by
  have hv := hP.1.1
  have h15 : M.1 193 (9 + 6) = V 0 3 := hL.1.sc (j := 15) (x := 3) (by omega)
  have lp : ∀ (m t fu : Nat), (t : Int) + (m : Int) = V 0 3 → m < fu → (∀ b : Nat, b < t → V 6 (b : Int) ≠ c) → t_MO_hasThing_L2 c fu M (t : Int) = some (if fnd (fun a => V 6 (a : Int)) c (V 0 3).toNat = none then 0 else 1) := by
    intro m
    induction m with
    | zero =>
      intro t fu g0 g1 hb
      obtain ⟨g, rfl⟩ : ∃ g, fu = g + 1 := ⟨fu - 1, by omega⟩
      rw [t_MO_hasThing_L2, m_fresher (by omega) (by omega), obind_some, h15, if_pos (by omega)]
      cases e : fnd (fun a => V 6 (a : Int)) c (V 0 3).toNat with
      | none => rw [if_pos rfl]
      | some b => have := fnd_some e; exact absurd this.2.1 (hb b (by omega))
    | succ m ih =>
      intro t fu g0 g1 hb
      obtain ⟨g, rfl⟩ : ∃ g, fu = g + 1 := ⟨fu - 1, by omega⟩
      rw [t_MO_hasThing_L2, m_fresher (by omega) (by omega), obind_some, h15, if_neg (by omega), w32_id (x := 8 + (t : Int)) (by unfold InR; omega), qguard_pos ⟨by omega, by omega⟩, (hL.1.2.2.1 (t : Int) (by omega) (by omega)).2.2, w32_succ (by omega)]
      by_cases e : V 6 (t : Int) = c
      · rw [if_pos e, if_neg (fun q => fnd_none q t (by omega) e)]
      · rw [if_neg e]
        exact ih (t + 1) g (by omega) (by omega) (fun b hb2 => by
          by_cases q : b = t
          · rw [q]; exact e
          · exact hb b (by omega))
  exact lp (V 0 3).toNat 0 FU (by omega) (fu_big (by omega)) (fun b hb => by omega)
/-- one more wall: what is written -/
theorem m_wall_L61 {M : Mem} {V : TV} {l c : Int} {i : Nat} (h : TS M B n (i + 2)) (hL : LB M V l) (hT : TBw M V 3) (hP : POK V) (h7 : V 0 7 < 12) (c0 : 0 ≤ c) (c1 : c < 48) : LnO M B n l (0, 0, i + 3, setV (setV V 8 c 1) 0 7 (V 0 7 + 1)) (t_MO_wallLine_L61 M c) := by
  have hq := hP.2.2
  unfold t_MO_wallLine_L61
  rw [if_pos h.2.2, w32_id (x := 48 + c) (by unfold InR; omega), qguard_pos ⟨by omega, by omega⟩]
  simp (config := { proj := false }) only [qlet, m_fresher (show (0 : Int) ≤ 4 by omega) (show (4 : Int) < 9 by omega), m_reads (show (0 : Int) ≤ 4 by omega) (show (4 : Int) < 9 by omega), obind_some]
  have e13 : (setI M 198 (48 + c) 1).1 193 (9 + 4) = V 0 7 := by rw [sI_ne (by omega)]; exact hL.1.sc (j := 13) (x := 7) (by omega)
  rw [e13, w32_id (x := V 0 7 + 1) (by unfold InR; omega)]
  have hF : Fr (fun k j => (k = 198 ∧ j = 48 + c) ∨ (k = 193 ∧ j = 13)) M (setI (setI M 198 (48 + c) 1) 193 13 (V 0 7 + 1)) := (Fr.rf.setI (Or.inl ⟨rfl, rfl⟩)).setI (Or.inr ⟨rfl, rfl⟩)
  obtain ⟨N, n1, n2, n3⟩ := (h.fr hF (fun k j a z => by omega)).next
  have n1' : t_MO_token (setI (setI M 198 (48 + c) 1) 193 (9 + 4) (V 0 7 + 1)) = some N := n1
  rw [n1', obind_some]
  have fin : Fr StW M N := (hF.mono (fun k j z => by unfold StW; omega)).trans (n2.mono NF_StW)
  have e : ∀ k j, LBc k j → N.1 k j = (setI (setI M 198 (48 + c) 1) 193 13 (V 0 7 + 1)).1 k j := fun k j a => (n2 k j (NF_LBc k j a)).1
  have e2 : ∀ k j, LBc k j → ¬ ((k = 198 ∧ j = 48 + c) ∨ (k = 193 ∧ j = 13)) → N.1 k j = M.1 k j := fun k j a b => (e k j a).trans (hF k j b).1
  refine ⟨N, rfl, fin, Or.inl ⟨rfl, n3, ?_, ?_⟩⟩
  · refine hL.upd e2 (fun k j z => by omega) (fun j x hj => ?_) (fun w a b => ?_) (fun t a b => ?_) (fun q a b => ?_) rfl rfl rfl (fun r i hr => ?_)
    · show _ = setV (setV V 8 c 1) 0 7 (V 0 7 + 1) 0 x
      by_cases z : j = 13
      · have hx : x = 7 := by omega
        subst z; subst hx
        rw [e 193 13 (by unfold LBc; omega), sI_self, setV_self]
      · rw [e2 193 j (by unfold LBc; omega) (by omega), setV_ne _ _ (by omega), setV_ne _ _ (by omega)]
        exact hL.1.sc hj
    · rw [e2 194 _ (by unfold LBc; omega) (by omega), e2 195 _ (by unfold LBc; omega) (by omega), e2 196 _ (by unfold LBc; omega) (by omega)]
      exact hL.1.2.1 w a b
    · rw [e2 200 _ (by unfold LBc; omega) (by omega), e2 201 _ (by unfold LBc; omega) (by omega), e2 202 _ (by unfold LBc; omega) (by omega)]
      exact hL.1.2.2.1 t a b
    · have z := hL.1.2.2.2 q a b
      show N.1 197 (48 + q) = setV (setV V 8 c 1) 0 7 (V 0 7 + 1) 7 q + 1 ∧ N.1 198 (48 + q) = setV (setV V 8 c 1) 0 7 (V 0 7 + 1) 8 q ∧ N.1 199 (48 + q) = setV (setV V 8 c 1) 0 7 (V 0 7 + 1) 9 q
      rw [e2 197 _ (by unfold LBc; omega) (by omega), e2 199 _ (by unfold LBc; omega) (by omega)]
      refine ⟨z.1, ?_, z.2.2⟩
      by_cases y : q = c
      · subst y
        rw [e 198 _ (by unfold LBc; omega), sI_ne (by omega), sI_self, setV_ne _ _ (by omega), setV_self]
      · rw [e2 198 _ (by unfold LBc; omega) (by omega), setV_ne _ _ (by omega), setV_ne _ _ (by omega)]
        exact z.2.1
    · show setV (setV V 8 c 1) 0 7 (V 0 7 + 1) r i = V r i
      rw [setV_ne _ _ (by omega), setV_ne _ _ (by omega)]
  · refine hT.done fin ?_ (td_of (kw := 7) (fun k a b => ?_) (by omega) (fun _ => ?_))
    · rw [nf17 n2, sI_ne (by omega), sI_ne (by omega)]
    · show setV (setV V 8 c 1) 0 7 (V 0 7 + 1) 0 k = V 0 k
      rw [setV_ne _ _ (by omega), setV_ne _ _ (by omega)]
    · show decide (0 < setV (setV V 8 c 1) 0 7 (V 0 7 + 1) 0 7) = true
      rw [setV_self]; exact decide_eq_true (by omega)
theorem m_stair_L53 {M : Mem} {V : TV} {l c : Int} {i : Nat} (h : TS M B n (i + 2)) (hL : LB M V l) (hT : TBw M V 4) (hP : POK V) (h7 : V 0 8 < 8) (c0 : 0 ≤ c) (c1 : c < 48) : LnO M B n l (0, 0, i + 3, setV (setV V 9 c 1) 0 8 (V 0 8 + 1)) (t_MO_stairLine_L53 M c) := by
  have hq := hP.2.2
  unfold t_MO_stairLine_L53
  rw [if_pos h.2.2, w32_id (x := 48 + c) (by unfold InR; omega), qguard_pos ⟨by omega, by omega⟩]
  simp (config := { proj := false }) only [qlet, m_fresher (show (0 : Int) ≤ 5 by omega) (show (5 : Int) < 9 by omega), m_reads (show (0 : Int) ≤ 5 by omega) (show (5 : Int) < 9 by omega), obind_some]
  have e13 : (setI M 199 (48 + c) 1).1 193 (9 + 5) = V 0 8 := by rw [sI_ne (by omega)]; exact hL.1.sc (j := 14) (x := 8) (by omega)
  rw [e13, w32_id (x := V 0 8 + 1) (by unfold InR; omega)]
  have hF : Fr (fun k j => (k = 199 ∧ j = 48 + c) ∨ (k = 193 ∧ j = 14)) M (setI (setI M 199 (48 + c) 1) 193 14 (V 0 8 + 1)) := (Fr.rf.setI (Or.inl ⟨rfl, rfl⟩)).setI (Or.inr ⟨rfl, rfl⟩)
  obtain ⟨N, n1, n2, n3⟩ := (h.fr hF (fun k j a z => by omega)).next
  have n1' : t_MO_token (setI (setI M 199 (48 + c) 1) 193 (9 + 5) (V 0 8 + 1)) = some N := n1
  rw [n1', obind_some]
  have fin : Fr StW M N := (hF.mono (fun k j z => by unfold StW; omega)).trans (n2.mono NF_StW)
  have e : ∀ k j, LBc k j → N.1 k j = (setI (setI M 199 (48 + c) 1) 193 14 (V 0 8 + 1)).1 k j := fun k j a => (n2 k j (NF_LBc k j a)).1
  have e2 : ∀ k j, LBc k j → ¬ ((k = 199 ∧ j = 48 + c) ∨ (k = 193 ∧ j = 14)) → N.1 k j = M.1 k j := fun k j a b => (e k j a).trans (hF k j b).1
  refine ⟨N, rfl, fin, Or.inl ⟨rfl, n3, ?_, ?_⟩⟩
  · refine hL.upd e2 (fun k j z => by omega) (fun j x hj => ?_) (fun w a b => ?_) (fun t a b => ?_) (fun q a b => ?_) rfl rfl rfl (fun r i hr => ?_)
    · show _ = setV (setV V 9 c 1) 0 8 (V 0 8 + 1) 0 x
      by_cases z : j = 14
      · have hx : x = 8 := by omega
        subst z; subst hx
        rw [e 193 14 (by unfold LBc; omega), sI_self, setV_self]
      · rw [e2 193 j (by unfold LBc; omega) (by omega), setV_ne _ _ (by omega), setV_ne _ _ (by omega)]
        exact hL.1.sc hj
    · rw [e2 194 _ (by unfold LBc; omega) (by omega), e2 195 _ (by unfold LBc; omega) (by omega), e2 196 _ (by unfold LBc; omega) (by omega)]
      exact hL.1.2.1 w a b
    · rw [e2 200 _ (by unfold LBc; omega) (by omega), e2 201 _ (by unfold LBc; omega) (by omega), e2 202 _ (by unfold LBc; omega) (by omega)]
      exact hL.1.2.2.1 t a b
    · have z := hL.1.2.2.2 q a b
      show N.1 197 (48 + q) = setV (setV V 9 c 1) 0 8 (V 0 8 + 1) 7 q + 1 ∧ N.1 198 (48 + q) = setV (setV V 9 c 1) 0 8 (V 0 8 + 1) 8 q ∧ N.1 199 (48 + q) = setV (setV V 9 c 1) 0 8 (V 0 8 + 1) 9 q
      rw [e2 197 _ (by unfold LBc; omega) (by omega), e2 198 _ (by unfold LBc; omega) (by omega)]
      refine ⟨z.1, z.2.1, ?_⟩
      by_cases y : q = c
      · subst y
        rw [e 199 _ (by unfold LBc; omega), sI_ne (by omega), sI_self, setV_ne _ _ (by omega), setV_self]
      · rw [e2 199 _ (by unfold LBc; omega) (by omega), setV_ne _ _ (by omega), setV_ne _ _ (by omega)]
        exact z.2.2
    · show setV (setV V 9 c 1) 0 8 (V 0 8 + 1) r i = V r i
      rw [setV_ne _ _ (by omega), setV_ne _ _ (by omega)]
  · refine hT.done fin ?_ (td_of (kw := 8) (fun k a b => ?_) (by omega) (fun _ => ?_))
    · rw [nf17 n2, sI_ne (by omega), sI_ne (by omega)]
    · show setV (setV V 9 c 1) 0 8 (V 0 8 + 1) 0 k = V 0 k
      rw [setV_ne _ _ (by omega), setV_ne _ _ (by omega)]
    · show decide (0 < setV (setV V 9 c 1) 0 8 (V 0 8 + 1) 0 8) = true
      rw [setV_self]; exact decide_eq_true (by omega)
theorem LnO.from {M N : Mem} {l : Int} {r : LR} {x : Option Mem} (hF : Fr StW M N) (h : LnO N B n l r x) : LnO M B n l r x := by
  obtain ⟨O, o1, o2, o3⟩ := h
  exact ⟨O, o1, hF.trans o2, o3⟩
theorem TBw.nf {M N : Mem} {V : TV} {w : Int} (h : TBw M V w) (hF : Fr NF M N) : TBw N V w := fun x hx => by rw [nf17 hF]; exact h x hx
theorem m_lnWall {M : Mem} {V : TV} {l : Int} {i : Nat} (h : TS M B n (i + 1)) (hL : LB M V l) (hT : TBw M V 3) (hP : POK V) (h7 : V 0 7 < 12) : LnO M B n l (lnWall B n V i) (t_MO_wallLine M) := by
  have hC := hP.1.cells
  unfold lnWall t_MO_wallLine
  rcases m_cellAtHand h hL hP with ⟨a0, a1, a2, N, n1, n2, n3⟩ | ⟨f, p, N, c, n1, n2, n3, n4⟩
  · rw [n1, obind_some]
    unfold clS
    rw [if_neg (fun q => q a0), if_neg (fun q => q a1)]
    generalize tW B n (i + 1 + 1) * V 0 0 + tW B n (i + 1) = c at *
    have hLN := hL.nf n2
    have hc := hP.1.2.2.2 c a2.1 (by omega)
    have z := hLN.1.2.2.2 c a2.1 (by omega)
    have f0 := n2.mono NF_StW
    show LnO M B n l _ (if N.1 191 24 = 0 then qguard (0 ≤ w32 (48 + c) ∧ w32 (48 + c) < 96) (if N.1 198 (w32 (48 + c)) = 0 then t_MO_wallLine_L29 N c else qlet (t_MO_wrong N 3) fun q8 => t_MO_wallLine_L29 q8 c) else t_MO_wallLine_L29 N c)
    rw [if_pos n3.2.2, w32_id (x := 48 + c) (by unfold InR; omega), qguard_pos ⟨by omega, by omega⟩, z.2.1]
    unfold t_MO_wallLine_L29 t_MO_wallLine_L56
    simp (config := { proj := false }) only [qlet]
    rw [w32_id (x := 48 + c) (by unfold InR; omega)]
    by_cases e8 : V 8 c = 0
    · rw [if_pos e8, if_neg (fun q => q e8), if_pos n3.2.2, qguard_pos ⟨by omega, by omega⟩, z.2.2, m_hasThing hLN hP, obind_some]
      obtain ⟨w1, w2⟩ := n3.wrong (k := 5) (by decide)
      have bad : LnO M B n l (5, tP B n (i + 2), 0, V) (t_MO_wallLine_L61 (t_MO_wrong N 5) c) := by
        unfold t_MO_wallLine_L61
        rw [if_neg w2.nz]
        exact LnO.bad (f0.trans (w1.mono NF_StW)) w2
      by_cases e9 : V 9 c = 0
      · rw [if_pos e9]
        by_cases et : fnd (fun a => V 6 (a : Int)) c (V 0 3).toNat = none
        · rw [if_pos et, if_pos rfl, if_neg (fun q => q.elim (fun y => y e9) (fun y => y et))]
          exact LnO.from f0 (m_wall_L61 n3 hLN (hT.nf n2) hP h7 a2.1 (by omega))
        · rw [if_neg et, if_neg (show ¬ (1 : Int) = 0 by decide), if_pos (show ¬ V 9 c = 0 ∨ fnd (fun a => V 6 (a : Int)) c (V 0 3).toNat ≠ none from Or.inr et)]
          exact bad
      · rw [if_neg e9, if_pos (Or.inl e9)]
        exact bad
    · obtain ⟨w1, w2⟩ := n3.wrong (k := 3) (by decide)
      rw [if_neg e8, if_pos e8, if_neg w2.nz]
      unfold t_MO_wallLine_L61
      rw [if_neg w2.nz]
      exact LnO.bad (f0.trans (w1.mono NF_StW)) w2
  · rw [n1, obind_some, n4]
    show LnO M B n l _ (if N.1 191 24 = 0 then _ else t_MO_wallLine_L29 N c)
    unfold t_MO_wallLine_L29 t_MO_wallLine_L61
    rw [if_neg n3.nz, if_neg n3.nz, if_neg n3.nz]
    exact LnO.bad (n2.mono NF_StW) n3
theorem m_lnStair {M : Mem} {V : TV} {l : Int} {i : Nat} (h : TS M B n (i + 1)) (hL : LB M V l) (hT : TBw M V 4) (hP : POK V) (h7 : V 0 8 < 8) : LnO M B n l (lnStair B n V i) (t_MO_stairLine M) := by
  have hC := hP.1.cells
  unfold lnStair t_MO_stairLine
  rcases m_cellAtHand h hL hP with ⟨a0, a1, a2, N, n1, n2, n3⟩ | ⟨f, p, N, c, n1, n2, n3, n4⟩
  · rw [n1, obind_some]
    unfold clS
    rw [if_neg (fun q => q a0), if_neg (fun q => q a1)]
    generalize tW B n (i + 1 + 1) * V 0 0 + tW B n (i + 1) = c at *
    have hLN := hL.nf n2
    have z := hLN.1.2.2.2 c a2.1 (by omega)
    have f0 := n2.mono NF_StW
    show LnO M B n l _ (if N.1 191 24 = 0 then qguard (0 ≤ w32 (48 + c) ∧ w32 (48 + c) < 96) (if N.1 199 (w32 (48 + c)) = 0 then t_MO_stairLine_L29 N c else qlet (t_MO_wrong N 3) fun q8 => t_MO_stairLine_L29 q8 c) else t_MO_stairLine_L29 N c)
    rw [if_pos n3.2.2, w32_id (x := 48 + c) (by unfold InR; omega), qguard_pos ⟨by omega, by omega⟩, z.2.2]
    unfold t_MO_stairLine_L29
    simp (config := { proj := false }) only [qlet]
    rw [w32_id (x := 48 + c) (by unfold InR; omega)]
    by_cases e8 : V 9 c = 0
    · rw [if_pos e8, if_neg (fun q => q e8), if_pos n3.2.2, qguard_pos ⟨by omega, by omega⟩, z.2.1]
      by_cases e9 : V 8 c = 0
      · rw [if_pos e9, if_neg (fun q => q e9)]
        exact LnO.from f0 (m_stair_L53 n3 hLN (hT.nf n2) hP h7 a2.1 (by omega))
      · obtain ⟨w1, w2⟩ := n3.wrong (k := 5) (by decide)
        rw [if_neg e9, if_pos e9]
        unfold t_MO_stairLine_L53
        rw [if_neg w2.nz]
        exact LnO.bad (f0.trans (w1.mono NF_StW)) w2
    · obtain ⟨w1, w2⟩ := n3.wrong (k := 3) (by decide)
      rw [if_neg e8, if_pos e8, if_neg w2.nz]
      unfold t_MO_stairLine_L53
      rw [if_neg w2.nz]
      exact LnO.bad (f0.trans (w1.mono NF_StW)) w2
  · rw [n1, obind_some, n4]
    show LnO M B n l _ (if N.1 191 24 = 0 then _ else t_MO_stairLine_L29 N c)
    unfold t_MO_stairLine_L29 t_MO_stairLine_L53
    rw [if_neg n3.nz, if_neg n3.nz, if_neg n3.nz]
    exact LnO.bad (n2.mono NF_StW) n3
end LC
end
section
/-! ===== lines: things, seed, parts, laws ===== -/
section LT
variable {B : Int → Int} {n : Int}
/-- one more thing: the last of what is written -/
theorem m_thing_L72 {M0 M : Mem} {V : TV} {l c nm wo : Int} {i : Nat} (h : TS M B n (i + 4)) (hL : LB M0 V l) (hT : TBw M0 V 5) (hP : POK V) (h3 : V 0 3 < 8) (c0 : 0 ≤ c) (c1 : c < 48) (hF0 : Fr (fun k j => NF k j ∨ ((k = 200 ∨ k = 201) ∧ j = 8 + V 0 3)) M0 M) (hnm : M.1 200 (8 + V 0 3) = nm) (hwo : M.1 201 (8 + V 0 3) = wo) :
    LnO M0 B n l (0, 0, i + 5, setV (setV (setV (setV V 4 (V 0 3) nm) 5 (V 0 3) wo) 6 (V 0 3) c) 0 3 (V 0 3 + 1)) (t_MO_thingLine_L72 (8 + V 0 3) M c) := by
  have hv := hP.1.1
  unfold t_MO_thingLine_L72
  rw [if_pos h.2.2, qguard_pos ⟨by omega, by omega⟩]
  simp (config := { proj := false }) only [qlet, m_fresher (show (0 : Int) ≤ 6 by omega) (show (6 : Int) < 9 by omega), m_reads (show (0 : Int) ≤ 6 by omega) (show (6 : Int) < 9 by omega), obind_some]
  have e15 : (setI M 202 (8 + V 0 3) c).1 193 (9 + 6) = V 0 3 := by rw [sI_ne (by omega), (hF0 193 (9 + 6) (by unfold NF; omega)).1]; exact hL.1.sc (j := 15) (x := 3) (by omega)
  rw [e15, w32_id (x := V 0 3 + 1) (by unfold InR; omega)]
  have hF : Fr (fun k j => (k = 202 ∧ j = 8 + V 0 3) ∨ (k = 193 ∧ j = 15)) M (setI (setI M 202 (8 + V 0 3) c) 193 15 (V 0 3 + 1)) := (Fr.rf.setI (Or.inl ⟨rfl, rfl⟩)).setI (Or.inr ⟨rfl, rfl⟩)
  obtain ⟨N, n1, n2, n3⟩ := (h.fr hF (fun k j a z => by omega)).next
  have n1' : t_MO_token (setI (setI M 202 (8 + V 0 3) c) 193 (9 + 6) (V 0 3 + 1)) = some N := n1
  rw [n1', obind_some]
  have fin : Fr StW M0 N := ((hF0.mono (fun k j z => z.elim (NF_StW k j) (fun y => by unfold StW; omega))).trans (hF.mono (fun k j z => by unfold StW; omega))).trans (n2.mono NF_StW)
  have e : ∀ k j, LBc k j → N.1 k j = (setI (setI M 202 (8 + V 0 3) c) 193 15 (V 0 3 + 1)).1 k j := fun k j a => (n2 k j (NF_LBc k j a)).1
  have e2 : ∀ k j, LBc k j → ¬ (((k = 200 ∨ k = 201 ∨ k = 202) ∧ j = 8 + V 0 3) ∨ (k = 193 ∧ j = 15)) → N.1 k j = M0.1 k j := fun k j a b => ((e k j a).trans (hF k j (by omega)).1).trans (hF0 k j (fun z => z.elim (NF_LBc k j a) (fun y => b (by omega)))).1
  refine ⟨N, rfl, fin, Or.inl ⟨rfl, n3, ?_, ?_⟩⟩
  · refine hL.upd e2 (fun k j z => by omega) (fun j x hj => ?_) (fun w a b => ?_) (fun t a b => ?_) (fun q a b => ?_) rfl rfl rfl (fun r i hr => ?_)
    · show _ = setV (setV (setV (setV V 4 (V 0 3) nm) 5 (V 0 3) wo) 6 (V 0 3) c) 0 3 (V 0 3 + 1) 0 x
      by_cases z : j = 15
      · have hx : x = 3 := by omega
        subst z; subst hx
        rw [e 193 15 (by unfold LBc; omega), sI_self, setV_self]
      · rw [e2 193 j (by unfold LBc; omega) (by omega), setV_ne _ _ (by omega), setV_ne _ _ (by omega), setV_ne _ _ (by omega), setV_ne _ _ (by omega)]
        exact hL.1.sc hj
    · rw [e2 194 _ (by unfold LBc; omega) (by omega), e2 195 _ (by unfold LBc; omega) (by omega), e2 196 _ (by unfold LBc; omega) (by omega)]
      exact hL.1.2.1 w a b
    · have b' : t < V 0 3 + 1 := by
        have b : t < setV (setV (setV (setV V 4 (V 0 3) nm) 5 (V 0 3) wo) 6 (V 0 3) c) 0 3 (V 0 3 + 1) 0 3 := b
        rw [setV_self] at b; exact b
      show N.1 200 (8 + t) = setV (setV (setV (setV V 4 (V 0 3) nm) 5 (V 0 3) wo) 6 (V 0 3) c) 0 3 (V 0 3 + 1) 4 t ∧ N.1 201 (8 + t) = setV (setV (setV (setV V 4 (V 0 3) nm) 5 (V 0 3) wo) 6 (V 0 3) c) 0 3 (V 0 3 + 1) 5 t ∧ N.1 202 (8 + t) = setV (setV (setV (setV V 4 (V 0 3) nm) 5 (V 0 3) wo) 6 (V 0 3) c) 0 3 (V 0 3 + 1) 6 t
      by_cases q : t = V 0 3
      · subst q
        refine ⟨?_, ?_, ?_⟩
        · rw [setV_ne _ _ (by omega), setV_ne _ _ (by omega), setV_ne _ _ (by omega), setV_self, e 200 _ (by unfold LBc; omega), sI_ne (by omega), sI_ne (by omega), hnm]
        · rw [setV_ne _ _ (by omega), setV_ne _ _ (by omega), setV_self, e 201 _ (by unfold LBc; omega), sI_ne (by omega), sI_ne (by omega), hwo]
        · rw [setV_ne _ _ (by omega), setV_self, e 202 _ (by unfold LBc; omega), sI_ne (by omega), sI_self]
      · have z := hL.1.2.2.1 t a (by omega)
        refine ⟨?_, ?_, ?_⟩
        · rw [e2 200 _ (by unfold LBc; omega) (by omega), setV_ne _ _ (by omega), setV_ne _ _ (by omega), setV_ne _ _ (by omega), setV_ne _ _ (by omega)]; exact z.1
        · rw [e2 201 _ (by unfold LBc; omega) (by omega), setV_ne _ _ (by omega), setV_ne _ _ (by omega), setV_ne _ _ (by omega), setV_ne _ _ (by omega)]; exact z.2.1
        · rw [e2 202 _ (by unfold LBc; omega) (by omega), setV_ne _ _ (by omega), setV_ne _ _ (by omega), setV_ne _ _ (by omega), setV_ne _ _ (by omega)]; exact z.2.2
    · rw [e2 197 _ (by unfold LBc; omega) (by omega), e2 198 _ (by unfold LBc; omega) (by omega), e2 199 _ (by unfold LBc; omega) (by omega)]
      exact hL.1.2.2.2 q a b
    · show setV (setV (setV (setV V 4 (V 0 3) nm) 5 (V 0 3) wo) 6 (V 0 3) c) 0 3 (V 0 3 + 1) r i = V r i
      rw [setV_ne _ _ (by omega), setV_ne _ _ (by omega), setV_ne _ _ (by omega), setV_ne _ _ (by omega)]
  · refine hT.done fin ?_ (td_of (kw := 3) (fun k a b => ?_) (by omega) (fun _ => ?_))
    · rw [nf17 n2, sI_ne (by omega), sI_ne (by omega), (hF0 191 17 (by unfold NF; omega)).1]
    · show setV (setV (setV (setV V 4 (V 0 3) nm) 5 (V 0 3) wo) 6 (V 0 3) c) 0 3 (V 0 3 + 1) 0 k = V 0 k
      rw [setV_ne _ _ (by omega), setV_ne _ _ (by omega), setV_ne _ _ (by omega), setV_ne _ _ (by omega)]
    · show decide (0 < setV (setV (setV (setV V 4 (V 0 3) nm) 5 (V 0 3) wo) 6 (V 0 3) c) 0 3 (V 0 3 + 1) 0 3) = true
      rw [setV_self]; exact decide_eq_true (by omega)
theorem m_lnThing {M : Mem} {V : TV} {l : Int} {i : Nat} (h : TS M B n (i + 1)) (hL : LB M V l) (hT : TBw M V 5) (hP : POK V) (h3 : V 0 3 < 8) : LnO M B n l (lnThing B n V i) (t_MO_thingLine M (w32 (8 + V 0 3))) := by
  have hv := hP.1.1
  have hC := hP.1.cells
  have e15 : M.1 193 (9 + 6) = V 0 3 := hL.1.sc (j := 15) (x := 3) (by omega)
  have gd : 0 ≤ 8 + V 0 3 ∧ 8 + V 0 3 < 16 := by omega
  unfold lnThing t_MO_thingLine
  rw [w32_id (x := 8 + V 0 3) (by unfold InR; omega), m_fresher (by omega) (by omega), obind_some, e15]
  simp (config := { proj := false }) only [qguard_pos gd, qlet]
  -- nothing more once a fault stands
  have dead : ∀ (N : Mem) (f p : Int), FS N f p → Fr StW M N → LnO M B n l (f, p, 0, V) (obind (t_MO_cellAtHand N) fun q11 => if (q11.1).1 191 24 = 0 then qguard (0 ≤ (w32 (48 + (q11.2))) ∧ (w32 (48 + (q11.2))) < 96) (if (q11.1).1 198 (w32 (48 + (q11.2))) = 0 then (obind (t_MO_hasThing (q11.1) (q11.2)) fun q18 => (if q18 = 0 then (t_MO_thingLine_L72 (8 + V 0 3) (q11.1) (q11.2)) else (t_MO_thingLine_L67 (8 + V 0 3) (q11.1) (q11.2)))) else (t_MO_thingLine_L67 (8 + V 0 3) (q11.1) (q11.2))) else (t_MO_thingLine_L72 (8 + V 0 3) (q11.1) (q11.2))) := by
    intro N f p hN hF
    unfold t_MO_cellAtHand
    simp (config := { proj := false }) only [m_fresher (show (0 : Int) ≤ 0 by omega) (show (0 : Int) < 9 by omega), m_fresher (show (0 : Int) ≤ 1 by omega) (show (1 : Int) < 9 by omega), obind_some, qlet]
    rw [flt_numeral hN.nz, obind_some, flt_numAt hN.nz, obind_some]
    show LnO M B n l _ (if N.1 191 24 = 0 then _ else _)
    rw [if_neg hN.nz]
    unfold t_MO_thingLine_L72
    rw [if_neg (show ¬ N.1 191 24 = 0 from hN.nz)]
    exact LnO.bad hF hN
  rcases m_fresh (V := V) (row := 4) (r := 200) (N1 := 16) (off := 8) (len := V 0 3) h (by omega) (by omega) (by omega) (by omega) (fun w a b => (hL.1.2.2.1 w a b).1) with ⟨a0, N1, n1, n2, n3⟩ | ⟨N1, n1, n2, n3⟩
  · rw [if_neg (fun q => q a0), n1, obind_some]
    have hFa : Fr (fun k j => k = 200 ∧ j = 8 + V 0 3) N1 (setI N1 200 (8 + V 0 3) (tW B n (i + 1))) := Fr.rf.setI ⟨rfl, rfl⟩
    have t1 : TS (setI N1 200 (8 + V 0 3) (tW B n (i + 1))) B n (i + 2) := n3.fr hFa (fun k j a z => by omega)
    have f1 : Fr StW M (setI N1 200 (8 + V 0 3) (tW B n (i + 1))) := (n2.mono NF_StW).trans (hFa.mono (fun k j z => by unfold StW; omega))
    show LnO M B n l _ (obind (t_MO_numeral (setI N1 200 (8 + V 0 3) (tW B n (i + 1))) 0 99) _)
    rcases m_numeral t1 (lo := 0) (hi := 99) (by omega) (by omega) (by omega) with ⟨b0, b1, N2, p1, p2, p3⟩ | ⟨N2, p1, p2, p3⟩
    · rw [if_neg (fun q => q b0), p1, obind_some]
      have hFb : Fr (fun k j => k = 201 ∧ j = 8 + V 0 3) N2 (setI N2 201 (8 + V 0 3) (tW B n (i + 2))) := Fr.rf.setI ⟨rfl, rfl⟩
      have t2 : TS (setI N2 201 (8 + V 0 3) (tW B n (i + 2))) B n (i + 3) := p3.fr hFb (fun k j a z => by omega)
      have g2 : Fr (fun k j => NF k j ∨ ((k = 200 ∨ k = 201) ∧ j = 8 + V 0 3)) M (setI N2 201 (8 + V 0 3) (tW B n (i + 2))) := (((n2.mono (fun k j z => Or.inl z)).trans (hFa.mono (fun k j z => Or.inr (by omega)))).trans (p2.mono (fun k j z => Or.inl z))).trans (hFb.mono (fun k j z => Or.inr (by omega)))
      have f2 : Fr StW M (setI N2 201 (8 + V 0 3) (tW B n (i + 2))) := g2.mono (fun k j z => z.elim (NF_StW k j) (fun y => by unfold StW; omega))
      have hL2 : LB (setI N2 201 (8 + V 0 3) (tW B n (i + 2))) V l := by
        have e2 : ∀ k j, LBc k j → ¬ ((k = 200 ∨ k = 201) ∧ j = 8 + V 0 3) → (setI N2 201 (8 + V 0 3) (tW B n (i + 2))).1 k j = M.1 k j := fun k j a b => (g2 k j (fun z => z.elim (NF_LBc k j a) b)).1
        refine hL.upd e2 (fun k j z => by omega) (fun j x hj => ?_) (fun w a b => ?_) (fun t a b => ?_) (fun q a b => ?_) rfl rfl rfl (fun r i hr => rfl)
        · rw [e2 193 j (by unfold LBc; omega) (by omega)]; exact hL.1.sc hj
        · rw [e2 194 _ (by unfold LBc; omega) (by omega), e2 195 _ (by unfold LBc; omega) (by omega), e2 196 _ (by unfold LBc; omega) (by omega)]; exact hL.1.2.1 w a b
        · rw [e2 200 _ (by unfold LBc; omega) (by omega), e2 201 _ (by unfold LBc; omega) (by omega), e2 202 _ (by unfold LBc; omega) (by omega)]; exact hL.1.2.2.1 t a b
        · rw [e2 197 _ (by unfold LBc; omega) (by omega), e2 198 _ (by unfold LBc; omega) (by omega), e2 199 _ (by unfold LBc; omega) (by omega)]; exact hL.1.2.2.2 q a b
      have nmv : (setI N2 201 (8 + V 0 3) (tW B n (i + 2))).1 200 (8 + V 0 3) = tW B n (i + 1) := by rw [sI_ne (by omega), (p2 200 _ (by unfold NF; omega)).1, sI_self]
      have wov : (setI N2 201 (8 + V 0 3) (tW B n (i + 2))).1 201 (8 + V 0 3) = tW B n (i + 2) := sI_self _ _ _ _
      show LnO M B n l _ (obind (t_MO_cellAtHand (setI N2 201 (8 + V 0 3) (tW B n (i + 2)))) _)
      generalize setI N2 201 (8 + V 0 3) (tW B n (i + 2)) = M2 at *
      rcases m_cellAtHand t2 hL2 hP with ⟨c0, c1, c2, N, o1, o2, o3⟩ | ⟨f, p, N, c, o1, o2, o3, o4⟩
      · rw [o1, obind_some]
        unfold clS
        rw [if_neg (fun q => q c0), if_neg (fun q => q c1)]
        generalize tW B n (i + 3 + 1) * V 0 0 + tW B n (i + 3) = c at *
        have hLN := hL2.nf o2
        have z := hLN.1.2.2.2 c c2.1 (by omega)
        have f3 := f2.trans (o2.mono NF_StW)
        show LnO M B n l (if ¬ V 8 c = 0 ∨ fnd (fun a => V 6 (a : Int)) c (V 0 3).toNat ≠ none then (5, tP B n (i + 4), 0, V) else (0, 0, i + 5, setV (setV (setV (setV V 4 (V 0 3) (tW B n (i + 1))) 5 (V 0 3) (tW B n (i + 2))) 6 (V 0 3) c) 0 3 (V 0 3 + 1))) (if N.1 191 24 = 0 then qguard (0 ≤ (w32 (48 + c)) ∧ (w32 (48 + c)) < 96) (if N.1 198 (w32 (48 + c)) = 0 then (obind (t_MO_hasThing N c) fun q18 => (if q18 = 0 then (t_MO_thingLine_L72 (8 + V 0 3) N c) else (t_MO_thingLine_L67 (8 + V 0 3) N c))) else (t_MO_thingLine_L67 (8 + V 0 3) N c)) else (t_MO_thingLine_L72 (8 + V 0 3) N c))
        rw [if_pos o3.2.2, w32_id (x := 48 + c) (by unfold InR; omega), qguard_pos ⟨by omega, by omega⟩, z.2.1, m_hasThing hLN hP, obind_some]
        obtain ⟨w1, w2⟩ := o3.wrong (k := 5) (by decide)
        have bad : LnO M B n l (5, tP B n (i + 4), 0, V) (t_MO_thingLine_L67 (8 + V 0 3) N c) := by
          unfold t_MO_thingLine_L67 t_MO_thingLine_L72
          simp (config := { proj := false }) only [qlet]
          rw [if_neg w2.nz]
          exact LnO.bad (f3.trans (w1.mono NF_StW)) w2
        by_cases e8 : V 8 c = 0
        · rw [if_pos e8]
          by_cases et : fnd (fun a => V 6 (a : Int)) c (V 0 3).toNat = none
          · rw [if_pos et, if_pos rfl, if_neg (fun q => q.elim (fun y => y e8) (fun y => y et))]
            exact m_thing_L72 o3 hL hT hP h3 c2.1 (by omega) (g2.trans (o2.mono (fun k j z => Or.inl z))) (by rw [(o2 200 _ (by unfold NF; omega)).1]; exact nmv) (by rw [(o2 201 _ (by unfold NF; omega)).1]; exact wov)
          · rw [if_neg et, if_neg (show ¬ (1 : Int) = 0 by decide), if_pos (show ¬ V 8 c = 0 ∨ fnd (fun a => V 6 (a : Int)) c (V 0 3).toNat ≠ none from Or.inr et)]
            exact bad
        · rw [if_neg e8, if_pos (show ¬ V 8 c = 0 ∨ fnd (fun a => V 6 (a : Int)) c (V 0 3).toNat ≠ none from Or.inl e8)]
          exact bad
      · rw [o1, obind_some, o4]
        show LnO M B n l _ (if N.1 191 24 = 0 then _ else t_MO_thingLine_L72 (8 + V 0 3) N c)
        unfold t_MO_thingLine_L72
        rw [if_neg o3.nz, if_neg o3.nz]
        exact LnO.bad (f2.trans (o2.mono NF_StW)) o3
    · rw [if_pos p3.1, p1, obind_some]
      have hFb : Fr (fun k j => k = 201 ∧ j = 8 + V 0 3) N2 (setI N2 201 (8 + V 0 3) 0) := Fr.rf.setI ⟨rfl, rfl⟩
      exact dead _ _ _ (p3.fr hFb (fun k j a b c z => by omega)) ((f1.trans (p2.mono NF_StW)).trans (hFb.mono (fun k j z => by unfold StW; omega)))
  · rw [if_pos n3.1, n1, obind_some]
    have hFa : Fr (fun k j => k = 200 ∧ j = 8 + V 0 3) N1 (setI N1 200 (8 + V 0 3) 0) := Fr.rf.setI ⟨rfl, rfl⟩
    have g := n3.fr hFa (fun k j a b c z => by omega)
    show LnO M B n l _ (obind (t_MO_numeral (setI N1 200 (8 + V 0 3) 0) 0 99) _)
    rw [flt_numeral g.nz, obind_some]
    have hFb : Fr (fun k j => k = 201 ∧ j = 8 + V 0 3) (setI N1 200 (8 + V 0 3) 0) (setI (setI N1 200 (8 + V 0 3) 0) 201 (8 + V 0 3) 0) := Fr.rf.setI ⟨rfl, rfl⟩
    exact dead _ _ _ (g.fr hFb (fun k j a b c z => by omega)) (((n2.mono NF_StW).trans (hFa.mono (fun k j z => by unfold StW; omega))).trans (hFb.mono (fun k j z => by unfold StW; omega)))
/-- seed, with what comes behind -/
theorem m_lnSeed {M : Mem} {V : TV} {l : Int} {i : Nat} (h : TS M B n (i + 1)) (hL : LB M V l) (hT : TBw M V 6) (hP : POK V) : ∃ N, (∀ k : Mem → Option Mem, (obind (t_MO_numeral M 0 99999) fun q68 => (obind (t_MO_reads (q68.1) 7 (q68.2)) fun q70 => (k q70))) = k N) ∧ LnO M B n l (lnSeed B n V i) (some N) := by
  unfold lnSeed
  rcases m_numeral h (lo := 0) (hi := 99999) (by omega) (by omega) (by omega) with ⟨a0, a1, N1, n1, n2, n3⟩ | ⟨N1, n1, n2, n3⟩
  · rw [if_neg (fun q => q a0)]
    have hFa : Fr (fun k j => k = 193 ∧ j = 16) N1 (setI N1 193 16 (tW B n (i + 1))) := Fr.rf.setI ⟨rfl, rfl⟩
    have fin : Fr StW M (setI N1 193 16 (tW B n (i + 1))) := (n2.mono NF_StW).trans (hFa.mono (fun k j z => by unfold StW; omega))
    have e2 : ∀ k j, LBc k j → ¬ (k = 193 ∧ j = 16) → (setI N1 193 16 (tW B n (i + 1))).1 k j = M.1 k j := fun k j a b => by rw [sI_ne b, (n2 k j (NF_LBc k j a)).1]
    refine ⟨setI N1 193 16 (tW B n (i + 1)), fun k => ?_, _, rfl, fin, Or.inl ⟨rfl, n3.fr hFa (fun k j a z => by omega), ?_, ?_⟩⟩
    · rw [n1, obind_some, m_reads (by omega) (by omega), obind_some]
      rfl
    · refine hL.upd e2 (fun k j z => by omega) (fun j x hj => ?_) (fun w a b => ?_) (fun t a b => ?_) (fun q a b => ?_) rfl rfl rfl (fun r i hr => ?_)
      · show _ = setV (setV V 0 5 (tW B n (i + 1))) 0 14 1 0 x
        by_cases z : j = 16
        · have hx : x = 5 := by omega
          subst z; subst hx
          rw [sI_self, setV_ne _ _ (by omega), setV_self]
        · rw [e2 193 j (by unfold LBc; omega) (by omega), setV_ne _ _ (by omega), setV_ne _ _ (by omega)]
          exact hL.1.sc hj
      · rw [e2 194 _ (by unfold LBc; omega) (by omega), e2 195 _ (by unfold LBc; omega) (by omega), e2 196 _ (by unfold LBc; omega) (by omega)]
        exact hL.1.2.1 w a b
      · rw [e2 200 _ (by unfold LBc; omega) (by omega), e2 201 _ (by unfold LBc; omega) (by omega), e2 202 _ (by unfold LBc; omega) (by omega)]
        exact hL.1.2.2.1 t a b
      · rw [e2 197 _ (by unfold LBc; omega) (by omega), e2 198 _ (by unfold LBc; omega) (by omega), e2 199 _ (by unfold LBc; omega) (by omega)]
        exact hL.1.2.2.2 q a b
      · show setV (setV V 0 5 (tW B n (_ + 1))) 0 14 1 r i = V r i
        rw [setV_ne _ _ (by omega), setV_ne _ _ (by omega)]
    · refine hT.done fin ?_ (td_of (kw := 14) (fun k a b => ?_) (by omega) (fun _ => ?_))
      · rw [sI_ne (by omega), nf17 n2]
      · show setV (setV V 0 5 (tW B n (i + 1))) 0 14 1 0 k = V 0 k
        rw [setV_ne _ _ (by omega), setV_ne _ _ (by omega)]
      · show decide (setV (setV V 0 5 (tW B n (i + 1))) 0 14 1 0 14 = 1) = true
        exact decide_eq_true (setV_self _ _ _ _)
  · rw [if_pos n3.1]
    refine ⟨setI N1 193 16 0, fun k => ?_, LnO.bad ((n2.mono NF_StW).setI (by unfold StW; omega)) ⟨n3.1, by rw [sI_ne (by omega)]; exact n3.2.1, by rw [sI_ne (by omega)]; exact n3.2.2⟩⟩
    rw [n1, obind_some, m_reads (by omega) (by omega), obind_some]
    rfl
end LT
end
section
/-! ===== lines: parts, laws ===== -/
abbrev pnt (w x x2 y j i c : Int) : Prop := (y ≤ c / w ∧ c / w < j ∧ x ≤ c % w ∧ c % w ≤ x2) ∨ (c / w = j ∧ x ≤ c % w ∧ c % w < i)
theorem pnt_step {w x x2 y j i c : Int} (w0 : 1 ≤ w) (w1 : w ≤ 8) (x0 : 0 ≤ x) (xi : x ≤ i) (i2 : i ≤ x2) (x2w : x2 < w) (y0 : 0 ≤ y) (yj : y ≤ j) (c0 : 0 ≤ c) : pnt w x x2 y j (i + 1) c ↔ (pnt w x x2 y j i c ∨ c = j * w + i) := by
  have hw : w = 1 ∨ w = 2 ∨ w = 3 ∨ w = 4 ∨ w = 5 ∨ w = 6 ∨ w = 7 ∨ w = 8 := by omega
  rcases hw with rfl | rfl | rfl | rfl | rfl | rfl | rfl | rfl <;> omega
theorem pnt_row {w x x2 y j c : Int} (w0 : 1 ≤ w) (w1 : w ≤ 8) (x0 : 0 ≤ x) (xx : x ≤ x2) (y0 : 0 ≤ y) (yj : y ≤ j) (c0 : 0 ≤ c) : pnt w x x2 y j (x2 + 1) c ↔ pnt w x x2 y (j + 1) x c := by
  have hw : w = 1 ∨ w = 2 ∨ w = 3 ∨ w = 4 ∨ w = 5 ∨ w = 6 ∨ w = 7 ∨ w = 8 := by omega
  rcases hw with rfl | rfl | rfl | rfl | rfl | rfl | rfl | rfl <;> omega
theorem pnt_idx {w g x j : Int} (w0 : 1 ≤ w) (w1 : w ≤ 8) (g1 : g ≤ 6) (x0 : 0 ≤ x) (xw : x < w) (j0 : 0 ≤ j) (jg : j < g) : 0 ≤ j * w ∧ j * w ≤ 48 ∧ 0 ≤ j * w + x ∧ j * w + x < 48 := by
  have hw : w = 1 ∨ w = 2 ∨ w = 3 ∨ w = 4 ∨ w = 5 ∨ w = 6 ∨ w = 7 ∨ w = 8 := by omega
  rcases hw with rfl | rfl | rfl | rfl | rfl | rfl | rfl | rfl <;> omega
section LP
variable {B : Int → Int} {n : Int}
def PtW : Nat → Int → Prop := fun k j => k = 197 ∧ 48 ≤ j ∧ j < 96
theorem m_part_L147 {M0 : Mem} {V : TV} {l wd x x2 y y2 : Int} {bk : Mem → Int → Int → Int → Int → Int → Option Mem} (hL : LB M0 V l) (hP : POK V) (x0 : 0 ≤ x) (xx : x ≤ x2) (x2w : x2 ≤ V 0 0 - 1) (y0 : 0 ≤ y) (hwd : 0 ≤ wd ∧ wd < 4) {j : Int} (yj : y ≤ j) (jg : j < V 0 1) : ∀ (m : Nat) (fu : Nat) (M : Mem) (i : Int), i + (m : Int) = x2 + 1 → x ≤ i → m < fu → Fr PtW M0 M → (∀ c, 0 ≤ c → c < 48 → M.1 197 (48 + c) = if pnt (V 0 0) x x2 y j i c then wd + 1 else M0.1 197 (48 + c)) →
    ∃ N, t_MO_partLine_L147 bk fu M wd x x2 y2 j i = bk N wd x x2 y2 (j + 1) ∧ Fr PtW M0 N ∧ ∀ c, 0 ≤ c → c < 48 → N.1 197 (48 + c) = if pnt (V 0 0) x x2 y (j + 1) x c then wd + 1 else M0.1 197 (48 + c) := by
  have hv := hP.1.1
  intro m
  induction m with
  | zero =>
    intro fu M i g0 g1 g2 hF hc
    obtain ⟨g, rfl⟩ : ∃ g, fu = g + 1 := ⟨fu - 1, by omega⟩
    rw [t_MO_partLine_L147, if_pos (by omega), w32_id (x := j + 1) (by unfold InR; omega)]
    refine ⟨M, rfl, hF, fun c a b => ?_⟩
    rw [hc c a b, show i = x2 + 1 by omega]
    by_cases q : pnt (V 0 0) x x2 y (j + 1) x c
    · rw [if_pos q, if_pos ((pnt_row (by omega) (by omega) x0 xx y0 yj a).mpr q)]
    · rw [if_neg q, if_neg (fun z => q ((pnt_row (by omega) (by omega) x0 xx y0 yj a).mp z))]
  | succ m ih =>
    intro fu M i g0 g1 g2 hF hc
    obtain ⟨g, rfl⟩ : ∃ g, fu = g + 1 := ⟨fu - 1, by omega⟩
    have ix := pnt_idx (w := V 0 0) (g := V 0 1) (x := i) (j := j) (by omega) (by omega) (by omega) (by omega) (by omega) (by omega) jg
    have e9 : M.1 193 (9 + 0) = V 0 0 := ((hF 193 (9 + 0) (by unfold PtW; omega)).1).trans (hL.1.sc (j := 9) (x := 0) (by omega))
    rw [t_MO_partLine_L147, if_neg (by omega), m_fresher (by omega) (by omega), obind_some, e9, w32_id (x := j * V 0 0) (by unfold InR; omega), w32_id (x := 48 + j * V 0 0) (by unfold InR; omega), w32_id (x := 48 + j * V 0 0 + i) (by unfold InR; omega), qguard_pos ⟨by omega, by omega⟩, w32_id (x := wd + 1) (by unfold InR; omega), w32_id (x := i + 1) (by unfold InR; omega)]
    simp (config := { proj := false }) only [qlet]
    refine ih g _ (i + 1) (by omega) (by omega) (by omega) (hF.setI (by unfold PtW; omega)) (fun c a b => ?_)
    have st := pnt_step (w := V 0 0) (x := x) (x2 := x2) (y := y) (j := j) (i := i) (c := c) (by omega) (by omega) x0 g1 (by omega) (by omega) y0 yj a
    by_cases q : c = j * V 0 0 + i
    · rw [if_pos (st.mpr (Or.inr q)), show 48 + c = 48 + j * V 0 0 + i by omega, sI_self]
    · rw [sI_ne (by omega), hc c a b]
      by_cases z : pnt (V 0 0) x x2 y j i c
      · rw [if_pos z, if_pos (st.mpr (Or.inl z))]
      · rw [if_neg z, if_neg (fun u => (st.mp u).elim z q)]
theorem m_part_L137 {M0 : Mem} {V : TV} {l wd x x2 y y2 : Int} (hL : LB M0 V l) (hP : POK V) (x0 : 0 ≤ x) (xx : x ≤ x2) (x2w : x2 ≤ V 0 0 - 1) (y0 : 0 ≤ y) (yy : y ≤ y2) (y2g : y2 ≤ V 0 1 - 1) (hwd : 0 ≤ wd ∧ wd < 4) (h6 : V 0 6 < 12) : ∀ (m : Nat) (fu : Nat) (M : Mem) (j : Int), j + (m : Int) = y2 + 1 → y ≤ j → m < fu → Fr PtW M0 M → (∀ c, 0 ≤ c → c < 48 → M.1 197 (48 + c) = if pnt (V 0 0) x x2 y j x c then wd + 1 else M0.1 197 (48 + c)) →
    ∃ N, t_MO_partLine_L137 fu M wd x x2 y2 j = some N ∧ Fr (fun k j => PtW k j ∨ (k = 193 ∧ j = 12)) M0 N ∧ N.1 193 12 = V 0 6 + 1 ∧ ∀ c, 0 ≤ c → c < 48 → N.1 197 (48 + c) = if (x ≤ c % V 0 0 ∧ c % V 0 0 ≤ x2 ∧ y ≤ c / V 0 0 ∧ c / V 0 0 ≤ y2) then wd + 1 else M0.1 197 (48 + c) := by
  have hv := hP.1.1
  have hq := hP.2.2
  intro m
  induction m with
  | zero =>
    intro fu M j g0 g1 g2 hF hc
    obtain ⟨g, rfl⟩ : ∃ g, fu = g + 1 := ⟨fu - 1, by omega⟩
    have e9 : M.1 193 (9 + 3) = V 0 6 := ((hF 193 (9 + 3) (by unfold PtW; omega)).1).trans (hL.1.sc (j := 12) (x := 6) (by omega))
    rw [t_MO_partLine_L137, if_pos (by omega), m_fresher (by omega) (by omega), obind_some, m_reads (by omega) (by omega), obind_some, e9, w32_id (x := V 0 6 + 1) (by unfold InR; omega)]
    refine ⟨setI M 193 12 (V 0 6 + 1), rfl, (hF.mono (fun k j z => Or.inl z)).setI (Or.inr ⟨rfl, rfl⟩), sI_self _ _ _ _, fun c a b => ?_⟩
    rw [sI_ne (by omega), hc c a b, show j = y2 + 1 by omega]
    by_cases q : (x ≤ c % V 0 0 ∧ c % V 0 0 ≤ x2 ∧ y ≤ c / V 0 0 ∧ c / V 0 0 ≤ y2)
    · rw [if_pos q, if_pos (Or.inl ⟨q.2.2.1, by omega, q.1, q.2.1⟩)]
    · rw [if_neg q, if_neg (fun z => q (by rcases z with z | z; · exact ⟨z.2.2.1, z.2.2.2, z.1, by omega⟩
                                           · omega))]
  | succ m ih =>
    intro fu M j g0 g1 g2 hF hc
    obtain ⟨g, rfl⟩ : ∃ g, fu = g + 1 := ⟨fu - 1, by omega⟩
    rw [t_MO_partLine_L137, if_neg (by omega)]
    obtain ⟨N, n1, n2, n3⟩ := m_part_L147 (bk := fun a0_ a1_ a2_ a3_ a4_ a5_ => t_MO_partLine_L137 g a0_ a1_ a2_ a3_ a4_ a5_) (y2 := y2) hL hP x0 xx x2w y0 hwd g1 (by omega) (x2 + 1 - x).toNat FU M x (by omega) (Int.le_refl _) (fu_big (by omega)) hF hc
    rw [n1]
    exact ih g N (j + 1) (by omega) (by omega) (by omega) n2 n3
theorem m_lnPart {M : Mem} {V : TV} {l : Int} {i : Nat} (h : TS M B n (i + 1)) (hL : LB M V l) (hT : TBw M V 2) (hP : POK V) (h6 : V 0 6 < 12) : LnO M B n l (lnPart B n V i) (t_MO_partLine M) := by
  have hv := hP.1.1
  have hq := hP.2.2
  have s := srt_name h.2.1 h.kok
  have e11 : ∀ N, Fr NF M N → N.1 193 (9 + 2) = V 0 2 := fun N q => ((q 193 (9 + 2) (by unfold NF; omega)).1).trans (hL.1.sc (j := 11) (x := 2) (by omega))
  have e9 : ∀ N, Fr NF M N → N.1 193 (9 + 0) = V 0 0 := fun N q => ((q 193 (9 + 0) (by unfold NF; omega)).1).trans (hL.1.sc (j := 9) (x := 0) (by omega))
  have e10 : ∀ N, Fr NF M N → N.1 193 (9 + 1) = V 0 1 := fun N q => ((q 193 (9 + 1) (by unfold NF; omega)).1).trans (hL.1.sc (j := 10) (x := 1) (by omega))
  unfold lnPart t_MO_partLine t_MO_partLine_L42
  simp (config := { proj := false }) only [qlet, m_fresher (show (0 : Int) ≤ 2 by omega) (show (2 : Int) < 9 by omega), m_fresher (show (0 : Int) ≤ 0 by omega) (show (0 : Int) < 9 by omega), m_fresher (show (0 : Int) ≤ 1 by omega) (show (1 : Int) < 9 by omega), obind_some]
  by_cases k : tK B n (i + 1) = 30
  · have hvv : M.1 191 23 = tW B n (i + 1) := h.2.1.2.2.2.2.1 k
    have hf := m_found0 (M := M) (r := 194) (N := 8) (x2 := 4) (x4 := tW B n (i + 1)) (len := (V 0 2).toNat) (by omega) (by omega) (by omega)
    rw [Int.toNat_of_nonneg (by omega)] at hf
    have e : fnd (fun b => M.1 194 (4 + (b : Int))) (tW B n (i + 1)) (V 0 2).toNat = fnd (fun a => V 1 (a : Int)) (tW B n (i + 1)) (V 0 2).toNat := by
      have : ∀ m : Nat, m ≤ (V 0 2).toNat → fnd (fun b => M.1 194 (4 + (b : Int))) (tW B n (i + 1)) m = fnd (fun a => V 1 (a : Int)) (tW B n (i + 1)) m := by
        intro m
        induction m with
        | zero => intro _; rfl
        | succ m ih => intro hm; rw [fnd, fnd, ih (by omega), (hL.1.2.1 (m : Int) (by omega) (by omega)).1]
      exact this _ (Nat.le_refl _)
    rw [e] at hf
    rw [if_neg (fun q => q k), if_pos (s.mpr k), e11 M Fr.rf, hvv, hf, obind_some]
    cases ef : fnd (fun a => V 1 (a : Int)) (tW B n (i + 1)) (V 0 2).toNat with
    | none =>
      obtain ⟨w1, w2⟩ := h.wrong (k := 4) (by decide)
      rw [if_pos (show fI none = -1 from rfl), if_neg w2.nz]
      exact LnO.bad (w1.mono NF_StW) w2
    | some wd =>
      have hwd := (fnd_some ef).1
      rw [if_neg (show ¬ fI (some wd) = -1 by show ¬ (wd : Int) = -1; omega), if_pos h.2.2, obind_some]
      have efi : fI (some wd) = (wd : Int) := rfl
      rw [efi]
      obtain ⟨N0, t1, t2, t3⟩ := h.next
      rw [t1, obind_some, e9 N0 t2, w32_id (x := V 0 0 - 1) (by unfold InR; omega)]
      show LnO M B n l (if ¬ nuS B n (i + 2) 0 (V 0 0 - 1) = 0 then _ else _) _
      -- what is left once a fault stands
      rcases m_numeral t3 (lo := 0) (hi := V 0 0 - 1) (by omega) (by omega) (by omega) with ⟨a0, a1, N1, n1, n2, n3⟩ | ⟨N1, n1, n2, n3⟩
      · have f1 := t2.trans n2
        have a1 : 0 ≤ tW B n (i + 2) ∧ tW B n (i + 2) ≤ V 0 0 - 1 := a1
        rw [if_neg (fun q => q a0), n1, obind_some]
        show LnO M B n l _ (obind (t_MO_numeral N1 0 (w32 (N1.1 193 (9 + 1) - 1))) _)
        rw [e10 N1 f1, w32_id (x := V 0 1 - 1) (by unfold InR; omega)]
        rcases m_numeral n3 (lo := 0) (hi := V 0 1 - 1) (by omega) (by omega) (by omega) with ⟨b0, b1, N2, p1, p2, p3⟩ | ⟨N2, p1, p2, p3⟩
        · have f2 := f1.trans p2
          have b1 : 0 ≤ tW B n (i + 3) ∧ tW B n (i + 3) ≤ V 0 1 - 1 := b1
          rw [if_neg (fun q => q b0), p1, obind_some]
          show LnO M B n l _ (obind (t_MO_numeral N2 (tW B n (i + 2)) (w32 (N2.1 193 (9 + 0) - 1))) _)
          rw [e9 N2 f2, w32_id (x := V 0 0 - 1) (by unfold InR; omega)]
          rcases m_numeral p3 (lo := tW B n (i + 2)) (hi := V 0 0 - 1) (by omega) (by omega) (by omega) with ⟨c0, c1, N3, q1, q2, q3⟩ | ⟨N3, q1, q2, q3⟩
          · have f3 := f2.trans q2
            have c1 : tW B n (i + 2) ≤ tW B n (i + 4) ∧ tW B n (i + 4) ≤ V 0 0 - 1 := c1
            rw [if_neg (fun q => q c0), q1, obind_some]
            show LnO M B n l _ (obind (t_MO_numeral N3 (tW B n (i + 3)) (w32 (N3.1 193 (9 + 1) - 1))) _)
            rw [e10 N3 f3, w32_id (x := V 0 1 - 1) (by unfold InR; omega)]
            rcases m_numeral q3 (lo := tW B n (i + 3)) (hi := V 0 1 - 1) (by omega) (by omega) (by omega) with ⟨d0, d1, N4, r1, r2, r3⟩ | ⟨N4, r1, r2, r3⟩
            · have f4 := f3.trans r2
              have d1 : tW B n (i + 3) ≤ tW B n (i + 5) ∧ tW B n (i + 5) ≤ V 0 1 - 1 := d1
              have hL4 := hL.nf f4
              rw [if_neg (fun q => q d0), r1, obind_some]
              show LnO M B n l _ (if N4.1 191 24 = 0 then t_MO_partLine_L137 FU N4 (wd : Int) (tW B n (i + 2)) (tW B n (i + 4)) (tW B n (i + 5)) (tW B n (i + 3)) else some N4)
              rw [if_pos r3.2.2]
              obtain ⟨N, o1, o2, o3, o4⟩ := m_part_L137 (wd := (wd : Int)) (x := tW B n (i + 2)) (x2 := tW B n (i + 4)) (y := tW B n (i + 3)) (y2 := tW B n (i + 5)) hL4 hP a1.1 c1.1 c1.2 b1.1 d1.1 d1.2 (by omega) h6 (tW B n (i + 5) + 1 - tW B n (i + 3)).toNat FU N4 (tW B n (i + 3)) (by omega) (Int.le_refl _) (fu_big (by omega)) Fr.rf (fun c a b => by
                rw [if_neg (fun z => by rcases z with z | z <;> omega)])
              have fin : Fr StW M N := (f4.mono NF_StW).trans (o2.mono (fun k j z => by unfold PtW at z; unfold StW; omega))
              have e2 : ∀ k j, LBc k j → ¬ (PtW k j ∨ (k = 193 ∧ j = 12)) → N.1 k j = M.1 k j := fun k j a b => ((o2 k j b).1).trans (f4 k j (NF_LBc k j a)).1
              refine ⟨N, o1, fin, Or.inl ⟨rfl, r3.fr o2 (fun k j a z => by unfold PtW at z; omega), ?_, ?_⟩⟩
              · refine hL.upd e2 (fun k j z => by unfold PtW at z; omega) (fun j x hj => ?_) (fun w a b => ?_) (fun t a b => ?_) (fun c a b => ?_) rfl rfl rfl (fun r i hr => ?_)
                · show _ = setV (ptV V (tW B n (i + 2)) (tW B n (i + 3)) (tW B n (i + 4)) (tW B n (i + 5)) (wd : Int)) 0 6 (V 0 6 + 1) 0 x
                  by_cases z : j = 12
                  · have hx : x = 6 := by omega
                    subst z; subst hx
                    rw [o3, setV_self]
                  · rw [e2 193 j (by unfold LBc; omega) (by unfold PtW; omega), setV_ne _ _ (by omega)]
                    exact (hL.1.sc hj).trans (by unfold ptV; rw [if_neg (fun q => by omega)])
                · rw [e2 194 _ (by unfold LBc; omega) (by unfold PtW; omega), e2 195 _ (by unfold LBc; omega) (by unfold PtW; omega), e2 196 _ (by unfold LBc; omega) (by unfold PtW; omega)]
                  exact hL.1.2.1 w a b
                · rw [e2 200 _ (by unfold LBc; omega) (by unfold PtW; omega), e2 201 _ (by unfold LBc; omega) (by unfold PtW; omega), e2 202 _ (by unfold LBc; omega) (by unfold PtW; omega)]
                  exact hL.1.2.2.1 t a b
                · have z := hL4.1.2.2.2 c a b
                  have z0 := hL.1.2.2.2 c a b
                  rw [e2 198 _ (by unfold LBc; omega) (by unfold PtW; omega), e2 199 _ (by unfold LBc; omega) (by unfold PtW; omega), o4 c a b, z.1]
                  refine ⟨?_, z0.2⟩
                  show _ = setV (ptV V (tW B n (i + 2)) (tW B n (i + 3)) (tW B n (i + 4)) (tW B n (i + 5)) (wd : Int)) 0 6 (V 0 6 + 1) 7 c + 1
                  rw [setV_ne _ _ (by omega)]
                  unfold ptV
                  by_cases y : (tW B n (i + 2) ≤ c % V 0 0 ∧ c % V 0 0 ≤ tW B n (i + 4) ∧ tW B n (i + 3) ≤ c / V 0 0 ∧ c / V 0 0 ≤ tW B n (i + 5))
                  · rw [if_pos y, if_pos ⟨rfl, y⟩]
                  · rw [if_neg y, if_neg (fun q => y q.2)]
                · show setV (ptV V (tW B n (_ + 2)) (tW B n (_ + 3)) (tW B n (_ + 4)) (tW B n (_ + 5)) (wd : Int)) 0 6 (V 0 6 + 1) r i = V r i
                  rw [setV_ne _ _ (by omega)]
                  unfold ptV
                  rw [if_neg (fun q => by omega)]
              · refine hT.done fin ?_ (td_of (kw := 6) (fun k a b => ?_) (by omega) (fun _ => ?_))
                · rw [(o2 191 17 (by unfold PtW; omega)).1, nf17 f4]
                · show setV (ptV V (tW B n (i + 2)) (tW B n (i + 3)) (tW B n (i + 4)) (tW B n (i + 5)) (wd : Int)) 0 6 (V 0 6 + 1) 0 k = V 0 k
                  rw [setV_ne _ _ (by omega)]
                  unfold ptV
                  rw [if_neg (fun q => by omega)]
                · show decide (0 < setV (ptV V (tW B n (i + 2)) (tW B n (i + 3)) (tW B n (i + 4)) (tW B n (i + 5)) (wd : Int)) 0 6 (V 0 6 + 1) 0 6) = true
                  rw [setV_self]; exact decide_eq_true (by omega)
            · rw [if_pos r3.1, r1, obind_some]
              show LnO M B n l _ (if N4.1 191 24 = 0 then _ else some N4)
              rw [if_neg r3.nz]
              exact LnO.bad ((f3.trans r2).mono NF_StW) r3
          · rw [if_pos q3.1, q1, obind_some]
            show LnO M B n l _ (obind (t_MO_numeral N3 (tW B n (i + 3)) (w32 (N3.1 193 (9 + 1) - 1))) _)
            rw [flt_numeral q3.nz, obind_some]
            show LnO M B n l _ (if N3.1 191 24 = 0 then _ else some N3)
            rw [if_neg q3.nz]
            exact LnO.bad ((f2.trans q2).mono NF_StW) q3
        · rw [if_pos p3.1, p1, obind_some]
          show LnO M B n l _ (obind (t_MO_numeral N2 (tW B n (i + 2)) (w32 (N2.1 193 (9 + 0) - 1))) _)
          rw [flt_numeral p3.nz, obind_some]
          show LnO M B n l _ (obind (t_MO_numeral N2 0 (w32 (N2.1 193 (9 + 1) - 1))) _)
          rw [flt_numeral p3.nz, obind_some]
          show LnO M B n l _ (if N2.1 191 24 = 0 then _ else some N2)
          rw [if_neg p3.nz]
          exact LnO.bad ((f1.trans p2).mono NF_StW) p3
      · rw [if_pos n3.1, n1, obind_some]
        show LnO M B n l _ (obind (t_MO_numeral N1 0 (w32 (N1.1 193 (9 + 1) - 1))) _)
        rw [flt_numeral n3.nz, obind_some]
        show LnO M B n l _ (obind (t_MO_numeral N1 0 (w32 (N1.1 193 (9 + 0) - 1))) _)
        rw [flt_numeral n3.nz, obind_some]
        show LnO M B n l _ (obind (t_MO_numeral N1 0 (w32 (N1.1 193 (9 + 1) - 1))) _)
        rw [flt_numeral n3.nz, obind_some]
        show LnO M B n l _ (if N1.1 191 24 = 0 then _ else some N1)
        rw [if_neg n3.nz]
        exact LnO.bad ((t2.trans n2).mono NF_StW) n3
  · obtain ⟨w1, w2⟩ := h.wrong (k := 1) (by decide)
    rw [if_pos k, if_neg (fun z => k (s.mp z)), if_neg w2.nz]
    exact LnO.bad (w1.mono NF_StW) w2
end LP
end
section
/-! ===== lines: laws, and any ===== -/
section LX
variable {B : Int → Int} {n : Int}
/-- rows of knots, one of both laws read -/
theorem SLw.knots {M N : Mem} {V : TV} {l q : Int} {s : Nat} {out : List (Int × Int)} {kn : Int} (hs : s < 2) (hL : LB M V l) (h4 : V 0 4 = q) (hF : Fr (fun k j => XW q k j ∨ NF k j ∨ ((k = 203 ∨ k = 204) ∧ j = 2 + (s : Int)) ∨ (k = 191 ∧ j = 17)) M N) (h203 : N.1 203 (2 + (s : Int)) = q) (h204 : N.1 204 (2 + (s : Int)) = kn) (hkn : kn = q + (out.length : Int)) (hq : 0 ≤ q) (hK : KnL N q out) (hz : ∀ s : Nat, s < 2 → 0 ≤ V 0 (11 + (s : Int))) : SLw N (knV V s out kn) 0 ∧ SLw N (knV V s out kn) 1 := by
  have other : ∀ t : Nat, t < 2 → t ≠ s → SLw M V t → SLw N (knV V s out kn) t := by
    intro t ht hts h
    unfold SLw at *
    have e11 : knV V s out kn 0 (11 + (t : Int)) = V 0 (11 + (t : Int)) := by
      unfold knV
      rw [if_neg (by omega), if_neg (by omega), if_neg (by omega), if_neg (by omega), if_neg (by omega)]
    have e4 : knV V s out kn 0 4 = kn := by
      unfold knV
      rw [if_neg (by omega), if_neg (by omega), if_neg (by omega), if_neg (by omega), if_pos ⟨rfl, rfl⟩]
    have er : ∀ r i, (r = 10 + 2 * t ∨ r = 11 + 2 * t) → knV V s out kn r i = V r i := by
      intro r i hr
      unfold knV
      rw [if_neg (by omega), if_neg (by omega), if_neg (by omega), if_neg (by omega), if_neg (by omega)]
    have f3 : N.1 203 (2 + (t : Int)) = M.1 203 (2 + (t : Int)) := (hF 203 _ (by unfold XW NF; omega)).1
    have f4 : N.1 204 (2 + (t : Int)) = M.1 204 (2 + (t : Int)) := (hF 204 _ (by unfold XW NF; omega)).1
    rw [f3, f4, e11, e4]
    refine ⟨h.1, h.2.1, by omega, fun i a b => ?_⟩
    rw [er _ _ (Or.inl rfl), er _ _ (Or.inr rfl), (hF 205 _ (by unfold XW NF; omega)).1, (hF 206 _ (by unfold XW NF; omega)).1]
    exact h.2.2.2 i a b
  have this_ : SLw N (knV V s out kn) s := by
    unfold SLw
    have e11 : knV V s out kn 0 (11 + (s : Int)) = (out.length : Int) := by
      unfold knV
      rw [if_neg (by omega), if_neg (by omega), if_neg (by omega), if_pos ⟨rfl, rfl⟩]
    have e4 : knV V s out kn 0 4 = kn := by
      unfold knV
      rw [if_neg (by omega), if_neg (by omega), if_neg (by omega), if_neg (by omega), if_pos ⟨rfl, rfl⟩]
    rw [h203, h204, e11, e4]
    refine ⟨hq, hkn, Int.le_refl _, fun i a b => ?_⟩
    have ek : knV V s out kn (10 + 2 * s) i = (out.getD i.toNat (0, 0)).1 := if_pos rfl
    have en : knV V s out kn (11 + 2 * s) i = (out.getD i.toNat (0, 0)).2 := by
      unfold knV
      rw [if_neg (by omega), if_pos rfl]
    rw [ek, en]
    have := hK i.toNat (by omega)
    rw [Int.toNat_of_nonneg a] at this
    exact this
  have hs2 : s = 0 ∨ s = 1 := by omega
  rcases hs2 with rfl | rfl
  · exact ⟨this_, other 1 (by omega) (by omega) hL.2.1.2⟩
  · exact ⟨other 0 (by omega) (by omega) hL.2.1.1, this_⟩
theorem LBc_n {k : Nat} {j : Int} (h : ((decide (193 ≤ k) && decide (k ≤ 206)) || (k == 191 && (j == 28 || (j == 29 || j == 18)))) = true) : LBc k j := by
  have z : (193 ≤ k ∧ k ≤ 206) ∨ (k = 191 ∧ (j = 28 ∨ j = 29 ∨ j = 18)) := by simpa using h
  exact z
theorem XW_n {q : Int} {s k : Nat} {j : Int} (h : ((!(k == 191) || j == 18) && ((!(k == 193) || !(j == 17)) && decide (k < 203))) = true) : ¬ (XW q k j ∨ ((k = 203 ∨ k = 204) ∧ j = 2 + (s : Int))) := by
  have z : (¬ k = 191 ∨ j = 18) ∧ (¬ k = 193 ∨ ¬ j = 17) ∧ k < 203 := by simpa using h
  unfold XW
  omega
theorem XW_o {q : Int} {k : Nat} {j : Int} (h : (k == 203 || (k == 191 && (j == 17 || j == 18))) = true) : ¬ XW q k j := by
  have z : k = 203 ∨ (k = 191 ∧ (j = 17 ∨ j = 18)) := by simpa using h
  unfold XW
  omega
theorem knV_r {V : TV} {s : Nat} {out : List (Int × Int)} {kn : Int} {r : Nat} {j : Int} (h : (decide (0 < r) && decide (r < 10)) = true) : knV V s out kn r j = V r j := by
  have z : 0 < r ∧ r < 10 := by simpa using h
  unfold knV
  rw [if_neg (by omega), if_neg (by omega), if_neg (by omega), if_neg (by omega), if_neg (by omega)]
theorem knV_0 {V : TV} {s : Nat} {out : List (Int × Int)} {kn : Int} {j : Int} (h : (decide (j < 9) && !(j == 4)) = true) : knV V s out kn 0 j = V 0 j := by
  have z : j < 9 ∧ ¬ j = 4 := by simpa using h
  unfold knV
  rw [if_neg (by omega), if_neg (by omega), if_neg (by omega), if_neg (by omega), if_neg (by omega)]
theorem knV_4 {V : TV} {s : Nat} {out : List (Int × Int)} {kn : Int} : knV V s out kn 0 4 = kn := by
  unfold knV
  rw [if_neg (by omega), if_neg (by omega), if_neg (by omega), if_neg (by omega), if_pos ⟨rfl, rfl⟩]
theorem knV_td {V : TV} {s : Nat} {out : List (Int × Int)} {kn : Int} (hs : s < 2) {k : Int} (a : k = 13 ∨ k = 6 ∨ k = 7 ∨ k = 8 ∨ k = 3 ∨ k = 14 ∨ k = 9 ∨ k = 10) (b : k ≠ 9 + (s : Int)) : knV V s out kn 0 k = V 0 k := by
  unfold knV
  rw [if_neg (by omega), if_neg (by omega), if_neg (by omega), if_neg (by omega), if_neg (by omega)]
theorem lawW_StW {q : Int} {s k : Nat} {j : Int} (hs : s < 2) (hq : 0 ≤ q) (z : XW q k j ∨ NF k j ∨ ((k = 203 ∨ k = 204) ∧ j = 2 + (s : Int)) ∨ (k = 191 ∧ j = 17)) : StW k j := by
  unfold XW NF at z
  unfold StW
  rcases z with (z | z | z) | z | z | z <;> omega
theorem lawW_ev {q : Int} {s k : Nat} {j : Int} (a : LBc k j) (b : ¬ (XW q k j ∨ ((k = 203 ∨ k = 204) ∧ j = 2 + (s : Int)))) : ¬ (XW q k j ∨ NF k j ∨ ((k = 203 ∨ k = 204) ∧ j = 2 + (s : Int)) ∨ (k = 191 ∧ j = 17)) := by
  intro y
  rcases y with y | y | y | y
  · exact b (Or.inl y)
  · exact NF_LBc k j a y
  · exact b (Or.inr y)
  · unfold LBc at a; omega
theorem m_lnLaw {M : Mem} {V : TV} {l : Int} {i : Nat} (h : TS M B n (i + 1)) (hL : LB M V l) (hT : TBw M V 7) (hP : POK V) : LnO M B n l (lnLaw B n V i) (t_MO_lawLine M) := by
  have hv := hP.1.1
  have hkk := h.kok
  have s13 := srt_word h.2.1 hkk 13 (by omega) (by omega)
  have s14 := srt_word h.2.1 hkk 14 (by omega) (by omega)
  obtain ⟨w1, w2⟩ := h.wrong (k := 1) (by decide)
  unfold lnLaw t_MO_lawLine t_MO_lawLine_L25
  simp (config := { proj := false }) only [qlet]
  have deadL30 : ∀ N, ¬ N.1 191 24 = 0 → t_MO_lawLine_L30 N = some N := by
    intro N hN
    unfold t_MO_lawLine_L30 t_MO_lawLine_L61
    rw [if_neg hN, if_neg hN]
  -- a kind of its own
  have go : ∀ s : Nat, s < 2 → tK B n (i + 1) = 13 + (s : Int) → LnO M B n l (if V 0 (tK B n (i + 1) - 4) = 1 then (3, tP B n (i + 1), 0, V) else if ¬ (frS B n (i + 2) (V 0 4)).1 = 0 then ((frS B n (i + 2) (V 0 4)).1, tP B n (frS B n (i + 2) (V 0 4)).2.1, 0, V) else (0, 0, (frS B n (i + 2) (V 0 4)).2.1, knV V (tK B n (i + 1) - 13).toNat (frS B n (i + 2) (V 0 4)).2.2.2 (frS B n (i + 2) (V 0 4)).2.2.1)) (t_MO_lawLine_L30 M) := by
    intro s hs hk
    have hv3 : M.1 191 23 = 13 + (s : Int) := h.2.1.2.2.2.1 ⟨by omega, by omega⟩ |>.trans hk
    have es : (tK B n (i + 1) - 13).toNat = s := by omega
    have etd : td V (10 + (s : Int)) = decide (V 0 (9 + (s : Int)) = 1) := by
      have hs2 : s = 0 ∨ s = 1 := by omega
      rcases hs2 with rfl | rfl <;> rfl
    have htold : tbI (M.1 191 17) (10 + (s : Int)) = decide (V 0 (9 + (s : Int)) = 1) := by
      have := hT (10 + (s : Int)) (by omega)
      rw [decide_eq_false (show ¬ 10 + (s : Int) = 7 by omega), Bool.or_false, etd] at this
      exact this
    rw [es, hk, show 13 + (s : Int) - 4 = 9 + (s : Int) by omega]
    unfold t_MO_lawLine_L30
    simp (config := { proj := false }) only [qlet]
    rw [if_pos h.2.2, hv3, w32_id (x := 13 + (s : Int) - 13) (by unfold InR; omega), show 13 + (s : Int) - 13 = (s : Int) by omega, w32_id (x := 10 + (s : Int)) (by unfold InR; omega), m_isTold M (by omega) (by omega), htold]
    by_cases e1 : V 0 (9 + (s : Int)) = 1
    · obtain ⟨v1, v2⟩ := h.wrong (k := 3) (by decide)
      rw [if_pos e1, decide_eq_true e1, if_neg (show ¬ (if true = true then (1 : Int) else 0) = 0 by decide)]
      unfold t_MO_lawLine_L61
      rw [if_neg v2.nz]
      exact LnO.bad (v1.mono NF_StW) v2
    · rw [if_neg e1, decide_eq_false e1, if_pos (show (if false = true then (1 : Int) else 0) = 0 from rfl)]
      unfold t_MO_lawLine_L61
      simp (config := { proj := false }) only [qlet]
      rw [if_pos h.2.2, w32_id (x := 10 + (s : Int)) (by unfold InR; omega), w32_id (x := 2 + (s : Int)) (by unfold InR; omega)]
      have hFa : Fr (fun k j => k = 191 ∧ j = 17) M (setI M 191 17 (q_or (M.1 191 17) (q_shl 1 (10 + (s : Int))))) := Fr.rf.setI ⟨rfl, rfl⟩
      have hbits : ∀ x, tdx x → tbI (q_or (M.1 191 17) (q_shl 1 (10 + (s : Int)))) x = (td V x || decide (x = 10 + (s : Int))) := by
        intro x hx
        rw [told_or (by omega) (by omega) (by omega) (by omega), hT x hx, decide_eq_false (show ¬ x = 7 by omega), Bool.or_false]
      generalize hb : q_or (M.1 191 17) (q_shl 1 (10 + (s : Int))) = bits at *
      have ta : TS (setI M 191 17 bits) B n (i + 1) := h.fr hFa (fun k j a z => by omega)
      obtain ⟨N0, t1, t2, t3⟩ := ta.next
      have t1' : t_MO_token (setI M 191 17 bits) = some N0 := t1
      rw [t1', obind_some, m_fresher (by omega) (by omega), obind_some, qguard_pos ⟨by omega, by omega⟩]
      have f0 : Fr (fun k j => NF k j ∨ (k = 191 ∧ j = 17)) M N0 := (hFa.mono (fun k j z => Or.inr z)).trans (t2.mono (fun k j z => Or.inl z))
      have e17 : N0.1 193 (9 + 8) = V 0 4 := ((f0 193 (9 + 8) (by unfold NF; omega)).1).trans (hL.1.sc (j := 17) (x := 4) (by omega))
      rw [e17]
      have hFb : Fr (fun k j => k = 203 ∧ j = 2 + (s : Int)) N0 (setI N0 203 (2 + (s : Int)) (V 0 4)) := Fr.rf.setI ⟨rfl, rfl⟩
      have f1 : Fr (fun k j => NF k j ∨ (k = 191 ∧ j = 17) ∨ (k = 203 ∧ j = 2 + (s : Int))) M (setI N0 203 (2 + (s : Int)) (V 0 4)) := (f0.mono (fun k j z => z.elim Or.inl (fun y => Or.inr (Or.inl y)))).trans (hFb.mono (fun k j z => Or.inr (Or.inr z)))
      have tb : TS (setI N0 203 (2 + (s : Int)) (V 0 4)) B n (i + 2) := t3.fr hFb (fun k j a z => by omega)
      have hE : EP (setI N0 203 (2 + (s : Int)) (V 0 4)) B n (i + 2) (V 0 4) 0 (V 0 4) := ⟨tb.1, tb.2.1, tb.2.2, (f1 191 29 (by unfold NF; omega)).1.trans hL.2.2.2.1, (f1 191 28 (by unfold NF; omega)).1.trans hL.2.2.1, (f1 193 17 (by unfold NF; omega)).1.trans (hL.1.sc (j := 17) (x := 4) (by omega))⟩
      have h203 : (setI N0 203 (2 + (s : Int)) (V 0 4)).1 203 (2 + (s : Int)) = V 0 4 := sI_self _ _ _ _
      have nf17 : ¬ NF 191 17 := by unfold NF; omega
      have h17 : (setI N0 203 (2 + (s : Int)) (V 0 4)).1 191 17 = bits := by
        rw [sI_ne (by omega), (t2 191 17 nf17).1, sI_self]
      generalize setI N0 203 (2 + (s : Int)) (V 0 4) = M2 at *
      obtain ⟨N, x1, x2, x3⟩ := m_expression (q := V 0 4) (by omega) (Int.le_refl _) (by omega) hE
      have rg := (fr_facts (B := B) h.1.1 (i := i + 2) (c := V 0 4) (by omega) (by omega)).2
      rw [x1, obind_some, m_fresher (by omega) (by omega), obind_some, qguard_pos ⟨by omega, by omega⟩]
      have hFc : Fr (fun k j => k = 204 ∧ j = 2 + (s : Int)) N (setI N 204 (2 + (s : Int)) (N.1 193 (9 + 8))) := Fr.rf.setI ⟨rfl, rfl⟩
      have fall : Fr (fun k j => XW (V 0 4) k j ∨ NF k j ∨ ((k = 203 ∨ k = 204) ∧ j = 2 + (s : Int)) ∨ (k = 191 ∧ j = 17)) M (setI N 204 (2 + (s : Int)) (N.1 193 (9 + 8))) := ((f1.mono (fun k j z => z.elim (fun z => Or.inr (Or.inl z)) (fun z => z.elim (fun z => Or.inr (Or.inr (Or.inr z))) (fun z => Or.inr (Or.inr (Or.inl ⟨Or.inl z.1, z.2⟩)))))).trans (x2.mono (fun k j z => Or.inl z))).trans (hFc.mono (fun k j z => Or.inr (Or.inr (Or.inl ⟨Or.inr z.1, z.2⟩))))
      have fin : Fr StW M (setI N 204 (2 + (s : Int)) (N.1 193 (9 + 8))) := fall.mono (fun k j z => lawW_StW hs (by omega) z)
      rcases x3 with ⟨z, y1, y2⟩ | ⟨z, y1, y2⟩
      · rw [if_neg (fun q => q z)]
        obtain ⟨g1, g2, g3, g4, g5⟩ := rg.1 z
        have ekn : N.1 193 (9 + 8) = (frS B n (i + 2) (V 0 4)).2.2.1 := by
          have : N.1 193 17 = V 0 4 + ((frS B n (i + 2) (V 0 4)).2.2.2.length : Int) := y1.2.2.2.2.2
          show N.1 193 17 = _
          omega
        have y17 : N.1 193 17 = V 0 4 + ((frS B n (i + 2) (V 0 4)).2.2.2.length : Int) := y1.2.2.2.2.2
        have y29 : N.1 191 29 = (frS B n (i + 2) (V 0 4)).2.2.1 := y1.2.2.2.1
        have y28 : N.1 191 28 = 0 := y1.2.2.2.2.1
        have hTS : TS N B n (frS B n (i + 2) (V 0 4)).2.1 := ⟨y1.1, y1.2.1, y1.2.2.1⟩
        generalize (frS B n (i + 2) (V 0 4)).2.2.2 = out at *
        generalize (frS B n (i + 2) (V 0 4)).2.2.1 = kn at *
        rw [ekn] at fall fin hFc ⊢
        have ev : ∀ k j, LBc k j → ¬ (XW (V 0 4) k j ∨ ((k = 203 ∨ k = 204) ∧ j = 2 + (s : Int))) → (setI N 204 (2 + (s : Int)) kn).1 k j = M.1 k j := fun k j a b => (fall k j (lawW_ev a b)).1
        have f4 : FOK V := hP.2.1
        refine ⟨setI N 204 (2 + (s : Int)) kn, rfl, fin, Or.inl ⟨rfl, hTS.fr hFc (fun k j a z => by omega), ⟨⟨⟨?_, ?_, ?_, ?_, ?_, ?_, ?_, ?_, ?_⟩, fun w a b => ?_, fun t a b => ?_, fun q a b => ?_⟩, ?_, ?_, ?_, ?_⟩, ?_⟩⟩
        · rw [ev 193 9 (LBc_n rfl) (XW_n rfl)]; exact (hL.1.sc (j := 9) (x := 0) (by omega)).trans (knV_0 (j := 0) rfl).symm
        · rw [ev 193 10 (LBc_n rfl) (XW_n rfl)]; exact (hL.1.sc (j := 10) (x := 1) (by omega)).trans (knV_0 (j := 1) rfl).symm
        · rw [ev 193 11 (LBc_n rfl) (XW_n rfl)]; exact (hL.1.sc (j := 11) (x := 2) (by omega)).trans (knV_0 (j := 2) rfl).symm
        · rw [ev 193 12 (LBc_n rfl) (XW_n rfl)]; exact (hL.1.sc (j := 12) (x := 6) (by omega)).trans (knV_0 (j := 6) rfl).symm
        · rw [ev 193 13 (LBc_n rfl) (XW_n rfl)]; exact (hL.1.sc (j := 13) (x := 7) (by omega)).trans (knV_0 (j := 7) rfl).symm
        · rw [ev 193 14 (LBc_n rfl) (XW_n rfl)]; exact (hL.1.sc (j := 14) (x := 8) (by omega)).trans (knV_0 (j := 8) rfl).symm
        · rw [ev 193 15 (LBc_n rfl) (XW_n rfl)]; exact (hL.1.sc (j := 15) (x := 3) (by omega)).trans (knV_0 (j := 3) rfl).symm
        · rw [ev 193 16 (LBc_n rfl) (XW_n rfl)]; exact (hL.1.sc (j := 16) (x := 5) (by omega)).trans (knV_0 (j := 5) rfl).symm
        · rw [sI_ne (by omega)]
          show N.1 193 17 = knV V s out kn 0 4
          rw [knV_4]; exact ekn
        · have b : w < knV V s out kn 0 2 := b
          rw [knV_0 (j := 2) rfl] at b
          have z := hL.1.2.1 w a b
          have c1 := knV_r (V := V) (s := s) (out := out) (kn := kn) (r := 1) (j := w) rfl
          have c2 := knV_r (V := V) (s := s) (out := out) (kn := kn) (r := 2) (j := w) rfl
          have c3 := knV_r (V := V) (s := s) (out := out) (kn := kn) (r := 3) (j := w) rfl
          refine ⟨?_, ?_, ?_⟩
          · rw [ev 194 _ (LBc_n rfl) (XW_n rfl)]; exact z.1.trans c1.symm
          · rw [ev 195 _ (LBc_n rfl) (XW_n rfl)]; exact z.2.1.trans c2.symm
          · rw [ev 196 _ (LBc_n rfl) (XW_n rfl)]; exact z.2.2.trans c3.symm
        · have b : t < knV V s out kn 0 3 := b
          rw [knV_0 (j := 3) rfl] at b
          have z := hL.1.2.2.1 t a b
          have c1 := knV_r (V := V) (s := s) (out := out) (kn := kn) (r := 4) (j := t) rfl
          have c2 := knV_r (V := V) (s := s) (out := out) (kn := kn) (r := 5) (j := t) rfl
          have c3 := knV_r (V := V) (s := s) (out := out) (kn := kn) (r := 6) (j := t) rfl
          refine ⟨?_, ?_, ?_⟩
          · rw [ev 200 _ (LBc_n rfl) (XW_n rfl)]; exact z.1.trans c1.symm
          · rw [ev 201 _ (LBc_n rfl) (XW_n rfl)]; exact z.2.1.trans c2.symm
          · rw [ev 202 _ (LBc_n rfl) (XW_n rfl)]; exact z.2.2.trans c3.symm
        · have z := hL.1.2.2.2 q a b
          have c1 := knV_r (V := V) (s := s) (out := out) (kn := kn) (r := 7) (j := q) rfl
          have c2 := knV_r (V := V) (s := s) (out := out) (kn := kn) (r := 8) (j := q) rfl
          have c3 := knV_r (V := V) (s := s) (out := out) (kn := kn) (r := 9) (j := q) rfl
          refine ⟨?_, ?_, ?_⟩
          · rw [ev 197 _ (LBc_n rfl) (XW_n rfl)]
            show _ = knV V s out kn 7 q + 1
            rw [c1]; exact z.1
          · rw [ev 198 _ (LBc_n rfl) (XW_n rfl)]; exact z.2.1.trans c2.symm
          · rw [ev 199 _ (LBc_n rfl) (XW_n rfl)]; exact z.2.2.trans c3.symm
        · exact SLw.knots hs hL rfl fall (by rw [sI_ne (by omega), (x2 203 _ (XW_o rfl)).1]; exact h203) (sI_self _ _ _ _) (by omega) (by omega) (y2.fr hFc (fun k j a b z => by omega)) (fun t ht => by
            have ht2 : t = 0 ∨ t = 1 := by omega
            rcases ht2 with rfl | rfl
            · exact f4.1.1
            · exact f4.2.1.1)
        · rw [sI_ne (by omega)]; exact y28
        · show (setI N 204 (2 + (s : Int)) kn).1 191 29 = knV V s out kn 0 4
          rw [sI_ne (by omega), knV_4]; exact y29
        · rw [ev 191 18 (LBc_n rfl) (XW_n rfl)]; exact hL.2.2.2.2
        · intro x hx
          have b17 : (setI N 204 (2 + (s : Int)) kn).1 191 17 = bits := by
            rw [sI_ne (by omega), (x2 191 17 (XW_o rfl)).1]
            exact h17
          rw [b17, hbits x hx]
          refine (td_of (V := V) (V' := knV V s out kn) (w := 10 + (s : Int)) (kw := 9 + (s : Int)) (fun k a b => knV_td hs a b) (by omega) (fun _ => ?_) x hx).symm
          have hs2 : s = 0 ∨ s = 1 := by omega
          rcases hs2 with rfl | rfl
          · show decide (knV V 0 out kn 0 9 = 1) = true
            exact decide_eq_true rfl
          · show decide (knV V 1 out kn 0 10 = 1) = true
            exact decide_eq_true rfl
      · rw [if_pos z]
        exact LnO.bad fin ⟨z, by rw [sI_ne (by omega)]; exact y1, by rw [sI_ne (by omega)]; exact y2⟩
  by_cases k : tK B n (i + 1) = 13 ∨ tK B n (i + 1) = 14
  · rw [if_neg (fun q => q k)]
    rcases k with k | k
    · have z := s13.mpr k
      rw [if_pos z.1, if_pos z.2]
      exact go 0 (by omega) (by omega)
    · have z := s14.mpr k
      rw [if_pos z.1, if_neg (show ¬ M.1 191 23 = 13 by omega), if_pos z.2]
      exact go 1 (by omega) (by omega)
  · rw [if_pos k, deadL30 _ w2.nz]
    have fin : LnO M B n l (1, tP B n (i + 1), 0, V) (some (t_MO_wrong M 1)) := LnO.bad (w1.mono NF_StW) w2
    by_cases s0 : M.1 191 22 = 0
    · rw [if_pos s0, if_neg (fun q => k (Or.inl (s13.mp ⟨s0, q⟩))), if_neg (fun q => k (Or.inr (s14.mp ⟨s0, q⟩)))]
      exact fin
    · rw [if_neg s0]
      exact fin
end LX
end
section
/-! ===== lines: one line -/
section LI
variable {B : Int → Int} {n : Int}
/-- the outcome of a line and its end -/
def LnE (M : Mem) (B : Int → Int) (n l : Int) (r : LR) (x : Option Mem) : Prop := ∃ N, x = some N ∧ Fr StW M N ∧ ((r.1 = 0 ∧ TS N B n r.2.2.1 ∧ LB N r.2.2.2 (l + 1) ∧ TBd N r.2.2.2) ∨ (¬ r.1 = 0 ∧ N.1 191 24 = r.1 ∧ N.1 191 25 = r.2.1))
theorem LnE.bad {M N : Mem} {l : Int} {r : LR} (hF : Fr StW M N) (h : FS N r.1 r.2.1) : LnE M B n l r (some N) := ⟨N, rfl, hF, Or.inr h⟩
theorem le_bad {V : TV} {i : Nat} {r : LR} (e : lnS B n V i = r) (h : ¬ r.1 = 0) : leS B n V i = r := by
  unfold leS
  rw [e, if_pos h]
theorem m_L274 {M N : Mem} {V : TV} {l : Int} {i : Nat} {r : LR} (l0 : 0 ≤ l) (l1 : l ≤ 1000) (e : lnS B n V i = r) (h : LnO M B n l r (some N)) : LnE M B n l (leS B n V i) (t_MO_line_L274 N) := by
  obtain ⟨N', e', hF, h⟩ := h
  have e' : N = N' := Option.some.inj e'
  subst e'
  unfold t_MO_line_L274
  rcases h with ⟨z, hts, hlb, htb⟩ | ⟨z, a, b⟩
  · have s := srt_sign hts.2.1 hts.kok 40 (by omega) (by omega)
    have el : leS B n V i = if tK B n r.2.2.1 = 40 then (0, 0, r.2.2.1 + 1, r.2.2.2) else (1, tP B n r.2.2.1, 0, V) := by
      unfold leS
      rw [e, if_neg (fun q => q z)]
    rw [if_pos hts.2.2, el]
    simp (config := { proj := false }) only [qlet]
    have hs : t_MO_isSign N 59 = if tK B n r.2.2.1 = 40 then 1 else 0 := by
      unfold t_MO_isSign
      rw [if_pos hts.2.2]
      by_cases k : tK B n r.2.2.1 = 40
      · have q := s.mpr k
        rw [if_pos q.1, if_pos (show N.1 191 23 = 59 from q.2), if_pos k]
      · rw [if_neg k]
        by_cases q : N.1 191 22 = 3
        · rw [if_pos q, if_neg (fun y : N.1 191 23 = 59 => k (s.mp ⟨q, y⟩))]
        · rw [if_neg q]
    rw [hs]
    have bump : ∀ P : Mem, P.1 191 18 = l → t_MO_line_L303 P = some (setI P 191 18 (l + 1)) := by
      intro P hp
      unfold t_MO_line_L303
      rw [hp, w32_id (x := l + 1) (by unfold InR; omega)]
    by_cases k : tK B n r.2.2.1 = 40
    · rw [if_pos k, if_pos k, if_neg (show ¬ (1 : Int) = 0 by decide)]
      obtain ⟨P, p1, p2, p3⟩ := hts.next
      have lb := hlb.nf p2
      rw [p1, obind_some, bump P lb.2.2.2.2]
      have hFa : Fr (fun k j => k = 191 ∧ j = 18) P (setI P 191 18 (l + 1)) := Fr.rf.setI ⟨rfl, rfl⟩
      refine ⟨_, rfl, (hF.trans (p2.mono NF_StW)).trans (hFa.mono (fun k j z => by unfold StW; omega)), Or.inl ⟨rfl, p3.fr hFa (fun k j a z => by omega), ⟨?_, ⟨?_, ?_⟩, ?_, ?_, sI_self _ _ _ _⟩, ?_⟩⟩
      · exact lb.1.fr hFa (fun k j a b z => by omega)
      · exact lb.2.1.1.fr hFa (fun k j a b z => by omega)
      · exact lb.2.1.2.fr hFa (fun k j a b z => by omega)
      · rw [sI_ne (by omega)]; exact lb.2.2.1
      · rw [sI_ne (by omega)]; exact lb.2.2.2.1
      · intro x hx
        rw [sI_ne (by omega), nf17 p2]
        exact htb x hx
    · obtain ⟨w1, w2⟩ := hts.wrong (k := 1) (by decide)
      rw [if_neg k, if_neg k, if_pos rfl, bump _ (hlb.nf w1).2.2.2.2]
      have hFa : Fr (fun k j => k = 191 ∧ j = 18) (t_MO_wrong N 1) (setI (t_MO_wrong N 1) 191 18 (l + 1)) := Fr.rf.setI ⟨rfl, rfl⟩
      exact LnE.bad ((hF.trans (w1.mono NF_StW)).trans (hFa.mono (fun k j z => by unfold StW; omega))) (w2.fr hFa (fun k j a b z => by omega))
  · rw [if_neg (show ¬ N.1 191 24 = 0 by rw [a]; exact z), le_bad e z]
    exact LnE.bad hF ⟨z, a, b⟩
theorem fr_of {M : Mem} {V : TV} {l x y : Int} (hL : LB M V l) (h : scp (9 + x) y) : t_MO_fresher M x = some (V 0 y) := by
  rw [m_fresher (by omega) (by omega), hL.1.sc h]
theorem ite_or_l {p q : Prop} [Decidable p] [Decidable q] (h : ¬ p) : (if p ∨ q then (1 : Int) else 0) = if q then 1 else 0 := by
  by_cases c : q
  · rw [if_pos c, if_pos (Or.inr c)]
  · rw [if_neg c, if_neg (fun z => z.elim h c)]
theorem full_step {M : Mem} {V : TV} {l w c x y m : Int} {Q : Prop} [Decidable Q] {rest : Option Int} (hL : LB M V l) (hx : scp (9 + x) y) (hr : rest = some (if Q then 1 else 0)) : (if w = c then (obind (t_MO_fresher M x) fun q => (if q = m then (some (1 : Int)) else rest)) else rest) = some (if (w = c ∧ V 0 y = m) ∨ Q then 1 else 0) := by
  by_cases a : w = c
  · rw [if_pos a, fr_of hL hx, obind_some]
    by_cases b : V 0 y = m
    · rw [if_pos b, if_pos (Or.inl ⟨a, b⟩)]
    · rw [if_neg b, hr, ite_or_l (fun z => b z.2)]
  · rw [if_neg a, hr, ite_or_l (fun z => a z.1)]
theorem full_last {M : Mem} {V : TV} {l w c x y m : Int} (hL : LB M V l) (hx : scp (9 + x) y) : (if w = c then (obind (t_MO_fresher M x) fun q => (if q = m then (some (1 : Int)) else (some 0))) else (some 0)) = some (if w = c ∧ V 0 y = m then 1 else 0) := by
  by_cases a : w = c
  · rw [if_pos a, fr_of hL hx, obind_some]
    by_cases b : V 0 y = m
    · rw [if_pos b, if_pos ⟨a, b⟩]
    · rw [if_neg b, if_neg (fun z => b z.2)]
  · rw [if_neg a, if_neg (fun z => a z.1)]
theorem m_isFull {M : Mem} {V : TV} {l : Int} (hL : LB M V l) (w : Int) : t_MO_isFull M w = some (if (w = 1 ∧ V 0 2 = 4) ∨ (w = 2 ∧ V 0 6 = 12) ∨ (w = 3 ∧ V 0 7 = 12) ∨ (w = 4 ∧ V 0 8 = 8) ∨ (w = 5 ∧ V 0 3 = 8) then 1 else 0) := by
  have s2 : scp (9 + 2) 2 := by omega
  have s3 : scp (9 + 3) 6 := by omega
  have s4 : scp (9 + 4) 7 := by omega
  have s5 : scp (9 + 5) 8 := by omega
  have s6 : scp (9 + 6) 3 := by omega
  exact full_step hL s2 (full_step hL s3 (full_step hL s4 (full_step hL s5 (full_last hL s6))))
theorem line_pre {M : Mem} {V : TV} {l w : Int} {i : Nat} (h : TS M B n i) (hL : LB M V l) (hT : TBd M V) (w0 : 0 ≤ w) (w1 : w ≤ 7) : ∃ N1, t_MO_token (setI M 191 17 (q_or (M.1 191 17) (q_shl 1 w))) = some N1 ∧ Fr StW M N1 ∧ TS N1 B n (i + 1) ∧ LB N1 V l ∧ TBw N1 V w := by
  have hFa : Fr (fun k j => k = 191 ∧ j = 17) M (setI M 191 17 (q_or (M.1 191 17) (q_shl 1 w))) := Fr.rf.setI ⟨rfl, rfl⟩
  have ta : TS (setI M 191 17 (q_or (M.1 191 17) (q_shl 1 w))) B n i := h.fr hFa (fun k j a z => by omega)
  have la : LB (setI M 191 17 (q_or (M.1 191 17) (q_shl 1 w))) V l := hL.fr hFa (fun k j a z => by unfold LBc at a; omega)
  obtain ⟨N, t1, t2, t3⟩ := ta.next
  refine ⟨N, t1, (hFa.mono (fun k j z => by unfold StW; omega)).trans (t2.mono NF_StW), t3, la.nf t2, fun x hx => ?_⟩
  rw [nf17 t2, sI_self, told_or w0 (by omega) (by omega) (by omega), hT x hx]
theorem LnO.ofE {M N : Mem} {l : Int} {r : LR} {x : Option Mem} (hF : Fr StW M N) (h : LnO N B n l r x) : ∃ P, x = some P ∧ LnO M B n l r (some P) := by
  obtain ⟨P, p1, p2, p3⟩ := h
  exact ⟨P, p1, P, rfl, hF.trans p2, p3⟩
theorem flt_L110 {M : Mem} (h : ¬ M.1 191 24 = 0) (w : Int) : t_MO_line_L110 M w = some M := by unfold t_MO_line_L110; rw [if_neg h]
theorem m_aLine {M : Mem} {V : TV} {l : Int} {i : Nat} (h : TS M B n i) (hL : LB M V l) (hT : TBd M V) (hP : POK V) (l0 : 0 ≤ l) (l1 : l ≤ 1000) : LnE M B n l (leS B n V i) (t_MO_line M) := by
  have hkk := h.kok
  have hv := hP.1.1
  have hq := hP.2.2
  unfold t_MO_line
  by_cases k8 : tK B n i ≤ 7
  · have sw := (srt_word h.2.1 hkk (tK B n i) (by omega) (by omega)).mpr rfl
    rw [if_pos sw.1, sw.2, if_pos k8, m_isFull hL, obind_some]
    simp (config := { proj := false }) only [qlet]
    have told : ∀ x, tdx x → t_MO_isTold M x = if td V x = true then 1 else 0 := fun x hx => by rw [m_isTold M (by omega) (by omega), hT x hx]
    have bad : ∀ f, ¬ f = 0 → lnS B n V i = (f, tP B n i, 0, V) → ∀ w, LnE M B n l (leS B n V i) (t_MO_line_L110 (t_MO_wrong M f) w) := by
      intro f hf e w
      obtain ⟨w1, w2⟩ := h.wrong hf
      rw [flt_L110 w2.nz, le_bad e hf]
      exact LnE.bad (w1.mono NF_StW) w2
    have hw : tK B n i = 0 ∨ tK B n i = 1 ∨ tK B n i = 2 ∨ tK B n i = 3 ∨ tK B n i = 4 ∨ tK B n i = 5 ∨ tK B n i = 6 ∨ tK B n i = 7 := by omega
    have lnE : lnS B n V i = if tK B n i = 0 then (if V 0 13 = 1 then (3, tP B n i, 0, V) else if 0 < V 0 6 ∨ 0 < V 0 7 ∨ 0 < V 0 8 ∨ 0 < V 0 3 then (4, tP B n i, 0, V) else lnTown B n V i)
      else if tK B n i = 1 then (if V 0 2 = 4 then (2, tP B n i, 0, V) else lnWard B n V i)
      else if tK B n i = 2 then (if V 0 6 = 12 then (2, tP B n i, 0, V) else lnPart B n V i)
      else if tK B n i = 3 then (if V 0 7 = 12 then (2, tP B n i, 0, V) else lnWall B n V i)
      else if tK B n i = 4 then (if V 0 8 = 8 then (2, tP B n i, 0, V) else lnStair B n V i)
      else if tK B n i = 5 then (if V 0 3 = 8 then (2, tP B n i, 0, V) else lnThing B n V i)
      else if tK B n i = 6 then (if V 0 14 = 1 then (3, tP B n i, 0, V) else lnSeed B n V i)
      else if tK B n i = 7 then lnLaw B n V i
      else (1, tP B n i, 0, V) := rfl
    rcases hw with k | k | k | k | k | k | k | k
    · rw [k] at lnE ⊢
      rw [if_pos rfl] at lnE
      rw [if_neg (show ¬ (((0 : Int) = 1 ∧ V 0 2 = 4) ∨ ((0 : Int) = 2 ∧ V 0 6 = 12) ∨ ((0 : Int) = 3 ∧ V 0 7 = 12) ∨ ((0 : Int) = 4 ∧ V 0 8 = 8) ∨ ((0 : Int) = 5 ∧ V 0 3 = 8)) by omega), if_pos rfl, if_pos rfl]
      unfold t_MO_line_L53 t_MO_line_L69 t_MO_line_L105
      simp (config := { proj := false }) only [qlet]
      rw [told 0 (by omega), told 2 (by omega), told 3 (by omega), told 4 (by omega), told 5 (by omega), show td V 0 = decide (V 0 13 = 1) from rfl, show td V 2 = decide (0 < V 0 6) from rfl, show td V 3 = decide (0 < V 0 7) from rfl, show td V 4 = decide (0 < V 0 8) from rfl, show td V 5 = decide (0 < V 0 3) from rfl]
      by_cases c : V 0 13 = 1
      · rw [if_pos c] at lnE
        rw [decide_eq_true c, if_neg (show ¬ (if true = true then (1 : Int) else 0) = 0 by decide)]
        exact bad 3 (by decide) lnE 0
      · rw [if_neg c] at lnE
        rw [decide_eq_false c, if_pos (show (if false = true then (1 : Int) else 0) = 0 from rfl), if_pos trivial]
        by_cases c2 : 0 < V 0 6
        · rw [if_pos (Or.inl c2)] at lnE
          rw [decide_eq_true c2, if_neg (show ¬ (if true = true then (1 : Int) else 0) = 0 by decide)]
          exact bad 4 (by decide) lnE 0
        · rw [decide_eq_false c2, if_pos (show (if false = true then (1 : Int) else 0) = 0 from rfl)]
          by_cases c3 : 0 < V 0 7
          · rw [if_pos (Or.inr (Or.inl c3))] at lnE
            rw [decide_eq_true c3, if_neg (show ¬ (if true = true then (1 : Int) else 0) = 0 by decide)]
            exact bad 4 (by decide) lnE 0
          · rw [decide_eq_false c3, if_pos (show (if false = true then (1 : Int) else 0) = 0 from rfl)]
            by_cases c4 : 0 < V 0 8
            · rw [if_pos (Or.inr (Or.inr (Or.inl c4)))] at lnE
              rw [decide_eq_true c4, if_neg (show ¬ (if true = true then (1 : Int) else 0) = 0 by decide)]
              exact bad 4 (by decide) lnE 0
            · rw [decide_eq_false c4, if_pos (show (if false = true then (1 : Int) else 0) = 0 from rfl)]
              by_cases c5 : 0 < V 0 3
              · rw [if_pos (Or.inr (Or.inr (Or.inr c5)))] at lnE
                rw [decide_eq_true c5, if_neg (show ¬ (if true = true then (1 : Int) else 0) = 0 by decide)]
                exact bad 4 (by decide) lnE 0
              · rw [if_neg (by omega)] at lnE
                rw [decide_eq_false c5, if_pos (show (if false = true then (1 : Int) else 0) = 0 from rfl)]
                obtain ⟨N1, p1, p2, p3, p4, p5⟩ := line_pre (w := 0) h hL hT (by omega) (by omega)
                obtain ⟨N, q1, q2⟩ := m_lnTown p3 p4 p5 hP (by omega)
                unfold t_MO_line_L110
                simp (config := { proj := false }) only [qlet]
                rw [if_pos h.2.2, p1, obind_some, if_pos trivial, q1]
                exact m_L274 l0 l1 lnE (LnO.from p2 q2)
    · rw [k] at lnE ⊢
      rw [if_neg (by decide), if_pos rfl] at lnE
      by_cases c : V 0 2 = 4
      · rw [if_pos c] at lnE
        rw [if_pos (Or.inl ⟨rfl, c⟩), if_neg (by decide)]
        exact bad 2 (by decide) lnE 1
      · rw [if_neg c] at lnE
        rw [if_neg (show ¬ (((1 : Int) = 1 ∧ V 0 2 = 4) ∨ ((1 : Int) = 2 ∧ V 0 6 = 12) ∨ ((1 : Int) = 3 ∧ V 0 7 = 12) ∨ ((1 : Int) = 4 ∧ V 0 8 = 8) ∨ ((1 : Int) = 5 ∧ V 0 3 = 8)) by omega), if_pos rfl, if_neg (by decide), if_neg (by decide)]
        unfold t_MO_line_L69
        rw [if_neg (by decide)]
        obtain ⟨N1, p1, p2, p3, p4, p5⟩ := line_pre (w := 1) h hL hT (by omega) (by omega)
        obtain ⟨N, q1, q2⟩ := LnO.ofE p2 (m_lnWard p3 p4 p5 hP (by omega))
        unfold t_MO_line_L110
        simp (config := { proj := false }) only [qlet]
        rw [if_pos h.2.2, p1, obind_some, if_neg (by decide), if_pos trivial, fr_of p4 (x := 2) (y := 2) (by omega), obind_some, q1, obind_some]
        exact m_L274 l0 l1 lnE q2
    · rw [k] at lnE ⊢
      rw [if_neg (by decide), if_neg (by decide), if_pos rfl] at lnE
      by_cases c : V 0 6 = 12
      · rw [if_pos c] at lnE
        rw [if_pos (Or.inr (Or.inl ⟨rfl, c⟩)), if_neg (by decide)]
        exact bad 2 (by decide) lnE 2
      · rw [if_neg c] at lnE
        rw [if_neg (show ¬ (((2 : Int) = 1 ∧ V 0 2 = 4) ∨ ((2 : Int) = 2 ∧ V 0 6 = 12) ∨ ((2 : Int) = 3 ∧ V 0 7 = 12) ∨ ((2 : Int) = 4 ∧ V 0 8 = 8) ∨ ((2 : Int) = 5 ∧ V 0 3 = 8)) by omega), if_pos rfl, if_neg (by decide), if_neg (by decide)]
        unfold t_MO_line_L69
        rw [if_neg (by decide)]
        obtain ⟨N1, p1, p2, p3, p4, p5⟩ := line_pre (w := 2) h hL hT (by omega) (by omega)
        obtain ⟨N, q1, q2⟩ := LnO.ofE p2 (m_lnPart p3 p4 p5 hP (by omega))
        unfold t_MO_line_L110
        simp (config := { proj := false }) only [qlet]
        rw [if_pos h.2.2, p1, obind_some, if_neg (by decide), if_neg (by decide), if_pos trivial, q1, obind_some]
        exact m_L274 l0 l1 lnE q2
    · rw [k] at lnE ⊢
      rw [if_neg (by decide), if_neg (by decide), if_neg (by decide), if_pos rfl] at lnE
      by_cases c : V 0 7 = 12
      · rw [if_pos c] at lnE
        rw [if_pos (Or.inr (Or.inr (Or.inl ⟨rfl, c⟩))), if_neg (by decide)]
        exact bad 2 (by decide) lnE 3
      · rw [if_neg c] at lnE
        rw [if_neg (show ¬ (((3 : Int) = 1 ∧ V 0 2 = 4) ∨ ((3 : Int) = 2 ∧ V 0 6 = 12) ∨ ((3 : Int) = 3 ∧ V 0 7 = 12) ∨ ((3 : Int) = 4 ∧ V 0 8 = 8) ∨ ((3 : Int) = 5 ∧ V 0 3 = 8)) by omega), if_pos rfl, if_neg (by decide), if_neg (by decide)]
        unfold t_MO_line_L69
        rw [if_neg (by decide)]
        obtain ⟨N1, p1, p2, p3, p4, p5⟩ := line_pre (w := 3) h hL hT (by omega) (by omega)
        obtain ⟨N, q1, q2⟩ := LnO.ofE p2 (m_lnWall p3 p4 p5 hP (by omega))
        unfold t_MO_line_L110
        simp (config := { proj := false }) only [qlet]
        rw [if_pos h.2.2, p1, obind_some, if_neg (by decide), if_neg (by decide), if_neg (by decide), if_pos trivial, q1, obind_some]
        exact m_L274 l0 l1 lnE q2
    · rw [k] at lnE ⊢
      rw [if_neg (by decide), if_neg (by decide), if_neg (by decide), if_neg (by decide), if_pos rfl] at lnE
      by_cases c : V 0 8 = 8
      · rw [if_pos c] at lnE
        rw [if_pos (Or.inr (Or.inr (Or.inr (Or.inl ⟨rfl, c⟩)))), if_neg (by decide)]
        exact bad 2 (by decide) lnE 4
      · rw [if_neg c] at lnE
        rw [if_neg (show ¬ (((4 : Int) = 1 ∧ V 0 2 = 4) ∨ ((4 : Int) = 2 ∧ V 0 6 = 12) ∨ ((4 : Int) = 3 ∧ V 0 7 = 12) ∨ ((4 : Int) = 4 ∧ V 0 8 = 8) ∨ ((4 : Int) = 5 ∧ V 0 3 = 8)) by omega), if_pos rfl, if_neg (by decide), if_neg (by decide)]
        unfold t_MO_line_L69
        rw [if_neg (by decide)]
        obtain ⟨N1, p1, p2, p3, p4, p5⟩ := line_pre (w := 4) h hL hT (by omega) (by omega)
        obtain ⟨N, q1, q2⟩ := LnO.ofE p2 (m_lnStair p3 p4 p5 hP (by omega))
        unfold t_MO_line_L110
        simp (config := { proj := false }) only [qlet]
        rw [if_pos h.2.2, p1, obind_some, if_neg (by decide), if_neg (by decide), if_neg (by decide), if_neg (by decide), if_pos trivial, q1, obind_some]
        exact m_L274 l0 l1 lnE q2
    · rw [k] at lnE ⊢
      rw [if_neg (by decide), if_neg (by decide), if_neg (by decide), if_neg (by decide), if_neg (by decide), if_pos rfl] at lnE
      by_cases c : V 0 3 = 8
      · rw [if_pos c] at lnE
        rw [if_pos (Or.inr (Or.inr (Or.inr (Or.inr ⟨rfl, c⟩)))), if_neg (by decide)]
        exact bad 2 (by decide) lnE 5
      · rw [if_neg c] at lnE
        rw [if_neg (show ¬ (((5 : Int) = 1 ∧ V 0 2 = 4) ∨ ((5 : Int) = 2 ∧ V 0 6 = 12) ∨ ((5 : Int) = 3 ∧ V 0 7 = 12) ∨ ((5 : Int) = 4 ∧ V 0 8 = 8) ∨ ((5 : Int) = 5 ∧ V 0 3 = 8)) by omega), if_pos rfl, if_neg (by decide), if_neg (by decide)]
        unfold t_MO_line_L69
        rw [if_neg (by decide)]
        obtain ⟨N1, p1, p2, p3, p4, p5⟩ := line_pre (w := 5) h hL hT (by omega) (by omega)
        obtain ⟨N, q1, q2⟩ := LnO.ofE p2 (m_lnThing p3 p4 p5 hP (by omega))
        unfold t_MO_line_L110
        simp (config := { proj := false }) only [qlet]
        rw [if_pos h.2.2, p1, obind_some, if_neg (by decide), if_neg (by decide), if_neg (by decide), if_neg (by decide), if_neg (by decide), if_pos trivial, fr_of p4 (x := 6) (y := 3) (by omega), obind_some, q1, obind_some]
        exact m_L274 l0 l1 lnE q2
    · rw [k] at lnE ⊢
      rw [if_neg (by decide), if_neg (by decide), if_neg (by decide), if_neg (by decide), if_neg (by decide), if_neg (by decide), if_pos rfl] at lnE
      rw [if_neg (show ¬ (((6 : Int) = 1 ∧ V 0 2 = 4) ∨ ((6 : Int) = 2 ∧ V 0 6 = 12) ∨ ((6 : Int) = 3 ∧ V 0 7 = 12) ∨ ((6 : Int) = 4 ∧ V 0 8 = 8) ∨ ((6 : Int) = 5 ∧ V 0 3 = 8)) by omega), if_pos rfl, if_neg (by decide), if_pos rfl]
      unfold t_MO_line_L53 t_MO_line_L69
      simp (config := { proj := false }) only [qlet]
      rw [told 6 (by omega), show td V 6 = decide (V 0 14 = 1) from rfl]
      by_cases c : V 0 14 = 1
      · rw [if_pos c] at lnE
        rw [decide_eq_true c, if_neg (show ¬ (if true = true then (1 : Int) else 0) = 0 by decide)]
        exact bad 3 (by decide) lnE 6
      · rw [if_neg c] at lnE
        rw [decide_eq_false c, if_pos (show (if false = true then (1 : Int) else 0) = 0 from rfl), if_neg (by decide)]
        obtain ⟨N1, p1, p2, p3, p4, p5⟩ := line_pre (w := 6) h hL hT (by omega) (by omega)
        obtain ⟨N, q1, q2⟩ := m_lnSeed p3 p4 p5 hP
        unfold t_MO_line_L110
        simp (config := { proj := false }) only [qlet]
        rw [if_pos h.2.2, p1, obind_some, if_neg (by decide), if_neg (by decide), if_neg (by decide), if_neg (by decide), if_neg (by decide), if_neg (by decide), if_pos trivial, q1]
        exact m_L274 l0 l1 lnE (LnO.from p2 q2)
    · rw [k] at lnE ⊢
      rw [if_neg (by decide), if_neg (by decide), if_neg (by decide), if_neg (by decide), if_neg (by decide), if_neg (by decide), if_neg (by decide), if_pos rfl] at lnE
      rw [if_neg (show ¬ (((7 : Int) = 1 ∧ V 0 2 = 4) ∨ ((7 : Int) = 2 ∧ V 0 6 = 12) ∨ ((7 : Int) = 3 ∧ V 0 7 = 12) ∨ ((7 : Int) = 4 ∧ V 0 8 = 8) ∨ ((7 : Int) = 5 ∧ V 0 3 = 8)) by omega), if_pos rfl, if_neg (by decide), if_neg (by decide)]
      unfold t_MO_line_L69
      rw [if_neg (by decide)]
      obtain ⟨N1, p1, p2, p3, p4, p5⟩ := line_pre (w := 7) h hL hT (by omega) (by omega)
      obtain ⟨N, q1, q2⟩ := LnO.ofE p2 (m_lnLaw p3 p4 p5 hP)
      unfold t_MO_line_L110
      simp (config := { proj := false }) only [qlet]
      rw [if_pos h.2.2, p1, obind_some, if_neg (by decide), if_neg (by decide), if_neg (by decide), if_neg (by decide), if_neg (by decide), if_neg (by decide), if_neg (by decide), q1, obind_some]
      exact m_L274 l0 l1 lnE q2
  · have e : lnS B n V i = (1, tP B n i, 0, V) := by
      unfold lnS
      rw [if_neg (by omega), if_neg (by omega), if_neg (by omega), if_neg (by omega), if_neg (by omega), if_neg (by omega), if_neg (by omega), if_neg (by omega)]
    obtain ⟨w1, w2⟩ := h.wrong (k := 1) (by decide)
    have fin : LnE M B n l (leS B n V i) (t_MO_line_L16 M) := by
      rw [le_bad e (show ¬ (1 : Int) = 0 by decide)]
      exact LnE.bad (w1.mono NF_StW) w2
    by_cases z : M.1 191 22 = 0
    · have h3 : srtV (tK B n i) = 0 := h.2.1.2.2.1.symm.trans z
      have k24 : tK B n i ≤ 24 := by
        unfold srtV at h3
        by_cases q : tK B n i ≤ 24
        · exact q
        · rw [if_neg q] at h3
          exfalso
          revert h3
          (repeat' split) <;> (intro h3; omega)
      have sw := (srt_word h.2.1 hkk (tK B n i) (by omega) (by omega)).mpr rfl
      rw [if_pos z, if_neg (show ¬ M.1 191 23 ≤ 7 by rw [sw.2]; exact k8)]
      exact fin
    · rw [if_neg z]; exact fin
end LI
end
