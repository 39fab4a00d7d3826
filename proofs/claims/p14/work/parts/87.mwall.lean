/-! ===== lines: walls, stairs ===== -/
section LC
variable {B : Int → Int} {n : Int}
theorem cell_rng {V : TV} (hV : VOK V) {x y : Int} (x0 : 0 ≤ x) (x1 : x ≤ V 0 0 - 1) (y0 : 0 ≤ y) (y1 : y ≤ V 0 1 - 1) : 0 ≤ y * V 0 0 + x ∧ y * V 0 0 + x < cellsV V ∧ y * V 0 0 ≤ 48 ∧ 0 ≤ y * V 0 0 := by
  obtain ⟨⟨a1, a2, a3, a4, -⟩, -⟩ := hV
  unfold cellsV
  generalize V 0 0 = w at *
  generalize V 0 1 = g at *
  have hy : y = 0 ∨ y = 1 ∨ y = 2 ∨ y = 3 ∨ y = 4 ∨ y = 5 := by omega
  have hw : w = 1 ∨ w = 2 ∨ w = 3 ∨ w = 4 ∨ w = 5 ∨ w = 6 ∨ w = 7 ∨ w = 8 := by omega
  rcases hw with rfl | rfl | rfl | rfl | rfl | rfl | rfl | rfl <;> omega
theorem m_cellAtHand {M : Mem} {V : TV} {l : Int} {i : Nat} (h : TS M B n i) (hL : LB M V l) (hP : POK V) :
    (nuS B n i 0 (V 0 0 - 1) = 0 ∧ nuS B n (i + 1) 0 (V 0 1 - 1) = 0 ∧ (0 ≤ tW B n (i + 1) * V 0 0 + tW B n i ∧ tW B n (i + 1) * V 0 0 + tW B n i < cellsV V) ∧ ∃ N, t_MO_cellAtHand M = some (N, tW B n (i + 1) * V 0 0 + tW B n i) ∧ Fr NF M N ∧ TS N B n (i + 1)) ∨
    (∃ f p : Int, ∃ N c, t_MO_cellAtHand M = some (N, c) ∧ Fr NF M N ∧ FS N f p ∧ ∀ k, clS B n V i k = (f, p, 0, V)) := by
  have hv := hP.1.1
  have hC := hP.1.cells
  have w9 : ∀ N, Fr NF M N → N.1 193 (9 + 0) = V 0 0 ∧ N.1 193 (9 + 1) = V 0 1 := fun N q => ⟨((q 193 (9 + 0) (by unfold NF; omega)).1).trans (hL.1.sc (j := 9) (x := 0) (by omega)), ((q 193 (9 + 1) (by unfold NF; omega)).1).trans (hL.1.sc (j := 10) (x := 1) (by omega))⟩
  unfold t_MO_cellAtHand clS
  simp (config := { proj := false }) only [m_fresher (show (0 : Int) ≤ 0 by omega) (show (0 : Int) < 9 by omega), m_fresher (show (0 : Int) ≤ 1 by omega) (show (1 : Int) < 9 by omega), obind_some, qlet]
  rw [(w9 M Fr.rf).1, w32_id (x := V 0 0 - 1) (by unfold InR; omega)]
  rcases m_numeral h (lo := 0) (hi := V 0 0 - 1) (by omega) (by omega) (by omega) with ⟨a0, a1, N1, n1, n2, n3⟩ | ⟨N1, n1, n2, n3⟩
  · rw [n1, obind_some, (w9 N1 n2).2, w32_id (x := V 0 1 - 1) (by unfold InR; omega)]
    rcases m_numAt n3 (lo := 0) (hi := V 0 1 - 1) (by omega) (by omega) (by omega) with ⟨b0, b1, b2, b3⟩ | ⟨N2, b1, b2, b3⟩
    · have cr := cell_rng hP.1 a1.1 a1.2 b2 b3
      rw [b1]
      show _ ∨ _
      left
      refine ⟨a0, b0, ⟨cr.1, cr.2.1⟩, N1, ?_, n2, n3⟩
      show some (N1, w32 (w32 (tW B n (i + 1) * N1.1 193 (9 + 0)) + tW B n i)) = _
      rw [(w9 N1 n2).1, w32_id (x := tW B n (i + 1) * V 0 0) (by unfold InR; omega), w32_id (by unfold InR; omega)]
    · rw [b1]
      right
      exact ⟨_, _, N2, _, rfl, n2.trans b2, b3, fun k => by rw [if_neg (fun q => q a0), if_pos b3.1]⟩
  · rw [n1, obind_some]
    right
    refine ⟨_, _, (t_MO_numeralAtHand N1 0 (w32 (N1.1 193 (9 + 1) - 1))).1, _, rfl, ?_, ?_, fun k => by rw [if_pos n3.1]⟩
    · rw [flt_numAt n3.nz]; exact n2
    · rw [flt_numAt n3.nz]; exact n3
theorem m_hasThing {M : Mem} {V : TV} {l c : Int} (hL : LB M V l) (hP : POK V) : t_MO_hasThing M c = some (if fnd (fun a => V 6 (a : Int)) c (V 0 3).toNat = none then 0 else 1) := by
  have hv := hP.1.1
  have h15 : M.1 193 (9 + 6) = V 0 3 := hL.1.sc (j := 15) (x := 3) (by omega)
  have lp : ∀ (m t fu : Nat), (t : Int) + (m : Int) = V 0 3 → m < fu → (∀ b : Nat, b < t → V 6 (b : Int) ≠ c) → t_MO_hasThing_L2 c fu M (t : Int) = some (if fnd (fun a => V 6 (a : Int)) c (V 0 3).toNat = none then 0 else 1) := by
    intro m
    induction m with
    | zero =>
      intro t fu g0 g1 hb
      obtain ⟨g, rfl⟩ : ∃ g, fu = g + 1 := ⟨fu - 1, by omega⟩
      rw [t_MO_hasThing_L2, m_fresher (by omega) (by omega), obind_some, h15, if_pos (by omega)]
      cases e : fnd (fun a => V 6 (a : Int)) c (V 0 3).toNat with
      | none => rw [if_pos rfl]
      | some b => have := fnd_some e; exact absurd this.2.1 (hb b (by omega))
    | succ m ih =>
      intro t fu g0 g1 hb
      obtain ⟨g, rfl⟩ : ∃ g, fu = g + 1 := ⟨fu - 1, by omega⟩
      rw [t_MO_hasThing_L2, m_fresher (by omega) (by omega), obind_some, h15, if_neg (by omega), w32_id (x := 8 + (t : Int)) (by unfold InR; omega), qguard_pos ⟨by omega, by omega⟩, (hL.1.2.2.1 (t : Int) (by omega) (by omega)).2.2, w32_succ (by omega)]
      by_cases e : V 6 (t : Int) = c
      · rw [if_pos e, if_neg (fun q => fnd_none q t (by omega) e)]
      · rw [if_neg e]
        exact ih (t + 1) g (by omega) (by omega) (fun b hb2 => by
          by_cases q : b = t
          · rw [q]; exact e
          · exact hb b (by omega))
  exact lp (V 0 3).toNat 0 FU (by omega) (fu_big (by omega)) (fun b hb => by omega)
/-- one more wall: what is written -/
theorem m_wall_L61 {M : Mem} {V : TV} {l c : Int} {i : Nat} (h : TS M B n (i + 2)) (hL : LB M V l) (hT : TBw M V 3) (hP : POK V) (h7 : V 0 7 < 12) (c0 : 0 ≤ c) (c1 : c < 48) : LnO M B n l (0, 0, i + 3, setV (setV V 8 c 1) 0 7 (V 0 7 + 1)) (t_MO_wallLine_L61 M c) := by
  have hq := hP.2.2
  unfold t_MO_wallLine_L61
  rw [if_pos h.2.2, w32_id (x := 48 + c) (by unfold InR; omega), qguard_pos ⟨by omega, by omega⟩]
  simp (config := { proj := false }) only [qlet, m_fresher (show (0 : Int) ≤ 4 by omega) (show (4 : Int) < 9 by omega), m_reads (show (0 : Int) ≤ 4 by omega) (show (4 : Int) < 9 by omega), obind_some]
  have e13 : (setI M 198 (48 + c) 1).1 193 (9 + 4) = V 0 7 := by rw [sI_ne (by omega)]; exact hL.1.sc (j := 13) (x := 7) (by omega)
  rw [e13, w32_id (x := V 0 7 + 1) (by unfold InR; omega)]
  have hF : Fr (fun k j => (k = 198 ∧ j = 48 + c) ∨ (k = 193 ∧ j = 13)) M (setI (setI M 198 (48 + c) 1) 193 13 (V 0 7 + 1)) := (Fr.rf.setI (Or.inl ⟨rfl, rfl⟩)).setI (Or.inr ⟨rfl, rfl⟩)
  obtain ⟨N, n1, n2, n3⟩ := (h.fr hF (fun k j a z => by omega)).next
  have n1' : t_MO_token (setI (setI M 198 (48 + c) 1) 193 (9 + 4) (V 0 7 + 1)) = some N := n1
  rw [n1', obind_some]
  have fin : Fr StW M N := (hF.mono (fun k j z => by unfold StW; omega)).trans (n2.mono NF_StW)
  have e : ∀ k j, LBc k j → N.1 k j = (setI (setI M 198 (48 + c) 1) 193 13 (V 0 7 + 1)).1 k j := fun k j a => (n2 k j (NF_LBc k j a)).1
  have e2 : ∀ k j, LBc k j → ¬ ((k = 198 ∧ j = 48 + c) ∨ (k = 193 ∧ j = 13)) → N.1 k j = M.1 k j := fun k j a b => (e k j a).trans (hF k j b).1
  refine ⟨N, rfl, fin, Or.inl ⟨rfl, n3, ?_, ?_⟩⟩
  · refine hL.upd e2 (fun k j z => by omega) (fun j x hj => ?_) (fun w a b => ?_) (fun t a b => ?_) (fun q a b => ?_) rfl rfl rfl (fun r i hr => ?_)
    · show _ = setV (setV V 8 c 1) 0 7 (V 0 7 + 1) 0 x
      by_cases z : j = 13
      · have hx : x = 7 := by omega
        subst z; subst hx
        rw [e 193 13 (by unfold LBc; omega), sI_self, setV_self]
      · rw [e2 193 j (by unfold LBc; omega) (by omega), setV_ne _ _ (by omega), setV_ne _ _ (by omega)]
        exact hL.1.sc hj
    · rw [e2 194 _ (by unfold LBc; omega) (by omega), e2 195 _ (by unfold LBc; omega) (by omega), e2 196 _ (by unfold LBc; omega) (by omega)]
      exact hL.1.2.1 w a b
    · rw [e2 200 _ (by unfold LBc; omega) (by omega), e2 201 _ (by unfold LBc; omega) (by omega), e2 202 _ (by unfold LBc; omega) (by omega)]
      exact hL.1.2.2.1 t a b
    · have z := hL.1.2.2.2 q a b
      show N.1 197 (48 + q) = setV (setV V 8 c 1) 0 7 (V 0 7 + 1) 7 q + 1 ∧ N.1 198 (48 + q) = setV (setV V 8 c 1) 0 7 (V 0 7 + 1) 8 q ∧ N.1 199 (48 + q) = setV (setV V 8 c 1) 0 7 (V 0 7 + 1) 9 q
      rw [e2 197 _ (by unfold LBc; omega) (by omega), e2 199 _ (by unfold LBc; omega) (by omega)]
      refine ⟨z.1, ?_, z.2.2⟩
      by_cases y : q = c
      · subst y
        rw [e 198 _ (by unfold LBc; omega), sI_ne (by omega), sI_self, setV_ne _ _ (by omega), setV_self]
      · rw [e2 198 _ (by unfold LBc; omega) (by omega), setV_ne _ _ (by omega), setV_ne _ _ (by omega)]
        exact z.2.1
    · show setV (setV V 8 c 1) 0 7 (V 0 7 + 1) r i = V r i
      rw [setV_ne _ _ (by omega), setV_ne _ _ (by omega)]
  · refine hT.done fin ?_ (td_of (kw := 7) (fun k a b => ?_) (by omega) (fun _ => ?_))
    · rw [nf17 n2, sI_ne (by omega), sI_ne (by omega)]
    · show setV (setV V 8 c 1) 0 7 (V 0 7 + 1) 0 k = V 0 k
      rw [setV_ne _ _ (by omega), setV_ne _ _ (by omega)]
    · show decide (0 < setV (setV V 8 c 1) 0 7 (V 0 7 + 1) 0 7) = true
      rw [setV_self]; exact decide_eq_true (by omega)
theorem m_stair_L53 {M : Mem} {V : TV} {l c : Int} {i : Nat} (h : TS M B n (i + 2)) (hL : LB M V l) (hT : TBw M V 4) (hP : POK V) (h7 : V 0 8 < 8) (c0 : 0 ≤ c) (c1 : c < 48) : LnO M B n l (0, 0, i + 3, setV (setV V 9 c 1) 0 8 (V 0 8 + 1)) (t_MO_stairLine_L53 M c) := by
  have hq := hP.2.2
  unfold t_MO_stairLine_L53
  rw [if_pos h.2.2, w32_id (x := 48 + c) (by unfold InR; omega), qguard_pos ⟨by omega, by omega⟩]
  simp (config := { proj := false }) only [qlet, m_fresher (show (0 : Int) ≤ 5 by omega) (show (5 : Int) < 9 by omega), m_reads (show (0 : Int) ≤ 5 by omega) (show (5 : Int) < 9 by omega), obind_some]
  have e13 : (setI M 199 (48 + c) 1).1 193 (9 + 5) = V 0 8 := by rw [sI_ne (by omega)]; exact hL.1.sc (j := 14) (x := 8) (by omega)
  rw [e13, w32_id (x := V 0 8 + 1) (by unfold InR; omega)]
  have hF : Fr (fun k j => (k = 199 ∧ j = 48 + c) ∨ (k = 193 ∧ j = 14)) M (setI (setI M 199 (48 + c) 1) 193 14 (V 0 8 + 1)) := (Fr.rf.setI (Or.inl ⟨rfl, rfl⟩)).setI (Or.inr ⟨rfl, rfl⟩)
  obtain ⟨N, n1, n2, n3⟩ := (h.fr hF (fun k j a z => by omega)).next
  have n1' : t_MO_token (setI (setI M 199 (48 + c) 1) 193 (9 + 5) (V 0 8 + 1)) = some N := n1
  rw [n1', obind_some]
  have fin : Fr StW M N := (hF.mono (fun k j z => by unfold StW; omega)).trans (n2.mono NF_StW)
  have e : ∀ k j, LBc k j → N.1 k j = (setI (setI M 199 (48 + c) 1) 193 14 (V 0 8 + 1)).1 k j := fun k j a => (n2 k j (NF_LBc k j a)).1
  have e2 : ∀ k j, LBc k j → ¬ ((k = 199 ∧ j = 48 + c) ∨ (k = 193 ∧ j = 14)) → N.1 k j = M.1 k j := fun k j a b => (e k j a).trans (hF k j b).1
  refine ⟨N, rfl, fin, Or.inl ⟨rfl, n3, ?_, ?_⟩⟩
  · refine hL.upd e2 (fun k j z => by omega) (fun j x hj => ?_) (fun w a b => ?_) (fun t a b => ?_) (fun q a b => ?_) rfl rfl rfl (fun r i hr => ?_)
    · show _ = setV (setV V 9 c 1) 0 8 (V 0 8 + 1) 0 x
      by_cases z : j = 14
      · have hx : x = 8 := by omega
        subst z; subst hx
        rw [e 193 14 (by unfold LBc; omega), sI_self, setV_self]
      · rw [e2 193 j (by unfold LBc; omega) (by omega), setV_ne _ _ (by omega), setV_ne _ _ (by omega)]
        exact hL.1.sc hj
    · rw [e2 194 _ (by unfold LBc; omega) (by omega), e2 195 _ (by unfold LBc; omega) (by omega), e2 196 _ (by unfold LBc; omega) (by omega)]
      exact hL.1.2.1 w a b
    · rw [e2 200 _ (by unfold LBc; omega) (by omega), e2 201 _ (by unfold LBc; omega) (by omega), e2 202 _ (by unfold LBc; omega) (by omega)]
      exact hL.1.2.2.1 t a b
    · have z := hL.1.2.2.2 q a b
      show N.1 197 (48 + q) = setV (setV V 9 c 1) 0 8 (V 0 8 + 1) 7 q + 1 ∧ N.1 198 (48 + q) = setV (setV V 9 c 1) 0 8 (V 0 8 + 1) 8 q ∧ N.1 199 (48 + q) = setV (setV V 9 c 1) 0 8 (V 0 8 + 1) 9 q
      rw [e2 197 _ (by unfold LBc; omega) (by omega), e2 198 _ (by unfold LBc; omega) (by omega)]
      refine ⟨z.1, z.2.1, ?_⟩
      by_cases y : q = c
      · subst y
        rw [e 199 _ (by unfold LBc; omega), sI_ne (by omega), sI_self, setV_ne _ _ (by omega), setV_self]
      · rw [e2 199 _ (by unfold LBc; omega) (by omega), setV_ne _ _ (by omega), setV_ne _ _ (by omega)]
        exact z.2.2
    · show setV (setV V 9 c 1) 0 8 (V 0 8 + 1) r i = V r i
      rw [setV_ne _ _ (by omega), setV_ne _ _ (by omega)]
  · refine hT.done fin ?_ (td_of (kw := 8) (fun k a b => ?_) (by omega) (fun _ => ?_))
    · rw [nf17 n2, sI_ne (by omega), sI_ne (by omega)]
    · show setV (setV V 9 c 1) 0 8 (V 0 8 + 1) 0 k = V 0 k
      rw [setV_ne _ _ (by omega), setV_ne _ _ (by omega)]
    · show decide (0 < setV (setV V 9 c 1) 0 8 (V 0 8 + 1) 0 8) = true
      rw [setV_self]; exact decide_eq_true (by omega)
theorem LnO.from {M N : Mem} {l : Int} {r : LR} {x : Option Mem} (hF : Fr StW M N) (h : LnO N B n l r x) : LnO M B n l r x := by
  obtain ⟨O, o1, o2, o3⟩ := h
  exact ⟨O, o1, hF.trans o2, o3⟩
theorem TBw.nf {M N : Mem} {V : TV} {w : Int} (h : TBw M V w) (hF : Fr NF M N) : TBw N V w := fun x hx => by rw [nf17 hF]; exact h x hx
theorem m_lnWall {M : Mem} {V : TV} {l : Int} {i : Nat} (h : TS M B n (i + 1)) (hL : LB M V l) (hT : TBw M V 3) (hP : POK V) (h7 : V 0 7 < 12) : LnO M B n l (lnWall B n V i) (t_MO_wallLine M) := by
  have hC := hP.1.cells
  unfold lnWall t_MO_wallLine
  rcases m_cellAtHand h hL hP with ⟨a0, a1, a2, N, n1, n2, n3⟩ | ⟨f, p, N, c, n1, n2, n3, n4⟩
  · rw [n1, obind_some]
    unfold clS
    rw [if_neg (fun q => q a0), if_neg (fun q => q a1)]
    generalize tW B n (i + 1 + 1) * V 0 0 + tW B n (i + 1) = c at *
    have hLN := hL.nf n2
    have hc := hP.1.2.2.2 c a2.1 (by omega)
    have z := hLN.1.2.2.2 c a2.1 (by omega)
    have f0 := n2.mono NF_StW
    show LnO M B n l _ (if N.1 191 24 = 0 then qguard (0 ≤ w32 (48 + c) ∧ w32 (48 + c) < 96) (if N.1 198 (w32 (48 + c)) = 0 then t_MO_wallLine_L29 N c else qlet (t_MO_wrong N 3) fun q8 => t_MO_wallLine_L29 q8 c) else t_MO_wallLine_L29 N c)
    rw [if_pos n3.2.2, w32_id (x := 48 + c) (by unfold InR; omega), qguard_pos ⟨by omega, by omega⟩, z.2.1]
    unfold t_MO_wallLine_L29 t_MO_wallLine_L56
    simp (config := { proj := false }) only [qlet]
    rw [w32_id (x := 48 + c) (by unfold InR; omega)]
    by_cases e8 : V 8 c = 0
    · rw [if_pos e8, if_neg (fun q => q e8), if_pos n3.2.2, qguard_pos ⟨by omega, by omega⟩, z.2.2, m_hasThing hLN hP, obind_some]
      obtain ⟨w1, w2⟩ := n3.wrong (k := 5) (by decide)
      have bad : LnO M B n l (5, tP B n (i + 2), 0, V) (t_MO_wallLine_L61 (t_MO_wrong N 5) c) := by
        unfold t_MO_wallLine_L61
        rw [if_neg w2.nz]
        exact LnO.bad (f0.trans (w1.mono NF_StW)) w2
      by_cases e9 : V 9 c = 0
      · rw [if_pos e9]
        by_cases et : fnd (fun a => V 6 (a : Int)) c (V 0 3).toNat = none
        · rw [if_pos et, if_pos rfl, if_neg (fun q => q.elim (fun y => y e9) (fun y => y et))]
          exact LnO.from f0 (m_wall_L61 n3 hLN (hT.nf n2) hP h7 a2.1 (by omega))
        · rw [if_neg et, if_neg (show ¬ (1 : Int) = 0 by decide), if_pos (show ¬ V 9 c = 0 ∨ fnd (fun a => V 6 (a : Int)) c (V 0 3).toNat ≠ none from Or.inr et)]
          exact bad
      · rw [if_neg e9, if_pos (Or.inl e9)]
        exact bad
    · obtain ⟨w1, w2⟩ := n3.wrong (k := 3) (by decide)
      rw [if_neg e8, if_pos e8, if_neg w2.nz]
      unfold t_MO_wallLine_L61
      rw [if_neg w2.nz]
      exact LnO.bad (f0.trans (w1.mono NF_StW)) w2
  · rw [n1, obind_some, n4]
    show LnO M B n l _ (if N.1 191 24 = 0 then _ else t_MO_wallLine_L29 N c)
    unfold t_MO_wallLine_L29 t_MO_wallLine_L61
    rw [if_neg n3.nz, if_neg n3.nz, if_neg n3.nz]
    exact LnO.bad (n2.mono NF_StW) n3
theorem m_lnStair {M : Mem} {V : TV} {l : Int} {i : Nat} (h : TS M B n (i + 1)) (hL : LB M V l) (hT : TBw M V 4) (hP : POK V) (h7 : V 0 8 < 8) : LnO M B n l (lnStair B n V i) (t_MO_stairLine M) := by
  have hC := hP.1.cells
  unfold lnStair t_MO_stairLine
  rcases m_cellAtHand h hL hP with ⟨a0, a1, a2, N, n1, n2, n3⟩ | ⟨f, p, N, c, n1, n2, n3, n4⟩
  · rw [n1, obind_some]
    unfold clS
    rw [if_neg (fun q => q a0), if_neg (fun q => q a1)]
    generalize tW B n (i + 1 + 1) * V 0 0 + tW B n (i + 1) = c at *
    have hLN := hL.nf n2
    have z := hLN.1.2.2.2 c a2.1 (by omega)
    have f0 := n2.mono NF_StW
    show LnO M B n l _ (if N.1 191 24 = 0 then qguard (0 ≤ w32 (48 + c) ∧ w32 (48 + c) < 96) (if N.1 199 (w32 (48 + c)) = 0 then t_MO_stairLine_L29 N c else qlet (t_MO_wrong N 3) fun q8 => t_MO_stairLine_L29 q8 c) else t_MO_stairLine_L29 N c)
    rw [if_pos n3.2.2, w32_id (x := 48 + c) (by unfold InR; omega), qguard_pos ⟨by omega, by omega⟩, z.2.2]
    unfold t_MO_stairLine_L29
    simp (config := { proj := false }) only [qlet]
    rw [w32_id (x := 48 + c) (by unfold InR; omega)]
    by_cases e8 : V 9 c = 0
    · rw [if_pos e8, if_neg (fun q => q e8), if_pos n3.2.2, qguard_pos ⟨by omega, by omega⟩, z.2.1]
      by_cases e9 : V 8 c = 0
      · rw [if_pos e9, if_neg (fun q => q e9)]
        exact LnO.from f0 (m_stair_L53 n3 hLN (hT.nf n2) hP h7 a2.1 (by omega))
      · obtain ⟨w1, w2⟩ := n3.wrong (k := 5) (by decide)
        rw [if_neg e9, if_pos e9]
        unfold t_MO_stairLine_L53
        rw [if_neg w2.nz]
        exact LnO.bad (f0.trans (w1.mono NF_StW)) w2
    · obtain ⟨w1, w2⟩ := n3.wrong (k := 3) (by decide)
      rw [if_neg e8, if_pos e8, if_neg w2.nz]
      unfold t_MO_stairLine_L53
      rw [if_neg w2.nz]
      exact LnO.bad (f0.trans (w1.mono NF_StW)) w2
  · rw [n1, obind_some, n4]
    show LnO M B n l _ (if N.1 191 24 = 0 then _ else t_MO_stairLine_L29 N c)
    unfold t_MO_stairLine_L29 t_MO_stairLine_L53
    rw [if_neg n3.nz, if_neg n3.nz, if_neg n3.nz]
    exact LnO.bad (n2.mono NF_StW) n3
end LC
