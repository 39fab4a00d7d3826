/-! ===== lines: things, seed, parts, laws ===== -/
section LT
variable {B : Int → Int} {n : Int}
/-- one more thing: the last of what is written -/
theorem m_thing_L72 {M0 M : Mem} {V : TV} {l c nm wo : Int} {i : Nat} (h : TS M B n (i + 4)) (hL : LB M0 V l) (hT : TBw M0 V 5) (hP : POK V) (h3 : V 0 3 < 8) (c0 : 0 ≤ c) (c1 : c < 48) (hF0 : Fr (fun k j => NF k j ∨ ((k = 200 ∨ k = 201) ∧ j = 8 + V 0 3)) M0 M) (hnm : M.1 200 (8 + V 0 3) = nm) (hwo : M.1 201 (8 + V 0 3) = wo) :
    LnO M0 B n l (0, 0, i + 5, setV (setV (setV (setV V 4 (V 0 3) nm) 5 (V 0 3) wo) 6 (V 0 3) c) 0 3 (V 0 3 + 1)) (t_MO_thingLine_L72 (8 + V 0 3) M c) := by
  have hv := hP.1.1
  unfold t_MO_thingLine_L72
  rw [if_pos h.2.2, qguard_pos ⟨by omega, by omega⟩]
  simp (config := { proj := false }) only [qlet, m_fresher (show (0 : Int) ≤ 6 by omega) (show (6 : Int) < 9 by omega), m_reads (show (0 : Int) ≤ 6 by omega) (show (6 : Int) < 9 by omega), obind_some]
  have e15 : (setI M 202 (8 + V 0 3) c).1 193 (9 + 6) = V 0 3 := by rw [sI_ne (by omega), (hF0 193 (9 + 6) (by unfold NF; omega)).1]; exact hL.1.sc (j := 15) (x := 3) (by omega)
  rw [e15, w32_id (x := V 0 3 + 1) (by unfold InR; omega)]
  have hF : Fr (fun k j => (k = 202 ∧ j = 8 + V 0 3) ∨ (k = 193 ∧ j = 15)) M (setI (setI M 202 (8 + V 0 3) c) 193 15 (V 0 3 + 1)) := (Fr.rf.setI (Or.inl ⟨rfl, rfl⟩)).setI (Or.inr ⟨rfl, rfl⟩)
  obtain ⟨N, n1, n2, n3⟩ := (h.fr hF (fun k j a z => by omega)).next
  have n1' : t_MO_token (setI (setI M 202 (8 + V 0 3) c) 193 (9 + 6) (V 0 3 + 1)) = some N := n1
  rw [n1', obind_some]
  have fin : Fr StW M0 N := ((hF0.mono (fun k j z => z.elim (NF_StW k j) (fun y => by unfold StW; omega))).trans (hF.mono (fun k j z => by unfold StW; omega))).trans (n2.mono NF_StW)
  have e : ∀ k j, LBc k j → N.1 k j = (setI (setI M 202 (8 + V 0 3) c) 193 15 (V 0 3 + 1)).1 k j := fun k j a => (n2 k j (NF_LBc k j a)).1
  have e2 : ∀ k j, LBc k j → ¬ (((k = 200 ∨ k = 201 ∨ k = 202) ∧ j = 8 + V 0 3) ∨ (k = 193 ∧ j = 15)) → N.1 k j = M0.1 k j := fun k j a b => ((e k j a).trans (hF k j (by omega)).1).trans (hF0 k j (fun z => z.elim (NF_LBc k j a) (fun y => b (by omega)))).1
  refine ⟨N, rfl, fin, Or.inl ⟨rfl, n3, ?_, ?_⟩⟩
  · refine hL.upd e2 (fun k j z => by omega) (fun j x hj => ?_) (fun w a b => ?_) (fun t a b => ?_) (fun q a b => ?_) rfl rfl rfl (fun r i hr => ?_)
    · show _ = setV (setV (setV (setV V 4 (V 0 3) nm) 5 (V 0 3) wo) 6 (V 0 3) c) 0 3 (V 0 3 + 1) 0 x
      by_cases z : j = 15
      · have hx : x = 3 := by omega
        subst z; subst hx
        rw [e 193 15 (by unfold LBc; omega), sI_self, setV_self]
      · rw [e2 193 j (by unfold LBc; omega) (by omega), setV_ne _ _ (by omega), setV_ne _ _ (by omega), setV_ne _ _ (by omega), setV_ne _ _ (by omega)]
        exact hL.1.sc hj
    · rw [e2 194 _ (by unfold LBc; omega) (by omega), e2 195 _ (by unfold LBc; omega) (by omega), e2 196 _ (by unfold LBc; omega) (by omega)]
      exact hL.1.2.1 w a b
    · have b' : t < V 0 3 + 1 := by
        have b : t < setV (setV (setV (setV V 4 (V 0 3) nm) 5 (V 0 3) wo) 6 (V 0 3) c) 0 3 (V 0 3 + 1) 0 3 := b
        rw [setV_self] at b; exact b
      show N.1 200 (8 + t) = setV (setV (setV (setV V 4 (V 0 3) nm) 5 (V 0 3) wo) 6 (V 0 3) c) 0 3 (V 0 3 + 1) 4 t ∧ N.1 201 (8 + t) = setV (setV (setV (setV V 4 (V 0 3) nm) 5 (V 0 3) wo) 6 (V 0 3) c) 0 3 (V 0 3 + 1) 5 t ∧ N.1 202 (8 + t) = setV (setV (setV (setV V 4 (V 0 3) nm) 5 (V 0 3) wo) 6 (V 0 3) c) 0 3 (V 0 3 + 1) 6 t
      by_cases q : t = V 0 3
      · subst q
        refine ⟨?_, ?_, ?_⟩
        · rw [setV_ne _ _ (by omega), setV_ne _ _ (by omega), setV_ne _ _ (by omega), setV_self, e 200 _ (by unfold LBc; omega), sI_ne (by omega), sI_ne (by omega), hnm]
        · rw [setV_ne _ _ (by omega), setV_ne _ _ (by omega), setV_self, e 201 _ (by unfold LBc; omega), sI_ne (by omega), sI_ne (by omega), hwo]
        · rw [setV_ne _ _ (by omega), setV_self, e 202 _ (by unfold LBc; omega), sI_ne (by omega), sI_self]
      · have z := hL.1.2.2.1 t a (by omega)
        refine ⟨?_, ?_, ?_⟩
        · rw [e2 200 _ (by unfold LBc; omega) (by omega), setV_ne _ _ (by omega), setV_ne _ _ (by omega), setV_ne _ _ (by omega), setV_ne _ _ (by omega)]; exact z.1
        · rw [e2 201 _ (by unfold LBc; omega) (by omega), setV_ne _ _ (by omega), setV_ne _ _ (by omega), setV_ne _ _ (by omega), setV_ne _ _ (by omega)]; exact z.2.1
        · rw [e2 202 _ (by unfold LBc; omega) (by omega), setV_ne _ _ (by omega), setV_ne _ _ (by omega), setV_ne _ _ (by omega), setV_ne _ _ (by omega)]; exact z.2.2
    · rw [e2 197 _ (by unfold LBc; omega) (by omega), e2 198 _ (by unfold LBc; omega) (by omega), e2 199 _ (by unfold LBc; omega) (by omega)]
      exact hL.1.2.2.2 q a b
    · show setV (setV (setV (setV V 4 (V 0 3) nm) 5 (V 0 3) wo) 6 (V 0 3) c) 0 3 (V 0 3 + 1) r i = V r i
      rw [setV_ne _ _ (by omega), setV_ne _ _ (by omega), setV_ne _ _ (by omega), setV_ne _ _ (by omega)]
  · refine hT.done fin ?_ (td_of (kw := 3) (fun k a b => ?_) (by omega) (fun _ => ?_))
    · rw [nf17 n2, sI_ne (by omega), sI_ne (by omega), (hF0 191 17 (by unfold NF; omega)).1]
    · show setV (setV (setV (setV V 4 (V 0 3) nm) 5 (V 0 3) wo) 6 (V 0 3) c) 0 3 (V 0 3 + 1) 0 k = V 0 k
      rw [setV_ne _ _ (by omega), setV_ne _ _ (by omega), setV_ne _ _ (by omega), setV_ne _ _ (by omega)]
    · show decide (0 < setV (setV (setV (setV V 4 (V 0 3) nm) 5 (V 0 3) wo) 6 (V 0 3) c) 0 3 (V 0 3 + 1) 0 3) = true
      rw [setV_self]; exact decide_eq_true (by omega)
theorem m_lnThing {M : Mem} {V : TV} {l : Int} {i : Nat} (h : TS M B n (i + 1)) (hL : LB M V l) (hT : TBw M V 5) (hP : POK V) (h3 : V 0 3 < 8) : LnO M B n l (lnThing B n V i) (t_MO_thingLine M (w32 (8 + V 0 3))) := by
  have hv := hP.1.1
  have hC := hP.1.cells
  have e15 : M.1 193 (9 + 6) = V 0 3 := hL.1.sc (j := 15) (x := 3) (by omega)
  have gd : 0 ≤ 8 + V 0 3 ∧ 8 + V 0 3 < 16 := by omega
  unfold lnThing t_MO_thingLine
  rw [w32_id (x := 8 + V 0 3) (by unfold InR; omega), m_fresher (by omega) (by omega), obind_some, e15]
  simp (config := { proj := false }) only [qguard_pos gd, qlet]
  -- nothing more once a fault stands
  have dead : ∀ (N : Mem) (f p : Int), FS N f p → Fr StW M N → LnO M B n l (f, p, 0, V) (obind (t_MO_cellAtHand N) fun q11 => if (q11.1).1 191 24 = 0 then qguard (0 ≤ (w32 (48 + (q11.2))) ∧ (w32 (48 + (q11.2))) < 96) (if (q11.1).1 198 (w32 (48 + (q11.2))) = 0 then (obind (t_MO_hasThing (q11.1) (q11.2)) fun q18 => (if q18 = 0 then (t_MO_thingLine_L72 (8 + V 0 3) (q11.1) (q11.2)) else (t_MO_thingLine_L67 (8 + V 0 3) (q11.1) (q11.2)))) else (t_MO_thingLine_L67 (8 + V 0 3) (q11.1) (q11.2))) else (t_MO_thingLine_L72 (8 + V 0 3) (q11.1) (q11.2))) := by
    intro N f p hN hF
    unfold t_MO_cellAtHand
    simp (config := { proj := false }) only [m_fresher (show (0 : Int) ≤ 0 by omega) (show (0 : Int) < 9 by omega), m_fresher (show (0 : Int) ≤ 1 by omega) (show (1 : Int) < 9 by omega), obind_some, qlet]
    rw [flt_numeral hN.nz, obind_some, flt_numAt hN.nz, obind_some]
    show LnO M B n l _ (if N.1 191 24 = 0 then _ else _)
    rw [if_neg hN.nz]
    unfold t_MO_thingLine_L72
    rw [if_neg (show ¬ N.1 191 24 = 0 from hN.nz)]
    exact LnO.bad hF hN
  rcases m_fresh (V := V) (row := 4) (r := 200) (N1 := 16) (off := 8) (len := V 0 3) h (by omega) (by omega) (by omega) (by omega) (fun w a b => (hL.1.2.2.1 w a b).1) with ⟨a0, N1, n1, n2, n3⟩ | ⟨N1, n1, n2, n3⟩
  · rw [if_neg (fun q => q a0), n1, obind_some]
    have hFa : Fr (fun k j => k = 200 ∧ j = 8 + V 0 3) N1 (setI N1 200 (8 + V 0 3) (tW B n (i + 1))) := Fr.rf.setI ⟨rfl, rfl⟩
    have t1 : TS (setI N1 200 (8 + V 0 3) (tW B n (i + 1))) B n (i + 2) := n3.fr hFa (fun k j a z => by omega)
    have f1 : Fr StW M (setI N1 200 (8 + V 0 3) (tW B n (i + 1))) := (n2.mono NF_StW).trans (hFa.mono (fun k j z => by unfold StW; omega))
    show LnO M B n l _ (obind (t_MO_numeral (setI N1 200 (8 + V 0 3) (tW B n (i + 1))) 0 99) _)
    rcases m_numeral t1 (lo := 0) (hi := 99) (by omega) (by omega) (by omega) with ⟨b0, b1, N2, p1, p2, p3⟩ | ⟨N2, p1, p2, p3⟩
    · rw [if_neg (fun q => q b0), p1, obind_some]
      have hFb : Fr (fun k j => k = 201 ∧ j = 8 + V 0 3) N2 (setI N2 201 (8 + V 0 3) (tW B n (i + 2))) := Fr.rf.setI ⟨rfl, rfl⟩
      have t2 : TS (setI N2 201 (8 + V 0 3) (tW B n (i + 2))) B n (i + 3) := p3.fr hFb (fun k j a z => by omega)
      have g2 : Fr (fun k j => NF k j ∨ ((k = 200 ∨ k = 201) ∧ j = 8 + V 0 3)) M (setI N2 201 (8 + V 0 3) (tW B n (i + 2))) := (((n2.mono (fun k j z => Or.inl z)).trans (hFa.mono (fun k j z => Or.inr (by omega)))).trans (p2.mono (fun k j z => Or.inl z))).trans (hFb.mono (fun k j z => Or.inr (by omega)))
      have f2 : Fr StW M (setI N2 201 (8 + V 0 3) (tW B n (i + 2))) := g2.mono (fun k j z => z.elim (NF_StW k j) (fun y => by unfold StW; omega))
      have hL2 : LB (setI N2 201 (8 + V 0 3) (tW B n (i + 2))) V l := by
        have e2 : ∀ k j, LBc k j → ¬ ((k = 200 ∨ k = 201) ∧ j = 8 + V 0 3) → (setI N2 201 (8 + V 0 3) (tW B n (i + 2))).1 k j = M.1 k j := fun k j a b => (g2 k j (fun z => z.elim (NF_LBc k j a) b)).1
        refine hL.upd e2 (fun k j z => by omega) (fun j x hj => ?_) (fun w a b => ?_) (fun t a b => ?_) (fun q a b => ?_) rfl rfl rfl (fun r i hr => rfl)
        · rw [e2 193 j (by unfold LBc; omega) (by omega)]; exact hL.1.sc hj
        · rw [e2 194 _ (by unfold LBc; omega) (by omega), e2 195 _ (by unfold LBc; omega) (by omega), e2 196 _ (by unfold LBc; omega) (by omega)]; exact hL.1.2.1 w a b
        · rw [e2 200 _ (by unfold LBc; omega) (by omega), e2 201 _ (by unfold LBc; omega) (by omega), e2 202 _ (by unfold LBc; omega) (by omega)]; exact hL.1.2.2.1 t a b
        · rw [e2 197 _ (by unfold LBc; omega) (by omega), e2 198 _ (by unfold LBc; omega) (by omega), e2 199 _ (by unfold LBc; omega) (by omega)]; exact hL.1.2.2.2 q a b
      have nmv : (setI N2 201 (8 + V 0 3) (tW B n (i + 2))).1 200 (8 + V 0 3) = tW B n (i + 1) := by rw [sI_ne (by omega), (p2 200 _ (by unfold NF; omega)).1, sI_self]
      have wov : (setI N2 201 (8 + V 0 3) (tW B n (i + 2))).1 201 (8 + V 0 3) = tW B n (i + 2) := sI_self _ _ _ _
      show LnO M B n l _ (obind (t_MO_cellAtHand (setI N2 201 (8 + V 0 3) (tW B n (i + 2)))) _)
      generalize setI N2 201 (8 + V 0 3) (tW B n (i + 2)) = M2 at *
      rcases m_cellAtHand t2 hL2 hP with ⟨c0, c1, c2, N, o1, o2, o3⟩ | ⟨f, p, N, c, o1, o2, o3, o4⟩
      · rw [o1, obind_some]
        unfold clS
        rw [if_neg (fun q => q c0), if_neg (fun q => q c1)]
        generalize tW B n (i + 3 + 1) * V 0 0 + tW B n (i + 3) = c at *
        have hLN := hL2.nf o2
        have z := hLN.1.2.2.2 c c2.1 (by omega)
        have f3 := f2.trans (o2.mono NF_StW)
        show LnO M B n l (if ¬ V 8 c = 0 ∨ fnd (fun a => V 6 (a : Int)) c (V 0 3).toNat ≠ none then (5, tP B n (i + 4), 0, V) else (0, 0, i + 5, setV (setV (setV (setV V 4 (V 0 3) (tW B n (i + 1))) 5 (V 0 3) (tW B n (i + 2))) 6 (V 0 3) c) 0 3 (V 0 3 + 1))) (if N.1 191 24 = 0 then qguard (0 ≤ (w32 (48 + c)) ∧ (w32 (48 + c)) < 96) (if N.1 198 (w32 (48 + c)) = 0 then (obind (t_MO_hasThing N c) fun q18 => (if q18 = 0 then (t_MO_thingLine_L72 (8 + V 0 3) N c) else (t_MO_thingLine_L67 (8 + V 0 3) N c))) else (t_MO_thingLine_L67 (8 + V 0 3) N c)) else (t_MO_thingLine_L72 (8 + V 0 3) N c))
        rw [if_pos o3.2.2, w32_id (x := 48 + c) (by unfold InR; omega), qguard_pos ⟨by omega, by omega⟩, z.2.1, m_hasThing hLN hP, obind_some]
        obtain ⟨w1, w2⟩ := o3.wrong (k := 5) (by decide)
        have bad : LnO M B n l (5, tP B n (i + 4), 0, V) (t_MO_thingLine_L67 (8 + V 0 3) N c) := by
          unfold t_MO_thingLine_L67 t_MO_thingLine_L72
          simp (config := { proj := false }) only [qlet]
          rw [if_neg w2.nz]
          exact LnO.bad (f3.trans (w1.mono NF_StW)) w2
        by_cases e8 : V 8 c = 0
        · rw [if_pos e8]
          by_cases et : fnd (fun a => V 6 (a : Int)) c (V 0 3).toNat = none
          · rw [if_pos et, if_pos rfl, if_neg (fun q => q.elim (fun y => y e8) (fun y => y et))]
            exact m_thing_L72 o3 hL hT hP h3 c2.1 (by omega) (g2.trans (o2.mono (fun k j z => Or.inl z))) (by rw [(o2 200 _ (by unfold NF; omega)).1]; exact nmv) (by rw [(o2 201 _ (by unfold NF; omega)).1]; exact wov)
          · rw [if_neg et, if_neg (show ¬ (1 : Int) = 0 by decide), if_pos (show ¬ V 8 c = 0 ∨ fnd (fun a => V 6 (a : Int)) c (V 0 3).toNat ≠ none from Or.inr et)]
            exact bad
        · rw [if_neg e8, if_pos (show ¬ V 8 c = 0 ∨ fnd (fun a => V 6 (a : Int)) c (V 0 3).toNat ≠ none from Or.inl e8)]
          exact bad
      · rw [o1, obind_some, o4]
        show LnO M B n l _ (if N.1 191 24 = 0 then _ else t_MO_thingLine_L72 (8 + V 0 3) N c)
        unfold t_MO_thingLine_L72
        rw [if_neg o3.nz, if_neg o3.nz]
        exact LnO.bad (f2.trans (o2.mono NF_StW)) o3
    · rw [if_pos p3.1, p1, obind_some]
      have hFb : Fr (fun k j => k = 201 ∧ j = 8 + V 0 3) N2 (setI N2 201 (8 + V 0 3) 0) := Fr.rf.setI ⟨rfl, rfl⟩
      exact dead _ _ _ (p3.fr hFb (fun k j a b c z => by omega)) ((f1.trans (p2.mono NF_StW)).trans (hFb.mono (fun k j z => by unfold StW; omega)))
  · rw [if_pos n3.1, n1, obind_some]
    have hFa : Fr (fun k j => k = 200 ∧ j = 8 + V 0 3) N1 (setI N1 200 (8 + V 0 3) 0) := Fr.rf.setI ⟨rfl, rfl⟩
    have g := n3.fr hFa (fun k j a b c z => by omega)
    show LnO M B n l _ (obind (t_MO_numeral (setI N1 200 (8 + V 0 3) 0) 0 99) _)
    rw [flt_numeral g.nz, obind_some]
    have hFb : Fr (fun k j => k = 201 ∧ j = 8 + V 0 3) (setI N1 200 (8 + V 0 3) 0) (setI (setI N1 200 (8 + V 0 3) 0) 201 (8 + V 0 3) 0) := Fr.rf.setI ⟨rfl, rfl⟩
    exact dead _ _ _ (g.fr hFb (fun k j a b c z => by omega)) (((n2.mono NF_StW).trans (hFa.mono (fun k j z => by unfold StW; omega))).trans (hFb.mono (fun k j z => by unfold StW; omega)))
/-- seed, with what comes behind -/
theorem m_lnSeed {M : Mem} {V : TV} {l : Int} {i : Nat} (h : TS M B n (i + 1)) (hL : LB M V l) (hT : TBw M V 6) (hP : POK V) : ∃ N, (∀ k : Mem → Option Mem, (obind (t_MO_numeral M 0 99999) fun q68 => (obind (t_MO_reads (q68.1) 7 (q68.2)) fun q70 => (k q70))) = k N) ∧ LnO M B n l (lnSeed B n V i) (some N) := by
  unfold lnSeed
  rcases m_numeral h (lo := 0) (hi := 99999) (by omega) (by omega) (by omega) with ⟨a0, a1, N1, n1, n2, n3⟩ | ⟨N1, n1, n2, n3⟩
  · rw [if_neg (fun q => q a0)]
    have hFa : Fr (fun k j => k = 193 ∧ j = 16) N1 (setI N1 193 16 (tW B n (i + 1))) := Fr.rf.setI ⟨rfl, rfl⟩
    have fin : Fr StW M (setI N1 193 16 (tW B n (i + 1))) := (n2.mono NF_StW).trans (hFa.mono (fun k j z => by unfold StW; omega))
    have e2 : ∀ k j, LBc k j → ¬ (k = 193 ∧ j = 16) → (setI N1 193 16 (tW B n (i + 1))).1 k j = M.1 k j := fun k j a b => by rw [sI_ne b, (n2 k j (NF_LBc k j a)).1]
    refine ⟨setI N1 193 16 (tW B n (i + 1)), fun k => ?_, _, rfl, fin, Or.inl ⟨rfl, n3.fr hFa (fun k j a z => by omega), ?_, ?_⟩⟩
    · rw [n1, obind_some, m_reads (by omega) (by omega), obind_some]
      rfl
    · refine hL.upd e2 (fun k j z => by omega) (fun j x hj => ?_) (fun w a b => ?_) (fun t a b => ?_) (fun q a b => ?_) rfl rfl rfl (fun r i hr => ?_)
      · show _ = setV (setV V 0 5 (tW B n (i + 1))) 0 14 1 0 x
        by_cases z : j = 16
        · have hx : x = 5 := by omega
          subst z; subst hx
          rw [sI_self, setV_ne _ _ (by omega), setV_self]
        · rw [e2 193 j (by unfold LBc; omega) (by omega), setV_ne _ _ (by omega), setV_ne _ _ (by omega)]
          exact hL.1.sc hj
      · rw [e2 194 _ (by unfold LBc; omega) (by omega), e2 195 _ (by unfold LBc; omega) (by omega), e2 196 _ (by unfold LBc; omega) (by omega)]
        exact hL.1.2.1 w a b
      · rw [e2 200 _ (by unfold LBc; omega) (by omega), e2 201 _ (by unfold LBc; omega) (by omega), e2 202 _ (by unfold LBc; omega) (by omega)]
        exact hL.1.2.2.1 t a b
      · rw [e2 197 _ (by unfold LBc; omega) (by omega), e2 198 _ (by unfold LBc; omega) (by omega), e2 199 _ (by unfold LBc; omega) (by omega)]
        exact hL.1.2.2.2 q a b
      · show setV (setV V 0 5 (tW B n (_ + 1))) 0 14 1 r i = V r i
        rw [setV_ne _ _ (by omega), setV_ne _ _ (by omega)]
    · refine hT.done fin ?_ (td_of (kw := 14) (fun k a b => ?_) (by omega) (fun _ => ?_))
      · rw [sI_ne (by omega), nf17 n2]
      · show setV (setV V 0 5 (tW B n (i + 1))) 0 14 1 0 k = V 0 k
        rw [setV_ne _ _ (by omega), setV_ne _ _ (by omega)]
      · show decide (setV (setV V 0 5 (tW B n (i + 1))) 0 14 1 0 14 = 1) = true
        exact decide_eq_true (setV_self _ _ _ _)
  · rw [if_pos n3.1]
    refine ⟨setI N1 193 16 0, fun k => ?_, LnO.bad ((n2.mono NF_StW).setI (by unfold StW; omega)) ⟨n3.1, by rw [sI_ne (by omega)]; exact n3.2.1, by rw [sI_ne (by omega)]; exact n3.2.2⟩⟩
    rw [n1, obind_some, m_reads (by omega) (by omega), obind_some]
    rfl
end LT
