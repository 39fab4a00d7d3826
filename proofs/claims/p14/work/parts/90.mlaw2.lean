/-! ===== lines: laws, and any ===== -/
section LX
variable {B : Int → Int} {n : Int}
/-- rows of knots, one of both laws read -/
theorem SLw.knots {M N : Mem} {V : TV} {l q : Int} {s : Nat} {out : List (Int × Int)} {kn : Int} (hs : s < 2) (hL : LB M V l) (h4 : V 0 4 = q) (hF : Fr (fun k j => XW q k j ∨ NF k j ∨ ((k = 203 ∨ k = 204) ∧ j = 2 + (s : Int)) ∨ (k = 191 ∧ j = 17)) M N) (h203 : N.1 203 (2 + (s : Int)) = q) (h204 : N.1 204 (2 + (s : Int)) = kn) (hkn : kn = q + (out.length : Int)) (hq : 0 ≤ q) (hK : KnL N q out) (hz : ∀ s : Nat, s < 2 → 0 ≤ V 0 (11 + (s : Int))) : SLw N (knV V s out kn) 0 ∧ SLw N (knV V s out kn) 1 := by
  have other : ∀ t : Nat, t < 2 → t ≠ s → SLw M V t → SLw N (knV V s out kn) t := by
    intro t ht hts h
    unfold SLw at *
    have e11 : knV V s out kn 0 (11 + (t : Int)) = V 0 (11 + (t : Int)) := by
      unfold knV
      rw [if_neg (by omega), if_neg (by omega), if_neg (by omega), if_neg (by omega), if_neg (by omega)]
    have e4 : knV V s out kn 0 4 = kn := by
      unfold knV
      rw [if_neg (by omega), if_neg (by omega), if_neg (by omega), if_neg (by omega), if_pos ⟨rfl, rfl⟩]
    have er : ∀ r i, (r = 10 + 2 * t ∨ r = 11 + 2 * t) → knV V s out kn r i = V r i := by
      intro r i hr
      unfold knV
      rw [if_neg (by omega), if_neg (by omega), if_neg (by omega), if_neg (by omega), if_neg (by omega)]
    have f3 : N.1 203 (2 + (t : Int)) = M.1 203 (2 + (t : Int)) := (hF 203 _ (by unfold XW NF; omega)).1
    have f4 : N.1 204 (2 + (t : Int)) = M.1 204 (2 + (t : Int)) := (hF 204 _ (by unfold XW NF; omega)).1
    rw [f3, f4, e11, e4]
    refine ⟨h.1, h.2.1, by omega, fun i a b => ?_⟩
    rw [er _ _ (Or.inl rfl), er _ _ (Or.inr rfl), (hF 205 _ (by unfold XW NF; omega)).1, (hF 206 _ (by unfold XW NF; omega)).1]
    exact h.2.2.2 i a b
  have this_ : SLw N (knV V s out kn) s := by
    unfold SLw
    have e11 : knV V s out kn 0 (11 + (s : Int)) = (out.length : Int) := by
      unfold knV
      rw [if_neg (by omega), if_neg (by omega), if_neg (by omega), if_pos ⟨rfl, rfl⟩]
    have e4 : knV V s out kn 0 4 = kn := by
      unfold knV
      rw [if_neg (by omega), if_neg (by omega), if_neg (by omega), if_neg (by omega), if_pos ⟨rfl, rfl⟩]
    rw [h203, h204, e11, e4]
    refine ⟨hq, hkn, Int.le_refl _, fun i a b => ?_⟩
    have ek : knV V s out kn (10 + 2 * s) i = (out.getD i.toNat (0, 0)).1 := if_pos rfl
    have en : knV V s out kn (11 + 2 * s) i = (out.getD i.toNat (0, 0)).2 := by
      unfold knV
      rw [if_neg (by omega), if_pos rfl]
    rw [ek, en]
    have := hK i.toNat (by omega)
    rw [Int.toNat_of_nonneg a] at this
    exact this
  have hs2 : s = 0 ∨ s = 1 := by omega
  rcases hs2 with rfl | rfl
  · exact ⟨this_, other 1 (by omega) (by omega) hL.2.1.2⟩
  · exact ⟨other 0 (by omega) (by omega) hL.2.1.1, this_⟩
theorem m_lnLaw {M : Mem} {V : TV} {l : Int} {i : Nat} (h : TS M B n (i + 1)) (hL : LB M V l) (hT : TBw M V 7) (hP : POK V) : LnO M B n l (lnLaw B n V i) (t_MO_lawLine M) := by
  have hv := hP.1.1
  have hkk := h.kok
  have s13 := srt_word h.2.1 hkk 13 (by omega) (by omega)
  have s14 := srt_word h.2.1 hkk 14 (by omega) (by omega)
  obtain ⟨w1, w2⟩ := h.wrong (k := 1) (by decide)
  unfold lnLaw t_MO_lawLine t_MO_lawLine_L25
  simp (config := { proj := false }) only [qlet]
  have deadL30 : ∀ N, ¬ N.1 191 24 = 0 → t_MO_lawLine_L30 N = some N := by
    intro N hN
    unfold t_MO_lawLine_L30 t_MO_lawLine_L61
    rw [if_neg hN, if_neg hN]
  -- a kind of its own
  have go : ∀ s : Nat, s < 2 → tK B n (i + 1) = 13 + (s : Int) → LnO M B n l (if V 0 (tK B n (i + 1) - 4) = 1 then (3, tP B n (i + 1), 0, V) else if ¬ (frS B n (i + 2) (V 0 4)).1 = 0 then ((frS B n (i + 2) (V 0 4)).1, tP B n (frS B n (i + 2) (V 0 4)).2.1, 0, V) else (0, 0, (frS B n (i + 2) (V 0 4)).2.1, knV V (tK B n (i + 1) - 13).toNat (frS B n (i + 2) (V 0 4)).2.2.2 (frS B n (i + 2) (V 0 4)).2.2.1)) (t_MO_lawLine_L30 M) := by
    intro s hs hk
    have hv3 : M.1 191 23 = 13 + (s : Int) := h.2.1.2.2.2.1 ⟨by omega, by omega⟩ |>.trans hk
    have es : (tK B n (i + 1) - 13).toNat = s := by omega
    have etd : td V (10 + (s : Int)) = decide (V 0 (9 + (s : Int)) = 1) := by
      have hs2 : s = 0 ∨ s = 1 := by omega
      rcases hs2 with rfl | rfl <;> rfl
    have htold : tbI (M.1 191 17) (10 + (s : Int)) = decide (V 0 (9 + (s : Int)) = 1) := by
      have := hT (10 + (s : Int)) (by omega)
      rw [decide_eq_false (show ¬ 10 + (s : Int) = 7 by omega), Bool.or_false, etd] at this
      exact this
    rw [es, hk, show 13 + (s : Int) - 4 = 9 + (s : Int) by omega]
    unfold t_MO_lawLine_L30
    simp (config := { proj := false }) only [qlet]
    rw [if_pos h.2.2, hv3, w32_id (x := 13 + (s : Int) - 13) (by unfold InR; omega), show 13 + (s : Int) - 13 = (s : Int) by omega, w32_id (x := 10 + (s : Int)) (by unfold InR; omega), m_isTold M (by omega) (by omega), htold]
    by_cases e1 : V 0 (9 + (s : Int)) = 1
    · obtain ⟨v1, v2⟩ := h.wrong (k := 3) (by decide)
      rw [if_pos e1, decide_eq_true e1, if_neg (show ¬ (if true = true then (1 : Int) else 0) = 0 by decide)]
      unfold t_MO_lawLine_L61
      rw [if_neg v2.nz]
      exact LnO.bad (v1.mono NF_StW) v2
    · rw [if_neg e1, decide_eq_false e1, if_pos (show (if false = true then (1 : Int) else 0) = 0 from rfl)]
      unfold t_MO_lawLine_L61
      simp (config := { proj := false }) only [qlet]
      rw [if_pos h.2.2, w32_id (x := 10 + (s : Int)) (by unfold InR; omega), w32_id (x := 2 + (s : Int)) (by unfold InR; omega)]
      have hFa : Fr (fun k j => k = 191 ∧ j = 17) M (setI M 191 17 (q_or (M.1 191 17) (q_shl 1 (10 + (s : Int))))) := Fr.rf.setI ⟨rfl, rfl⟩
      have hbits : ∀ x, tdx x → tbI (q_or (M.1 191 17) (q_shl 1 (10 + (s : Int)))) x = (td V x || decide (x = 10 + (s : Int))) := by
        intro x hx
        rw [told_or (by omega) (by omega) (by omega) (by omega), hT x hx, decide_eq_false (show ¬ x = 7 by omega), Bool.or_false]
      generalize hb : q_or (M.1 191 17) (q_shl 1 (10 + (s : Int))) = bits at *
      have ta : TS (setI M 191 17 bits) B n (i + 1) := h.fr hFa (fun k j a z => by omega)
      obtain ⟨N0, t1, t2, t3⟩ := ta.next
      have t1' : t_MO_token (setI M 191 17 bits) = some N0 := t1
      rw [t1', obind_some, m_fresher (by omega) (by omega), obind_some, qguard_pos ⟨by omega, by omega⟩]
      have f0 : Fr (fun k j => NF k j ∨ (k = 191 ∧ j = 17)) M N0 := (hFa.mono (fun k j z => Or.inr z)).trans (t2.mono (fun k j z => Or.inl z))
      have e17 : N0.1 193 (9 + 8) = V 0 4 := ((f0 193 (9 + 8) (by unfold NF; omega)).1).trans (hL.1.sc (j := 17) (x := 4) (by omega))
      rw [e17]
      have hFb : Fr (fun k j => k = 203 ∧ j = 2 + (s : Int)) N0 (setI N0 203 (2 + (s : Int)) (V 0 4)) := Fr.rf.setI ⟨rfl, rfl⟩
      have f1 : Fr (fun k j => NF k j ∨ (k = 191 ∧ j = 17) ∨ (k = 203 ∧ j = 2 + (s : Int))) M (setI N0 203 (2 + (s : Int)) (V 0 4)) := (f0.mono (fun k j z => z.elim Or.inl (fun y => Or.inr (Or.inl y)))).trans (hFb.mono (fun k j z => Or.inr (Or.inr z)))
      have tb : TS (setI N0 203 (2 + (s : Int)) (V 0 4)) B n (i + 2) := t3.fr hFb (fun k j a z => by omega)
      have hE : EP (setI N0 203 (2 + (s : Int)) (V 0 4)) B n (i + 2) (V 0 4) 0 (V 0 4) := ⟨tb.1, tb.2.1, tb.2.2, (f1 191 29 (by unfold NF; omega)).1.trans hL.2.2.2.1, (f1 191 28 (by unfold NF; omega)).1.trans hL.2.2.1, (f1 193 17 (by unfold NF; omega)).1.trans (hL.1.sc (j := 17) (x := 4) (by omega))⟩
      have h203 : (setI N0 203 (2 + (s : Int)) (V 0 4)).1 203 (2 + (s : Int)) = V 0 4 := sI_self _ _ _ _
      have nf17 : ¬ NF 191 17 := by unfold NF; omega
      have h17 : (setI N0 203 (2 + (s : Int)) (V 0 4)).1 191 17 = bits := by
        rw [sI_ne (by omega), (t2 191 17 nf17).1, sI_self]
      generalize setI N0 203 (2 + (s : Int)) (V 0 4) = M2 at *
      obtain ⟨N, x1, x2, x3⟩ := m_expression (q := V 0 4) (by omega) (Int.le_refl _) (by omega) hE
      have rg := (fr_facts (B := B) h.1.1 (i := i + 2) (c := V 0 4) (by omega) (by omega)).2
      rw [x1, obind_some, m_fresher (by omega) (by omega), obind_some, qguard_pos ⟨by omega, by omega⟩]
      have hFc : Fr (fun k j => k = 204 ∧ j = 2 + (s : Int)) N (setI N 204 (2 + (s : Int)) (N.1 193 (9 + 8))) := Fr.rf.setI ⟨rfl, rfl⟩
      have fall : Fr (fun k j => XW (V 0 4) k j ∨ NF k j ∨ ((k = 203 ∨ k = 204) ∧ j = 2 + (s : Int)) ∨ (k = 191 ∧ j = 17)) M (setI N 204 (2 + (s : Int)) (N.1 193 (9 + 8))) := ((f1.mono (fun k j z => z.elim (fun z => Or.inr (Or.inl z)) (fun z => z.elim (fun z => Or.inr (Or.inr (Or.inr z))) (fun z => Or.inr (Or.inr (Or.inl ⟨Or.inl z.1, z.2⟩)))))).trans (x2.mono (fun k j z => Or.inl z))).trans (hFc.mono (fun k j z => Or.inr (Or.inr (Or.inl ⟨Or.inr z.1, z.2⟩))))
      have fin : Fr StW M (setI N 204 (2 + (s : Int)) (N.1 193 (9 + 8))) := fall.mono (fun k j z => by unfold XW NF at z; unfold StW; omega)
      rcases x3 with ⟨z, y1, y2⟩ | ⟨z, y1, y2⟩
      · rw [if_neg (fun q => q z)]
        obtain ⟨g1, g2, g3, g4, g5⟩ := rg.1 z
        have ekn : N.1 193 (9 + 8) = (frS B n (i + 2) (V 0 4)).2.2.1 := by
          have : N.1 193 17 = V 0 4 + ((frS B n (i + 2) (V 0 4)).2.2.2.length : Int) := y1.2.2.2.2.2
          show N.1 193 17 = _
          omega
        have y17 : N.1 193 17 = V 0 4 + ((frS B n (i + 2) (V 0 4)).2.2.2.length : Int) := y1.2.2.2.2.2
        have y29 : N.1 191 29 = (frS B n (i + 2) (V 0 4)).2.2.1 := y1.2.2.2.1
        have y28 : N.1 191 28 = 0 := y1.2.2.2.2.1
        have hTS : TS N B n (frS B n (i + 2) (V 0 4)).2.1 := ⟨y1.1, y1.2.1, y1.2.2.1⟩
        generalize (frS B n (i + 2) (V 0 4)).2.2.2 = out at *
        generalize (frS B n (i + 2) (V 0 4)).2.2.1 = kn at *
        rw [ekn] at fall fin hFc ⊢
        have kv : ∀ r j, ¬ (r = 10 + 2 * s ∨ r = 11 + 2 * s) → ¬ (r = 0 ∧ (j = 9 + (s : Int) ∨ j = 11 + (s : Int) ∨ j = 4)) → knV V s out kn r j = V r j := by
          intro r j a b
          unfold knV
          rw [if_neg (by omega), if_neg (by omega), if_neg (by omega), if_neg (by omega), if_neg (by omega)]
        have k4 : knV V s out kn 0 4 = kn := by
          unfold knV
          rw [if_neg (by omega), if_neg (by omega), if_neg (by omega), if_neg (by omega), if_pos ⟨rfl, rfl⟩]
        have ev : ∀ k j, LBc k j → ¬ (XW (V 0 4) k j ∨ ((k = 203 ∨ k = 204) ∧ j = 2 + (s : Int))) → (setI N 204 (2 + (s : Int)) kn).1 k j = M.1 k j := fun k j a b => (fall k j (by
          have := NF_LBc k j a
          unfold LBc at a
          intro y
          rcases y with y | y | y | y
          · exact b (Or.inl y)
          · exact this y
          · exact b (Or.inr y)
          · omega)).1
        have f4 : FOK V := hP.2.1
        refine ⟨setI N 204 (2 + (s : Int)) kn, rfl, fin, Or.inl ⟨rfl, hTS.fr hFc (fun k j a z => by omega), ⟨⟨⟨?_, ?_, ?_, ?_, ?_, ?_, ?_, ?_, ?_⟩, fun w a b => ?_, fun t a b => ?_, fun q a b => ?_⟩, ?_, ?_, ?_, ?_⟩, ?_⟩⟩
        · rw [ev 193 9 (by unfold LBc; omega) (by unfold XW; omega)]; exact (hL.1.sc (j := 9) (x := 0) (by omega)).trans (kv 0 0 (by omega) (by omega)).symm
        · rw [ev 193 10 (by unfold LBc; omega) (by unfold XW; omega)]; exact (hL.1.sc (j := 10) (x := 1) (by omega)).trans (kv 0 1 (by omega) (by omega)).symm
        · rw [ev 193 11 (by unfold LBc; omega) (by unfold XW; omega)]; exact (hL.1.sc (j := 11) (x := 2) (by omega)).trans (kv 0 2 (by omega) (by omega)).symm
        · rw [ev 193 12 (by unfold LBc; omega) (by unfold XW; omega)]; exact (hL.1.sc (j := 12) (x := 6) (by omega)).trans (kv 0 6 (by omega) (by omega)).symm
        · rw [ev 193 13 (by unfold LBc; omega) (by unfold XW; omega)]; exact (hL.1.sc (j := 13) (x := 7) (by omega)).trans (kv 0 7 (by omega) (by omega)).symm
        · rw [ev 193 14 (by unfold LBc; omega) (by unfold XW; omega)]; exact (hL.1.sc (j := 14) (x := 8) (by omega)).trans (kv 0 8 (by omega) (by omega)).symm
        · rw [ev 193 15 (by unfold LBc; omega) (by unfold XW; omega)]; exact (hL.1.sc (j := 15) (x := 3) (by omega)).trans (kv 0 3 (by omega) (by omega)).symm
        · rw [ev 193 16 (by unfold LBc; omega) (by unfold XW; omega)]; exact (hL.1.sc (j := 16) (x := 5) (by omega)).trans (kv 0 5 (by omega) (by omega)).symm
        · rw [sI_ne (by omega)]
          show N.1 193 17 = knV V s out kn 0 4
          rw [k4]; exact ekn
        · have b : w < knV V s out kn 0 2 := b
          rw [kv 0 2 (by omega) (by omega)] at b
          have z := hL.1.2.1 w a b
          have c1 := kv 1 w (by omega) (by omega)
          have c2 := kv 2 w (by omega) (by omega)
          have c3 := kv 3 w (by omega) (by omega)
          refine ⟨?_, ?_, ?_⟩
          · rw [ev 194 _ (by unfold LBc; omega) (by unfold XW; omega)]; exact z.1.trans c1.symm
          · rw [ev 195 _ (by unfold LBc; omega) (by unfold XW; omega)]; exact z.2.1.trans c2.symm
          · rw [ev 196 _ (by unfold LBc; omega) (by unfold XW; omega)]; exact z.2.2.trans c3.symm
        · have b : t < knV V s out kn 0 3 := b
          rw [kv 0 3 (by omega) (by omega)] at b
          have z := hL.1.2.2.1 t a b
          have c1 := kv 4 t (by omega) (by omega)
          have c2 := kv 5 t (by omega) (by omega)
          have c3 := kv 6 t (by omega) (by omega)
          refine ⟨?_, ?_, ?_⟩
          · rw [ev 200 _ (by unfold LBc; omega) (by unfold XW; omega)]; exact z.1.trans c1.symm
          · rw [ev 201 _ (by unfold LBc; omega) (by unfold XW; omega)]; exact z.2.1.trans c2.symm
          · rw [ev 202 _ (by unfold LBc; omega) (by unfold XW; omega)]; exact z.2.2.trans c3.symm
        · have z := hL.1.2.2.2 q a b
          have c1 := kv 7 q (by omega) (by omega)
          have c2 := kv 8 q (by omega) (by omega)
          have c3 := kv 9 q (by omega) (by omega)
          refine ⟨?_, ?_, ?_⟩
          · rw [ev 197 _ (by unfold LBc; omega) (by unfold XW; omega)]
            show _ = knV V s out kn 7 q + 1
            rw [c1]; exact z.1
          · rw [ev 198 _ (by unfold LBc; omega) (by unfold XW; omega)]; exact z.2.1.trans c2.symm
          · rw [ev 199 _ (by unfold LBc; omega) (by unfold XW; omega)]; exact z.2.2.trans c3.symm
        · exact SLw.knots hs hL rfl fall (by rw [sI_ne (by omega), (x2 203 _ (by unfold XW; omega)).1]; exact h203) (sI_self _ _ _ _) (by omega) (by omega) (y2.fr hFc (fun k j a b z => by omega)) (fun t ht => by
            have ht2 : t = 0 ∨ t = 1 := by omega
            rcases ht2 with rfl | rfl
            · exact f4.1.1
            · exact f4.2.1.1)
        · rw [sI_ne (by omega)]; exact y28
        · show (setI N 204 (2 + (s : Int)) kn).1 191 29 = knV V s out kn 0 4
          rw [sI_ne (by omega), k4]; exact y29
        · rw [ev 191 18 (by unfold LBc; omega) (by unfold XW; omega)]; exact hL.2.2.2.2
        · intro x hx
          have b17 : (setI N 204 (2 + (s : Int)) kn).1 191 17 = bits := by
            rw [sI_ne (by omega), (x2 191 17 (by unfold XW; omega)).1]
            exact h17
          rw [b17, hbits x hx]
          refine (td_of (V := V) (V' := knV V s out kn) (w := 10 + (s : Int)) (kw := 9 + (s : Int)) (fun k a b => kv 0 k (by omega) (by omega)) (by omega) (fun _ => ?_) x hx).symm
          have hs2 : s = 0 ∨ s = 1 := by omega
          rcases hs2 with rfl | rfl
          · show decide (knV V 0 out kn 0 9 = 1) = true
            exact decide_eq_true rfl
          · show decide (knV V 1 out kn 0 10 = 1) = true
            exact decide_eq_true rfl
      · rw [if_pos z]
        exact LnO.bad fin ⟨z, by rw [sI_ne (by omega)]; exact y1, by rw [sI_ne (by omega)]; exact y2⟩
  by_cases k : tK B n (i + 1) = 13 ∨ tK B n (i + 1) = 14
  · rw [if_neg (fun q => q k)]
    rcases k with k | k
    · have z := s13.mpr k
      rw [if_pos z.1, if_pos z.2]
      exact go 0 (by omega) (by omega)
    · have z := s14.mpr k
      rw [if_pos z.1, if_neg (show ¬ M.1 191 23 = 13 by omega), if_pos z.2]
      exact go 1 (by omega) (by omega)
  · rw [if_pos k, deadL30 _ w2.nz]
    have fin : LnO M B n l (1, tP B n (i + 1), 0, V) (some (t_MO_wrong M 1)) := LnO.bad (w1.mono NF_StW) w2
    by_cases s0 : M.1 191 22 = 0
    · rw [if_pos s0, if_neg (fun q => k (Or.inl (s13.mp ⟨s0, q⟩))), if_neg (fun q => k (Or.inr (s14.mp ⟨s0, q⟩)))]
      exact fin
    · rw [if_neg s0]
      exact fin
end LX
