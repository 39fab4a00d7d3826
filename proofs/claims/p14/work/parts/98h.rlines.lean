/-! ===== the class's reader: lines ===== -/
section RL
variable {B : Int → Int} {n : Int} {M : Mem} {i T : Nat} {V : TV}
theorem CLn.bad {N : Mem} {f p : Int} {a : Nat} {U : TV} (h : FT N f p) (hf : f ≠ 0) : CLn N T B n (f, p, a, U) 0 := Or.inr ⟨hf, rfl, h⟩
/-- a refusal ahead of all -/
theorem c_ref0 (M : Mem) {f p : Int} (hf : f ≠ 0) {a : Nat} {U : TV} : ∃ N g, (some ((t_Reader_refuse M f p).1, (t_Reader_refuse M f p).2) : Option (Mem × Int)) = some (N, g) ∧ Fr (RdW T) M N ∧ CLn N T B n (f, p, a, U) g := by
  obtain ⟨x1, x2, x3⟩ := c_refuse (M := M) f p
  exact ⟨_, 0, rfl, x1.mono rf_rd, CLn.bad x3 hf⟩
theorem CP.of {M N : Mem} {U : TV} (hC : CP M T V) (f6 : N.1 46 6 = U 0 6 ∧ N.1 46 7 = U 0 13 ∧ N.1 46 8 = U 0 14) (b : (U 0 13 = 0 ∨ U 0 13 = 1) ∧ (U 0 14 = 0 ∨ U 0 14 = 1)) (c : cntT (N.2 T 18) 64 = U 0 7 ∧ cntT (N.2 T 19) 64 = U 0 8) (hT : CT0 N T U) {W : Nat → Int → Prop} (hF : Fr W M N) (hd : ∀ k j, (((k = T + 10 ∨ k = T + 15) ∧ (j = 3 ∨ j = 4)) ∨ k = T + 11 ∨ k = T + 12 ∨ k = T + 16 ∨ k = T + 17) → ¬ W k j) (e0 : ∀ j, 9 ≤ j → j ≤ 12 → U 0 j = V 0 j) (er : ∀ r j, 10 ≤ r → U r j = V r j) : CP N T U := by
  refine ⟨hT, f6, b, c, ?_⟩
  have h := hC.2.2.2.2.fr hF hd
  unfold CFm OutR at *
  rw [e0 9 (by omega) (by omega), e0 10 (by omega) (by omega), e0 11 (by omega) (by omega), e0 12 (by omega) (by omega)]
  obtain ⟨⟨a1, a2, a3⟩, d1, d2, d3⟩ := h
  refine ⟨⟨a1, a2, fun j x y => ?_⟩, d1, d2, fun j x y => ?_⟩
  · rw [er 10 j (by omega), er 11 j (by omega)]; exact a3 j x y
  · rw [er 12 j (by omega), er 13 j (by omega)]; exact d3 j x y
theorem c_rTown (hT : T ≤ 22) (h : RD M B n i) (hk : tK B n i = 0) (hC : CP M T V) (hP : POK V) : ∃ N g, t_Reader_readTown M T = some (N, g) ∧ Fr (RdW T) M N ∧ CLn N T B n (lnS B n V i) g := by
  obtain ⟨hV, hF, p6⟩ := hP
  have hC' := hC
  obtain ⟨hT0, ⟨f6, f7, f8⟩, ⟨b13, b14⟩, ⟨c7, c8⟩, hCF⟩ := hC
  obtain ⟨a1, a2, a3, a4, a5, a6⟩ := hT0.1
  have hv := hV.1
  unfold t_Reader_readTown t_Reader_readTown_L49 lnS
  rw [if_pos hk, f7, f6, a4, h.2.2.2.2.2.2]
  simp (config := { proj := false }) only [qlet]
  by_cases t13 : V 0 13 = 1
  · rw [if_pos t13, if_neg (show ¬ V 0 13 = 0 by omega)]
    exact c_ref0 M (by decide)
  · rw [if_neg t13, if_pos (show V 0 13 = 0 by omega)]
    by_cases q : 0 < V 0 6 ∨ 0 < V 0 7 ∨ 0 < V 0 8 ∨ 0 < V 0 3
    · rw [if_pos q]
      have ref4 := c_ref0 (T := T) (B := B) (n := n) M (f := 4) (p := tP B n i) (by decide) (a := 0) (U := V)
      by_cases q6 : 0 < V 0 6
      · rw [if_pos q6]; exact ref4
      · rw [if_neg q6]
        by_cases q7 : M.2 T 18 = 0
        · have z7 := cnt_eq0.mpr q7
          rw [if_pos q7]
          by_cases q8 : M.2 T 19 = 0
          · have z8 := cnt_eq0.mpr q8
            rw [if_pos q8, if_neg (show ¬ V 0 3 ≤ 0 by omega)]; exact ref4
          · rw [if_neg q8]; exact ref4
        · rw [if_neg q7]; exact ref4
    · have q7 := cnt_eq0.mp (show cntT (M.2 T 18) 64 = 0 by omega)
      have q8 := cnt_eq0.mp (show cntT (M.2 T 19) 64 = 0 by omega)
      rw [if_neg q, if_neg (show ¬ 0 < V 0 6 by omega), if_pos q7, if_pos q8, if_pos (show V 0 3 ≤ 0 by omega)]
      have f9 : Fr (fun k j => k = 46 ∧ j = 7) M (setI M 46 7 1) := Fr.rf.setI ⟨rfl, rfl⟩
      have r9 := h.fr f9 (fun k j x z => by omega)
      have c9 : (setI M 46 7 1).1 46 7 = 1 := sI_self _ _ _ _
      generalize setI M 46 7 1 = M9 at *
      obtain ⟨N1, n1, n2, n3, n4⟩ := c_next1 r9 (by rw [hk]; decide)
      rw [n1, obind_some]
      obtain ⟨N2, r2, s1, s2, s3⟩ := c_num n3 1 8
      rw [s1, obind_some]
      unfold lnTown t_Reader_readTown_L97
      have g2 : Fr (RdW T) M N2 := ((f9.mono (fun k j z => by unfold RdW; omega)).trans (n2.mono rg_rd)).trans (s2.mono rf_rd)
      rcases s3 with ⟨b1, b2, b3, b4, b5, b6⟩ | ⟨b1, b2, b3⟩
      · rw [if_neg (show ¬ ¬ nuS B n (i + 1) 1 8 = 0 from fun z => z b1)]
        rw [if_pos (show 0 ≤ r2 by omega)]
        obtain ⟨N3, r3, u1, u2, u3⟩ := c_num b5 1 6
        rw [u1, obind_some]
        have g3 : Fr (RdW T) M N3 := g2.trans (u2.mono rf_rd)
        rcases u3 with ⟨d1, d2, d3, d4, d5, d6⟩ | ⟨d1, d2, d3⟩
        · rw [if_neg (show ¬ ¬ nuS B n (i + 2) 1 6 = 0 from fun z => z d1)]
          rw [if_pos (show 0 ≤ r3 by omega)]
          have fN : Fr (fun k j => k = T ∧ (j = 11 ∨ j = 12)) N3 (setI (setI N3 T 11 r2) T 12 r3) := (Fr.rf.setI (by omega)).setI (by omega)
          have fA : Fr (fun k j => k = 46 ∨ (k = T ∧ (j = 11 ∨ j = 12))) M (setI (setI N3 T 11 r2) T 12 r3) := ((((f9.mono (fun k j z => by omega)).trans (n2.mono (fun k j z => by unfold RgW at z; omega))).trans (s2.mono (fun k j z => by unfold RfW at z; omega))).trans (u2.mono (fun k j z => by unfold RfW at z; omega))).trans (fN.mono (fun k j z => by omega))
          have fB : Fr (fun k j => (k = 46 ∧ (j ≤ 5 ∨ 9 ≤ j)) ∨ (k = T ∧ (j = 11 ∨ j = 12))) M9 (setI (setI N3 T 11 r2) T 12 r3) := (((n2.mono (fun k j z => by unfold RgW at z; omega)).trans (s2.mono (fun k j z => by unfold RfW at z; omega))).trans (u2.mono (fun k j z => by unfold RfW at z; omega))).trans (fN.mono (fun k j z => by omega))
          have sv : ∀ j, j ≠ 0 → j ≠ 1 → j ≠ 13 → setV (setV (setV V 0 0 (tW B n (i + 1))) 0 1 (tW B n (i + 2))) 0 13 1 0 j = V 0 j := fun j x y z => by rw [setV_ne _ _ (by omega), setV_ne _ _ (by omega), setV_ne _ _ (by omega)]
          have sr : ∀ r j, r ≠ 0 → setV (setV (setV V 0 0 (tW B n (i + 1))) 0 1 (tW B n (i + 2))) 0 13 1 r j = V r j := fun r j x => by rw [setV_ne _ _ (by omega), setV_ne _ _ (by omega), setV_ne _ _ (by omega)]
          have s0 : setV (setV (setV V 0 0 (tW B n (i + 1))) 0 1 (tW B n (i + 2))) 0 13 1 0 0 = tW B n (i + 1) := by rw [setV_ne _ _ (by omega), setV_ne _ _ (by omega), setV_self]
          have s1' : setV (setV (setV V 0 0 (tW B n (i + 1))) 0 1 (tW B n (i + 2))) 0 13 1 0 1 = tW B n (i + 2) := by rw [setV_ne _ _ (by omega), setV_self]
          have s13 : setV (setV (setV V 0 0 (tW B n (i + 1))) 0 1 (tW B n (i + 2))) 0 13 1 0 13 = 1 := setV_self _ _ _ _
          generalize setV (setV (setV V 0 0 (tW B n (i + 1))) 0 1 (tW B n (i + 2))) 0 13 1 = U at *
          refine ⟨_, 1, rfl, g3.trans (fN.mono (fun k j z => by unfold RdW; omega)), Or.inl ⟨rfl, rfl, d5.fr fN (fun k j x z => by omega), ?_⟩⟩
          show CP _ T U
          refine CP.of hC' ⟨?_, ?_, ?_⟩ ⟨Or.inr s13, by rw [sv 14 (by omega) (by omega) (by omega)]; exact b14⟩ ⟨?_, ?_⟩ ?_ fA (fun k j x z => by omega) (fun j x y => sv j (by omega) (by omega) (by omega)) (fun r j x => sr r j (by omega))
          · rw [(fB 46 6 (by omega)).1, (f9 46 6 (by omega)).1, f6, sv 6 (by omega) (by omega) (by omega)]
          · rw [(fB 46 7 (by omega)).1, c9, s13]
          · rw [(fB 46 8 (by omega)).1, (f9 46 8 (by omega)).1, f8, sv 14 (by omega) (by omega) (by omega)]
          · rw [(fA T 18 (by omega)).2, c7, sv 7 (by omega) (by omega) (by omega)]
          · rw [(fA T 19 (by omega)).2, c8, sv 8 (by omega) (by omega) (by omega)]
          · obtain ⟨-, w1, w2, w3⟩ := hT0
            have e : ∀ k j, k ≠ 46 → k ≠ T → (setI (setI N3 T 11 r2) T 12 r3).1 k j = M.1 k j := fun k j x y => (fA k j (by omega)).1
            have eT : ∀ j, 13 ≤ j → (setI (setI N3 T 11 r2) T 12 r3).1 T j = M.1 T j := fun j x => (fA T j (by omega)).1
            refine ⟨⟨?_, ?_, ?_, ?_, ?_, ?_⟩, fun w x y => ⟨?_, ?_, ?_⟩, fun t x y => ⟨?_, ?_, ?_⟩, fun c x y => ⟨?_, ?_, ?_⟩⟩
            · rw [sI_ne (by omega), sI_self, s0, b2]
            · rw [sI_self, s1', d2]
            · rw [eT 14 (by omega), a3, sv 2 (by omega) (by omega) (by omega)]
            · rw [eT 15 (by omega), a4, sv 3 (by omega) (by omega) (by omega)]
            · rw [eT 16 (by omega), a5, sv 4 (by omega) (by omega) (by omega)]
            · rw [eT 17 (by omega), a6, sv 5 (by omega) (by omega) (by omega)]
            · rw [sv 2 (by omega) (by omega) (by omega)] at y; rw [e _ _ (by omega) (by omega), sr _ _ (by omega)]; exact (w1 w x y).1
            · rw [sv 2 (by omega) (by omega) (by omega)] at y; rw [e _ _ (by omega) (by omega), sr _ _ (by omega)]; exact (w1 w x y).2.1
            · rw [sv 2 (by omega) (by omega) (by omega)] at y; rw [e _ _ (by omega) (by omega), sr _ _ (by omega)]; exact (w1 w x y).2.2
            · rw [sv 3 (by omega) (by omega) (by omega)] at y; rw [e _ _ (by omega) (by omega), sr _ _ (by omega)]; exact (w2 t x y).1
            · rw [sv 3 (by omega) (by omega) (by omega)] at y; rw [e _ _ (by omega) (by omega), sr _ _ (by omega)]; exact (w2 t x y).2.1
            · rw [sv 3 (by omega) (by omega) (by omega)] at y; rw [e _ _ (by omega) (by omega), sr _ _ (by omega)]; exact (w2 t x y).2.2
            · rw [e _ _ (by omega) (by omega), sr _ _ (by omega)]; exact (w3 c x y).1
            · rw [(fA T 18 (by omega)).2, sr _ _ (by omega)]; exact (w3 c x y).2.1
            · rw [(fA T 19 (by omega)).2, sr _ _ (by omega)]; exact (w3 c x y).2.2
        · rw [if_pos d1]
          rw [if_neg (show ¬ 0 ≤ r3 by omega)]
          exact ⟨_, 0, rfl, g3, CLn.bad d3 d1⟩
      · rw [if_pos b1]
        rw [if_neg (show ¬ 0 ≤ r2 by omega), if_neg (show ¬ (0 : Int) ≤ -1 by decide)]
        exact ⟨_, 0, rfl, g2, CLn.bad b3 b1⟩
theorem c_isDown (M : Mem) (x : Int) : t_WF_isDown M x = if 0 ≤ x ∧ x ≤ 4 then 1 else 0 := by
  unfold t_WF_isDown
  by_cases a : x < 0
  · rw [if_pos a, if_neg (by omega)]
  · rw [if_neg a]
    by_cases b : 4 < x
    · rw [if_pos b, if_neg (by omega)]
    · rw [if_neg b, if_pos (by omega)]
theorem c_rWard (hT : T ≤ 22) (h : RD M B n i) (hk : tK B n i = 1) (hC : CP M T V) (hP : POK V) : ∃ N g, t_Reader_readWard M T = some (N, g) ∧ Fr (RdW T) M N ∧ CLn N T B n (lnS B n V i) g := by
  obtain ⟨hV, hF, p6⟩ := hP
  have hC' := hC
  obtain ⟨hT0, ⟨f6, f7, f8⟩, ⟨b13, b14⟩, ⟨c7, c8⟩, hCF⟩ := hC
  obtain ⟨a1, a2, a3, a4, a5, a6⟩ := hT0.1
  have hv := hV.1
  unfold t_Reader_readWard lnS
  rw [if_neg (show ¬ tK B n i = 0 by omega), if_pos hk, a3, h.2.2.2.2.2.2]
  simp only [qlet]
  by_cases v4 : V 0 2 = 4
  · rw [if_pos v4, if_neg (show ¬ V 0 2 < 4 by omega)]
    exact c_ref0 M (by decide)
  · rw [if_neg v4, if_pos (show V 0 2 < 4 by omega)]
    obtain ⟨N1, n1, n2, n3, n4⟩ := c_next1 h (by rw [hk]; decide)
    rw [n1, obind_some, (n2 T 14 (by unfold RgW; omega)).1, a3]
    obtain ⟨N2, g2, s1, s2, s3⟩ := c_name n3 (V := V) (rowV := 1) (r := T + 1) (N1 := 4) (len := V 0 2) (by omega) (by omega) (by omega) (fun a x y => by rw [(n2 (T + 1) a (by unfold RgW; omega)).1]; exact (hT0.2.1 a x y).1) (by omega)
    rw [s1, obind_some]
    unfold lnWard
    have h2 : Fr (RdW T) M N2 := (n2.mono rg_rd).trans (s2.mono rf_rd)
    rcases s3 with ⟨b1, b2, b3, b4, b5⟩ | ⟨b1, b2, b3⟩
    · rw [if_neg (show ¬ ¬ nmS B n V 1 (V 0 2) (i + 1) = 0 from fun z => z b1)]
      rw [if_pos (show 0 ≤ g2 from b3)]
      have kk := tK_ok (B := B) h.1.1.1 h.1.1.2 (i + 2)
      have e2 : N2.1 46 2 = tK B n (i + 2) := b4.2.2.2.2.1
      have e4 : N2.1 46 4 = tP B n (i + 2) := b4.2.2.2.2.2.2
      rw [e2, e4, w32_id (x := tK B n (i + 2) - 8) (by unfold InR; unfold kOK at kk; omega), c_isDown]
      by_cases d : 8 ≤ tK B n (i + 2) ∧ tK B n (i + 2) ≤ 12
      · have e1 : (if 0 ≤ tK B n (i + 2) - 8 ∧ tK B n (i + 2) - 8 ≤ 4 then (1 : Int) else 0) = 1 := if_pos (by omega)
        rw [e1, if_neg (show ¬ (1 : Int) = 0 by decide)]
        rw [if_neg (show ¬ ¬ (8 ≤ tK B n (i + 2) ∧ tK B n (i + 2) ≤ 12) from fun z => z d)]
        obtain ⟨N3, u1, u2, u3, u4⟩ := c_next1 b4 (show tK B n (i + 2) ≠ 32 by omega)
        rw [u1, obind_some]
        obtain ⟨N4, r4, w1, w2, w3⟩ := c_num u3 0 99
        rw [w1, obind_some]
        have h4 : Fr (RdW T) M N4 := (h2.trans (u2.mono rg_rd)).trans (w2.mono rf_rd)
        rcases w3 with ⟨d1, d2, d3, d4, d5, d6⟩ | ⟨d1, d2, d3⟩
        · rw [if_neg (show ¬ ¬ nuS B n (i + 3) 0 99 = 0 from fun z => z d1)]
          rw [if_pos (show 0 ≤ r4 from d3)]
          have fR : Fr (fun k j => k = 46 ∧ (j ≤ 5 ∨ 9 ≤ j)) M N4 := ((n2.mono (fun k j z => by unfold RgW at z; omega)).trans (s2.mono (fun k j z => by unfold RfW at z; omega))).trans ((u2.mono (fun k j z => by unfold RgW at z; omega)).trans (w2.mono (fun k j z => by unfold RfW at z; omega)))
          have t14 : N4.1 T 14 = V 0 2 := ((fR T 14 (by omega)).1).trans a3
          obtain ⟨v, hv2⟩ : ∃ v, v = V 0 2 := ⟨_, rfl⟩
          have ep : (let q21 := t_WF_put N4 (T + 1) 4 (N4.1 T 14) g2; let q24 := t_WF_put q21 (T + 2) 4 (q21.1 T 14) (tK B n (i + 2) - 8); let q27 := t_WF_put q24 (T + 3) 4 (q24.1 T 14) r4; setI q27 T 14 (w32 (q27.1 T 14 + 1))) = setI (setI (setI (setI N4 (T + 1) v g2) (T + 2) v (tK B n (i + 2) - 8)) (T + 3) v r4) T 14 (v + 1) := by
            simp (config := { proj := false }) only []
            have p1 : t_WF_put N4 (T + 1) 4 v g2 = setI N4 (T + 1) v g2 := put_in (by omega) (by omega)
            rw [t14, ← hv2, p1]
            have x1 : (setI N4 (T + 1) v g2).1 T 14 = v := (sI_ne (by omega)).trans (t14.trans hv2.symm)
            have p2 : t_WF_put (setI N4 (T + 1) v g2) (T + 2) 4 v (tK B n (i + 2) - 8) = setI (setI N4 (T + 1) v g2) (T + 2) v (tK B n (i + 2) - 8) := put_in (by omega) (by omega)
            rw [x1, p2]
            have x2 : (setI (setI N4 (T + 1) v g2) (T + 2) v (tK B n (i + 2) - 8)).1 T 14 = v := (sI_ne (by omega)).trans x1
            have p3 : t_WF_put (setI (setI N4 (T + 1) v g2) (T + 2) v (tK B n (i + 2) - 8)) (T + 3) 4 v r4 = setI (setI (setI N4 (T + 1) v g2) (T + 2) v (tK B n (i + 2) - 8)) (T + 3) v r4 := put_in (by omega) (by omega)
            rw [x2, p3]
            have x3 : (setI (setI (setI N4 (T + 1) v g2) (T + 2) v (tK B n (i + 2) - 8)) (T + 3) v r4).1 T 14 = v := (sI_ne (by omega)).trans x2
            rw [x3, w32_id (by unfold InR; omega)]
          have fN : Fr (fun k j => (k = T ∧ j = 14) ∨ (T + 1 ≤ k ∧ k ≤ T + 3 ∧ j = v)) N4 (setI (setI (setI (setI N4 (T + 1) v g2) (T + 2) v (tK B n (i + 2) - 8)) (T + 3) v r4) T 14 (v + 1)) := (((Fr.rf.setI (by omega)).setI (by omega)).setI (by omega)).setI (by omega)
          have y14 : (setI (setI (setI (setI N4 (T + 1) v g2) (T + 2) v (tK B n (i + 2) - 8)) (T + 3) v r4) T 14 (v + 1)).1 T 14 = v + 1 := sI_self _ _ _ _
          have y1 : (setI (setI (setI (setI N4 (T + 1) v g2) (T + 2) v (tK B n (i + 2) - 8)) (T + 3) v r4) T 14 (v + 1)).1 (T + 1) v = g2 := by rw [sI_ne (by omega), sI_ne (by omega), sI_ne (by omega), sI_self]
          have y2 : (setI (setI (setI (setI N4 (T + 1) v g2) (T + 2) v (tK B n (i + 2) - 8)) (T + 3) v r4) T 14 (v + 1)).1 (T + 2) v = tK B n (i + 2) - 8 := by rw [sI_ne (by omega), sI_ne (by omega), sI_self]
          have y3 : (setI (setI (setI (setI N4 (T + 1) v g2) (T + 2) v (tK B n (i + 2) - 8)) (T + 3) v r4) T 14 (v + 1)).1 (T + 3) v = r4 := by rw [sI_ne (by omega), sI_self]
          change ∃ N g, some ((let q21 := t_WF_put N4 (T + 1) 4 (N4.1 T 14) g2; let q24 := t_WF_put q21 (T + 2) 4 (q21.1 T 14) (tK B n (i + 2) - 8); let q27 := t_WF_put q24 (T + 3) 4 (q24.1 T 14) r4; setI q27 T 14 (w32 (q27.1 T 14 + 1))), (1 : Int)) = some (N, g) ∧ _
          rw [ep]
          generalize setI (setI (setI (setI N4 (T + 1) v g2) (T + 2) v (tK B n (i + 2) - 8)) (T + 3) v r4) T 14 (v + 1) = N5 at *
          rw [← hv2]
          have sv : ∀ j, j ≠ 2 → setV (setV (setV (setV V 1 v (tW B n (i + 1))) 2 v (tK B n (i + 2) - 8)) 3 v (tW B n (i + 3))) 0 2 (v + 1) 0 j = V 0 j := fun j x => by rw [setV_ne _ _ (by omega), setV_ne _ _ (by omega), setV_ne _ _ (by omega), setV_ne _ _ (by omega)]
          have sr : ∀ r j, r ≠ 0 → (3 < r ∨ j ≠ v) → setV (setV (setV (setV V 1 v (tW B n (i + 1))) 2 v (tK B n (i + 2) - 8)) 3 v (tW B n (i + 3))) 0 2 (v + 1) r j = V r j := fun r j x z => by rw [setV_ne _ _ (by omega), setV_ne _ _ (by omega), setV_ne _ _ (by omega), setV_ne _ _ (by omega)]
          have s2' : setV (setV (setV (setV V 1 v (tW B n (i + 1))) 2 v (tK B n (i + 2) - 8)) 3 v (tW B n (i + 3))) 0 2 (v + 1) 0 2 = v + 1 := setV_self _ _ _ _
          have z1 : setV (setV (setV (setV V 1 v (tW B n (i + 1))) 2 v (tK B n (i + 2) - 8)) 3 v (tW B n (i + 3))) 0 2 (v + 1) 1 v = tW B n (i + 1) := by rw [setV_ne _ _ (by omega), setV_ne _ _ (by omega), setV_ne _ _ (by omega), setV_self]
          have z2 : setV (setV (setV (setV V 1 v (tW B n (i + 1))) 2 v (tK B n (i + 2) - 8)) 3 v (tW B n (i + 3))) 0 2 (v + 1) 2 v = tK B n (i + 2) - 8 := by rw [setV_ne _ _ (by omega), setV_ne _ _ (by omega), setV_self]
          have z3 : setV (setV (setV (setV V 1 v (tW B n (i + 1))) 2 v (tK B n (i + 2) - 8)) 3 v (tW B n (i + 3))) 0 2 (v + 1) 3 v = tW B n (i + 3) := by rw [setV_ne _ _ (by omega), setV_self]
          generalize setV (setV (setV (setV V 1 v (tW B n (i + 1))) 2 v (tK B n (i + 2) - 8)) 3 v (tW B n (i + 3))) 0 2 (v + 1) = U at *
          have fA : Fr (fun k j => (k = 46 ∧ (j ≤ 5 ∨ 9 ≤ j)) ∨ (k = T ∧ j = 14) ∨ (T + 1 ≤ k ∧ k ≤ T + 3 ∧ j = v)) M N5 := (fR.mono (fun k j z => Or.inl z)).trans (fN.mono (fun k j z => Or.inr z))
          refine ⟨_, 1, rfl, h4.trans (fN.mono (fun k j z => by unfold RdW; omega)), Or.inl ⟨rfl, rfl, d5.fr fN (fun k j x z => by omega), ?_⟩⟩
          show CP _ T U
          refine CP.of hC' ⟨?_, ?_, ?_⟩ ⟨by rw [sv 13 (by omega)]; exact b13, by rw [sv 14 (by omega)]; exact b14⟩ ⟨?_, ?_⟩ ?_ fA (fun k j x z => by omega) (fun j x y => sv j (by omega)) (fun r j x => sr r j (by omega) (by omega))
          · rw [(fA 46 6 (by omega)).1, f6, sv 6 (by omega)]
          · rw [(fA 46 7 (by omega)).1, f7, sv 13 (by omega)]
          · rw [(fA 46 8 (by omega)).1, f8, sv 14 (by omega)]
          · rw [(fA T 18 (by omega)).2, c7, sv 7 (by omega)]
          · rw [(fA T 19 (by omega)).2, c8, sv 8 (by omega)]
          · obtain ⟨-, w1, w2, w3⟩ := hT0
            have e : ∀ k j, k ≠ 46 → k ≠ T → (T + 3 < k ∨ j ≠ v) → N5.1 k j = M.1 k j := fun k j x y z => (fA k j (by omega)).1
            have eT : ∀ j, j ≠ 14 → N5.1 T j = M.1 T j := fun j x => (fA T j (by omega)).1
            refine ⟨⟨?_, ?_, ?_, ?_, ?_, ?_⟩, fun w x y => ?_, fun t x y => ⟨?_, ?_, ?_⟩, fun c x y => ⟨?_, ?_, ?_⟩⟩
            · rw [eT 11 (by omega), a1, sv 0 (by omega)]
            · rw [eT 12 (by omega), a2, sv 1 (by omega)]
            · rw [y14, s2']
            · rw [eT 15 (by omega), a4, sv 3 (by omega)]
            · rw [eT 16 (by omega), a5, sv 4 (by omega)]
            · rw [eT 17 (by omega), a6, sv 5 (by omega)]
            · rw [s2'] at y
              by_cases q : w = v
              · rw [q, y1, y2, y3, z1, z2, z3]; exact ⟨b2, rfl, d2⟩
              · rw [e _ _ (by omega) (by omega) (Or.inr q), e _ _ (by omega) (by omega) (Or.inr q), e _ _ (by omega) (by omega) (Or.inr q), sr _ _ (by omega) (Or.inr q), sr _ _ (by omega) (Or.inr q), sr _ _ (by omega) (Or.inr q)]
                exact w1 w x (by omega)
            · rw [sv 3 (by omega)] at y; rw [e _ _ (by omega) (by omega) (by omega), sr _ _ (by omega) (by omega)]; exact (w2 t x y).1
            · rw [sv 3 (by omega)] at y; rw [e _ _ (by omega) (by omega) (by omega), sr _ _ (by omega) (by omega)]; exact (w2 t x y).2.1
            · rw [sv 3 (by omega)] at y; rw [e _ _ (by omega) (by omega) (by omega), sr _ _ (by omega) (by omega)]; exact (w2 t x y).2.2
            · rw [e _ _ (by omega) (by omega) (by omega), sr _ _ (by omega) (by omega)]; exact (w3 c x y).1
            · rw [(fA T 18 (by omega)).2, sr _ _ (by omega) (by omega)]; exact (w3 c x y).2.1
            · rw [(fA T 19 (by omega)).2, sr _ _ (by omega) (by omega)]; exact (w3 c x y).2.2
        · rw [if_pos d1]
          rw [if_neg (show ¬ 0 ≤ r4 by omega)]
          exact ⟨_, 0, rfl, h4, CLn.bad d3 d1⟩
      · have e1 : (if 0 ≤ tK B n (i + 2) - 8 ∧ tK B n (i + 2) - 8 ≤ 4 then (1 : Int) else 0) = 0 := if_neg (by omega)
        rw [e1, if_pos rfl]
        rw [if_pos d]
        obtain ⟨N, g, z1, z2, z3⟩ := c_ref0 (T := T) (B := B) (n := n) N2 (f := 1) (p := tP B n (i + 2)) (by decide) (a := 0) (U := V)
        exact ⟨N, g, z1, h2.trans z2, z3⟩
    · rw [if_pos b1]
      rw [if_neg (show ¬ 0 ≤ g2 by omega)]
      exact ⟨_, 0, rfl, h2, CLn.bad b3 b1⟩
theorem c_rSeed (hT : T ≤ 22) (h : RD M B n i) (hk : tK B n i = 6) (hC : CP M T V) (hP : POK V) : ∃ N g, t_Reader_readSeed M T = some (N, g) ∧ Fr (RdW T) M N ∧ CLn N T B n (lnS B n V i) g := by
  obtain ⟨hV, hF, p6⟩ := hP
  have hC' := hC
  obtain ⟨hT0, ⟨f6, f7, f8⟩, ⟨b13, b14⟩, ⟨c7, c8⟩, hCF⟩ := hC
  obtain ⟨a1, a2, a3, a4, a5, a6⟩ := hT0.1
  have hv := hV.1
  unfold t_Reader_readSeed lnS
  rw [if_neg (show ¬ tK B n i = 0 by omega), if_neg (show ¬ tK B n i = 1 by omega), if_neg (show ¬ tK B n i = 2 by omega), if_neg (show ¬ tK B n i = 3 by omega), if_neg (show ¬ tK B n i = 4 by omega), if_neg (show ¬ tK B n i = 5 by omega), if_pos hk, f8, h.2.2.2.2.2.2]
  simp (config := { proj := false }) only [qlet]
  by_cases t14 : V 0 14 = 1
  · rw [if_pos t14, if_neg (show ¬ V 0 14 = 0 by omega)]
    exact c_ref0 M (by decide)
  · rw [if_neg t14, if_pos (show V 0 14 = 0 by omega)]
    have f9 : Fr (fun k j => k = 46 ∧ j = 8) M (setI M 46 8 1) := Fr.rf.setI ⟨rfl, rfl⟩
    have r9 := h.fr f9 (fun k j x z => by omega)
    have c9 : (setI M 46 8 1).1 46 8 = 1 := sI_self _ _ _ _
    generalize setI M 46 8 1 = M9 at *
    obtain ⟨N1, n1, n2, n3, n4⟩ := c_next1 r9 (by rw [hk]; decide)
    rw [n1, obind_some]
    obtain ⟨N2, r2, s1, s2, s3⟩ := c_num n3 0 99999
    rw [s1, obind_some]
    unfold lnSeed
    have fN : Fr (fun k j => k = T ∧ j = 17) N2 (setI N2 T 17 r2) := Fr.rf.setI ⟨rfl, rfl⟩
    have y17 : (setI N2 T 17 r2).1 T 17 = r2 := sI_self _ _ _ _
    change ∃ N g, (if r2 < 0 then some (setI N2 T 17 r2, (0 : Int)) else some (setI N2 T 17 r2, 1)) = some (N, g) ∧ _
    generalize setI N2 T 17 r2 = N3 at *
    have fB : Fr (fun k j => (k = 46 ∧ (j ≤ 5 ∨ 9 ≤ j)) ∨ (k = T ∧ j = 17)) M9 N3 := ((n2.mono (fun k j z => by unfold RgW at z; omega)).trans (s2.mono (fun k j z => by unfold RfW at z; omega))).trans (fN.mono (fun k j z => by omega))
    have fA : Fr (fun k j => (k = 46 ∧ (j ≤ 5 ∨ 8 ≤ j)) ∨ (k = T ∧ j = 17)) M N3 := (f9.mono (fun k j z => by omega)).trans (fB.mono (fun k j z => by omega))
    have g3 : Fr (RdW T) M N3 := ((f9.mono (fun k j z => by unfold RdW; omega)).trans (n2.mono rg_rd)).trans ((s2.mono rf_rd).trans (fN.mono (fun k j z => by unfold RdW; omega)))
    rcases s3 with ⟨d1, d2, d3, d4, d5, d6⟩ | ⟨d1, d2, d3⟩
    · rw [if_neg (show ¬ r2 < 0 by omega), if_neg (show ¬ ¬ nuS B n (i + 1) 0 99999 = 0 from fun z => z d1)]
      have sv : ∀ j, j ≠ 5 → j ≠ 14 → setV (setV V 0 5 (tW B n (i + 1))) 0 14 1 0 j = V 0 j := fun j x y => by rw [setV_ne _ _ (by omega), setV_ne _ _ (by omega)]
      have sr : ∀ r j, r ≠ 0 → setV (setV V 0 5 (tW B n (i + 1))) 0 14 1 r j = V r j := fun r j x => by rw [setV_ne _ _ (by omega), setV_ne _ _ (by omega)]
      have s5 : setV (setV V 0 5 (tW B n (i + 1))) 0 14 1 0 5 = tW B n (i + 1) := by rw [setV_ne _ _ (by omega), setV_self]
      have s14 : setV (setV V 0 5 (tW B n (i + 1))) 0 14 1 0 14 = 1 := setV_self _ _ _ _
      generalize setV (setV V 0 5 (tW B n (i + 1))) 0 14 1 = U at *
      refine ⟨_, 1, rfl, g3, Or.inl ⟨rfl, rfl, d5.fr fN (fun k j x z => by omega), ?_⟩⟩
      show CP _ T U
      refine CP.of hC' ⟨?_, ?_, ?_⟩ ⟨by rw [sv 13 (by omega) (by omega)]; exact b13, Or.inr s14⟩ ⟨?_, ?_⟩ ?_ fA (fun k j x z => by omega) (fun j x y => sv j (by omega) (by omega)) (fun r j x => sr r j (by omega))
      · rw [(fA 46 6 (by omega)).1, f6, sv 6 (by omega) (by omega)]
      · rw [(fA 46 7 (by omega)).1, f7, sv 13 (by omega) (by omega)]
      · rw [(fB 46 8 (by omega)).1, c9, s14]
      · rw [(fA T 18 (by omega)).2, c7, sv 7 (by omega) (by omega)]
      · rw [(fA T 19 (by omega)).2, c8, sv 8 (by omega) (by omega)]
      · obtain ⟨-, w1, w2, w3⟩ := hT0
        have e : ∀ k j, k ≠ 46 → k ≠ T → N3.1 k j = M.1 k j := fun k j x y => (fA k j (by omega)).1
        have eT : ∀ j, j ≠ 17 → N3.1 T j = M.1 T j := fun j x => (fA T j (by omega)).1
        refine ⟨⟨?_, ?_, ?_, ?_, ?_, ?_⟩, fun w x y => ⟨?_, ?_, ?_⟩, fun t x y => ⟨?_, ?_, ?_⟩, fun c x y => ⟨?_, ?_, ?_⟩⟩
        · rw [eT 11 (by omega), a1, sv 0 (by omega) (by omega)]
        · rw [eT 12 (by omega), a2, sv 1 (by omega) (by omega)]
        · rw [eT 14 (by omega), a3, sv 2 (by omega) (by omega)]
        · rw [eT 15 (by omega), a4, sv 3 (by omega) (by omega)]
        · rw [eT 16 (by omega), a5, sv 4 (by omega) (by omega)]
        · rw [y17, s5, d2]
        · rw [sv 2 (by omega) (by omega)] at y; rw [e _ _ (by omega) (by omega), sr _ _ (by omega)]; exact (w1 w x y).1
        · rw [sv 2 (by omega) (by omega)] at y; rw [e _ _ (by omega) (by omega), sr _ _ (by omega)]; exact (w1 w x y).2.1
        · rw [sv 2 (by omega) (by omega)] at y; rw [e _ _ (by omega) (by omega), sr _ _ (by omega)]; exact (w1 w x y).2.2
        · rw [sv 3 (by omega) (by omega)] at y; rw [e _ _ (by omega) (by omega), sr _ _ (by omega)]; exact (w2 t x y).1
        · rw [sv 3 (by omega) (by omega)] at y; rw [e _ _ (by omega) (by omega), sr _ _ (by omega)]; exact (w2 t x y).2.1
        · rw [sv 3 (by omega) (by omega)] at y; rw [e _ _ (by omega) (by omega), sr _ _ (by omega)]; exact (w2 t x y).2.2
        · rw [e _ _ (by omega) (by omega), sr _ _ (by omega)]; exact (w3 c x y).1
        · rw [(fA T 18 (by omega)).2, sr _ _ (by omega)]; exact (w3 c x y).2.1
        · rw [(fA T 19 (by omega)).2, sr _ _ (by omega)]; exact (w3 c x y).2.2
    · rw [if_pos (show r2 < 0 by omega), if_pos d1]
      refine ⟨_, 0, rfl, g3, CLn.bad ⟨?_, ?_⟩ d1⟩
      · rw [(fN 46 9 (by omega)).1]; exact d3.1
      · rw [(fN 46 10 (by omega)).1]; exact d3.2
end RL
