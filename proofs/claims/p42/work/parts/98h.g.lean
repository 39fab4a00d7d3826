section
/-! ===== the class's reader: lines ===== -/
section RL
variable {B : Int → Int} {n : Int} {M : Mem} {i T : Nat} {V : TV}
theorem CLn.bad {N : Mem} {f p : Int} {a : Nat} {U : TV} (h : FT N f p) (hf : f ≠ 0) : CLn N T B n (f, p, a, U) 0 := Or.inr ⟨hf, rfl, h⟩
/-- a refusal ahead of all -/
theorem c_ref0 (M : Mem) {f p : Int} (hf : f ≠ 0) {a : Nat} {U : TV} : ∃ N g, (some ((t_Reader_refuse M f p).1, (t_Reader_refuse M f p).2) : Option (Mem × Int)) = some (N, g) ∧ Fr (RdW T) M N ∧ CLn N T B n (f, p, a, U) g := by
  obtain ⟨x1, x2, x3⟩ := c_refuse (M := M) f p
  exact ⟨_, 0, rfl, x1.mono rf_rd, CLn.bad x3 hf⟩
theorem CP.of {M N : Mem} {U : TV} (hC : CP M T V) (f6 : N.1 46 6 = U 0 6 ∧ N.1 46 7 = U 0 13 ∧ N.1 46 8 = U 0 14) (b : (U 0 13 = 0 ∨ U 0 13 = 1) ∧ (U 0 14 = 0 ∨ U 0 14 = 1)) (c : cntT (N.2 T 18) 64 = U 0 7 ∧ cntT (N.2 T 19) 64 = U 0 8) (hT : CT0 N T U) {W : Nat → Int → Prop} (hF : Fr W M N) (hd : ∀ k j, (((k = T + 10 ∨ k = T + 15) ∧ (j = 3 ∨ j = 4)) ∨ k = T + 11 ∨ k = T + 12 ∨ k = T + 16 ∨ k = T + 17) → ¬ W k j) (e0 : ∀ j, 9 ≤ j → j ≤ 12 → U 0 j = V 0 j) (er : ∀ r j, 10 ≤ r → U r j = V r j) : CP N T U := by
  refine ⟨hT, f6, b, c, ?_⟩
  have h := hC.2.2.2.2.fr hF hd
  unfold CFm OutR at *
  rw [e0 9 (by omega) (by omega), e0 10 (by omega) (by omega), e0 11 (by omega) (by omega), e0 12 (by omega) (by omega)]
  obtain ⟨⟨a1, a2, a3⟩, d1, d2, d3⟩ := h
  refine ⟨⟨a1, a2, fun j x y => ?_⟩, d1, d2, fun j x y => ?_⟩
  · rw [er 10 j (by omega), er 11 j (by omega)]; exact a3 j x y
  · rw [er 12 j (by omega), er 13 j (by omega)]; exact d3 j x y
theorem c_rTown (hT : T ≤ 22) (h : RD M B n i) (hk : tK B n i = 0) (hC : CP M T V) (hP : POK V) : ∃ N g, t_Reader_readTown M T = some (N, g) ∧ Fr (RdW T) M N ∧ CLn N T B n (lnS B n V i) g := by
  obtain ⟨hV, hF, p6⟩ := hP
  have hC' := hC
  obtain ⟨hT0, ⟨f6, f7, f8⟩, ⟨b13, b14⟩, ⟨c7, c8⟩, hCF⟩ := hC
  obtain ⟨a1, a2, a3, a4, a5, a6⟩ := hT0.1
  have hv := hV.1
  unfold t_Reader_readTown t_Reader_readTown_L49 lnS
  rw [if_pos hk, f7, f6, a4, h.2.2.2.2.2.2]
  simp (config := { proj := false }) only [qlet]
  by_cases t13 : V 0 13 = 1
  · rw [if_pos t13, if_neg (show ¬ V 0 13 = 0 by omega)]
    exact c_ref0 M (by decide)
  · rw [if_neg t13, if_pos (show V 0 13 = 0 by omega)]
    by_cases q : 0 < V 0 6 ∨ 0 < V 0 7 ∨ 0 < V 0 8 ∨ 0 < V 0 3
    · rw [if_pos q]
      have ref4 := c_ref0 (T := T) (B := B) (n := n) M (f := 4) (p := tP B n i) (by decide) (a := 0) (U := V)
      by_cases q6 : 0 < V 0 6
      · rw [if_pos q6]; exact ref4
      · rw [if_neg q6]
        by_cases q7 : M.2 T 18 = 0
        · have z7 := cnt_eq0.mpr q7
          rw [if_pos q7]
          by_cases q8 : M.2 T 19 = 0
          · have z8 := cnt_eq0.mpr q8
            rw [if_pos q8, if_neg (show ¬ V 0 3 ≤ 0 by omega)]; exact ref4
          · rw [if_neg q8]; exact ref4
        · rw [if_neg q7]; exact ref4
    · have q7 := cnt_eq0.mp (show cntT (M.2 T 18) 64 = 0 by omega)
      have q8 := cnt_eq0.mp (show cntT (M.2 T 19) 64 = 0 by omega)
      rw [if_neg q, if_neg (show ¬ 0 < V 0 6 by omega), if_pos q7, if_pos q8, if_pos (show V 0 3 ≤ 0 by omega)]
      have f9 : Fr (fun k j => k = 46 ∧ j = 7) M (setI M 46 7 1) := Fr.rf.setI ⟨rfl, rfl⟩
      have r9 := h.fr f9 (fun k j x z => by omega)
      have c9 : (setI M 46 7 1).1 46 7 = 1 := sI_self _ _ _ _
      generalize setI M 46 7 1 = M9 at *
      obtain ⟨N1, n1, n2, n3, n4⟩ := c_next1 r9 (by rw [hk]; decide)
      rw [n1, obind_some]
      obtain ⟨N2, r2, s1, s2, s3⟩ := c_num n3 1 8
      rw [s1, obind_some]
      unfold lnTown t_Reader_readTown_L97
      have g2 : Fr (RdW T) M N2 := ((f9.mono (fun k j z => by unfold RdW; omega)).trans (n2.mono rg_rd)).trans (s2.mono rf_rd)
      rcases s3 with ⟨b1, b2, b3, b4, b5, b6⟩ | ⟨b1, b2, b3⟩
      · rw [if_neg (show ¬ ¬ nuS B n (i + 1) 1 8 = 0 from fun z => z b1)]
        rw [if_pos (show 0 ≤ r2 by omega)]
        obtain ⟨N3, r3, u1, u2, u3⟩ := c_num b5 1 6
        rw [u1, obind_some]
        have g3 : Fr (RdW T) M N3 := g2.trans (u2.mono rf_rd)
        rcases u3 with ⟨d1, d2, d3, d4, d5, d6⟩ | ⟨d1, d2, d3⟩
        · rw [if_neg (show ¬ ¬ nuS B n (i + 2) 1 6 = 0 from fun z => z d1)]
          rw [if_pos (show 0 ≤ r3 by omega)]
          have fN : Fr (fun k j => k = T ∧ (j = 11 ∨ j = 12)) N3 (setI (setI N3 T 11 r2) T 12 r3) := (Fr.rf.setI (by omega)).setI (by omega)
          have fA : Fr (fun k j => k = 46 ∨ (k = T ∧ (j = 11 ∨ j = 12))) M (setI (setI N3 T 11 r2) T 12 r3) := ((((f9.mono (fun k j z => by omega)).trans (n2.mono (fun k j z => by unfold RgW at z; omega))).trans (s2.mono (fun k j z => by unfold RfW at z; omega))).trans (u2.mono (fun k j z => by unfold RfW at z; omega))).trans (fN.mono (fun k j z => by omega))
          have fB : Fr (fun k j => (k = 46 ∧ (j ≤ 5 ∨ 9 ≤ j)) ∨ (k = T ∧ (j = 11 ∨ j = 12))) M9 (setI (setI N3 T 11 r2) T 12 r3) := (((n2.mono (fun k j z => by unfold RgW at z; omega)).trans (s2.mono (fun k j z => by unfold RfW at z; omega))).trans (u2.mono (fun k j z => by unfold RfW at z; omega))).trans (fN.mono (fun k j z => by omega))
          have sv : ∀ j, j ≠ 0 → j ≠ 1 → j ≠ 13 → setV (setV (setV V 0 0 (tW B n (i + 1))) 0 1 (tW B n (i + 2))) 0 13 1 0 j = V 0 j := fun j x y z => by rw [setV_ne _ _ (by omega), setV_ne _ _ (by omega), setV_ne _ _ (by omega)]
          have sr : ∀ r j, r ≠ 0 → setV (setV (setV V 0 0 (tW B n (i + 1))) 0 1 (tW B n (i + 2))) 0 13 1 r j = V r j := fun r j x => by rw [setV_ne _ _ (by omega), setV_ne _ _ (by omega), setV_ne _ _ (by omega)]
          have s0 : setV (setV (setV V 0 0 (tW B n (i + 1))) 0 1 (tW B n (i + 2))) 0 13 1 0 0 = tW B n (i + 1) := by rw [setV_ne _ _ (by omega), setV_ne _ _ (by omega), setV_self]
          have s1' : setV (setV (setV V 0 0 (tW B n (i + 1))) 0 1 (tW B n (i + 2))) 0 13 1 0 1 = tW B n (i + 2) := by rw [setV_ne _ _ (by omega), setV_self]
          have s13 : setV (setV (setV V 0 0 (tW B n (i + 1))) 0 1 (tW B n (i + 2))) 0 13 1 0 13 = 1 := setV_self _ _ _ _
          generalize setV (setV (setV V 0 0 (tW B n (i + 1))) 0 1 (tW B n (i + 2))) 0 13 1 = U at *
          refine ⟨_, 1, rfl, g3.trans (fN.mono (fun k j z => by unfold RdW; omega)), Or.inl ⟨rfl, rfl, d5.fr fN (fun k j x z => by omega), ?_⟩⟩
          show CP _ T U
          refine CP.of hC' ⟨?_, ?_, ?_⟩ ⟨Or.inr s13, by rw [sv 14 (by omega) (by omega) (by omega)]; exact b14⟩ ⟨?_, ?_⟩ ?_ fA (fun k j x z => by omega) (fun j x y => sv j (by omega) (by omega) (by omega)) (fun r j x => sr r j (by omega))
          · rw [(fB 46 6 (by omega)).1, (f9 46 6 (by omega)).1, f6, sv 6 (by omega) (by omega) (by omega)]
          · rw [(fB 46 7 (by omega)).1, c9, s13]
          · rw [(fB 46 8 (by omega)).1, (f9 46 8 (by omega)).1, f8, sv 14 (by omega) (by omega) (by omega)]
          · rw [(fA T 18 (by omega)).2, c7, sv 7 (by omega) (by omega) (by omega)]
          · rw [(fA T 19 (by omega)).2, c8, sv 8 (by omega) (by omega) (by omega)]
          · obtain ⟨-, w1, w2, w3⟩ := hT0
            have e : ∀ k j, k ≠ 46 → k ≠ T → (setI (setI N3 T 11 r2) T 12 r3).1 k j = M.1 k j := fun k j x y => (fA k j (by omega)).1
            have eT : ∀ j, 13 ≤ j → (setI (setI N3 T 11 r2) T 12 r3).1 T j = M.1 T j := fun j x => (fA T j (by omega)).1
            refine ⟨⟨?_, ?_, ?_, ?_, ?_, ?_⟩, fun w x y => ⟨?_, ?_, ?_⟩, fun t x y => ⟨?_, ?_, ?_⟩, fun c x y => ⟨?_, ?_, ?_⟩⟩
            · rw [sI_ne (by omega), sI_self, s0, b2]
            · rw [sI_self, s1', d2]
            · rw [eT 14 (by omega), a3, sv 2 (by omega) (by omega) (by omega)]
            · rw [eT 15 (by omega), a4, sv 3 (by omega) (by omega) (by omega)]
            · rw [eT 16 (by omega), a5, sv 4 (by omega) (by omega) (by omega)]
            · rw [eT 17 (by omega), a6, sv 5 (by omega) (by omega) (by omega)]
            · rw [sv 2 (by omega) (by omega) (by omega)] at y; rw [e _ _ (by omega) (by omega), sr _ _ (by omega)]; exact (w1 w x y).1
            · rw [sv 2 (by omega) (by omega) (by omega)] at y; rw [e _ _ (by omega) (by omega), sr _ _ (by omega)]; exact (w1 w x y).2.1
            · rw [sv 2 (by omega) (by omega) (by omega)] at y; rw [e _ _ (by omega) (by omega), sr _ _ (by omega)]; exact (w1 w x y).2.2
            · rw [sv 3 (by omega) (by omega) (by omega)] at y; rw [e _ _ (by omega) (by omega), sr _ _ (by omega)]; exact (w2 t x y).1
            · rw [sv 3 (by omega) (by omega) (by omega)] at y; rw [e _ _ (by omega) (by omega), sr _ _ (by omega)]; exact (w2 t x y).2.1
            · rw [sv 3 (by omega) (by omega) (by omega)] at y; rw [e _ _ (by omega) (by omega), sr _ _ (by omega)]; exact (w2 t x y).2.2
            · rw [e _ _ (by omega) (by omega), sr _ _ (by omega)]; exact (w3 c x y).1
            · rw [(fA T 18 (by omega)).2, sr _ _ (by omega)]; exact (w3 c x y).2.1
            · rw [(fA T 19 (by omega)).2, sr _ _ (by omega)]; exact (w3 c x y).2.2
        · rw [if_pos d1]
          rw [if_neg (show ¬ 0 ≤ r3 by omega)]
          exact ⟨_, 0, rfl, g3, CLn.bad d3 d1⟩
      · rw [if_pos b1]
        rw [if_neg (show ¬ 0 ≤ r2 by omega), if_neg (show ¬ (0 : Int) ≤ -1 by decide)]
        exact ⟨_, 0, rfl, g2, CLn.bad b3 b1⟩
theorem c_isDown (M : Mem) (x : Int) : t_WF_isDown M x = if 0 ≤ x ∧ x ≤ 4 then 1 else 0 := by
  unfold t_WF_isDown
  by_cases a : x < 0
  · rw [if_pos a, if_neg (by omega)]
  · rw [if_neg a]
    by_cases b : 4 < x
    · rw [if_pos b, if_neg (by omega)]
    · rw [if_neg b, if_pos (by omega)]
theorem c_rWard (hT : T ≤ 22) (h : RD M B n i) (hk : tK B n i = 1) (hC : CP M T V) (hP : POK V) : ∃ N g, t_Reader_readWard M T = some (N, g) ∧ Fr (RdW T) M N ∧ CLn N T B n (lnS B n V i) g := by
  obtain ⟨hV, hF, p6⟩ := hP
  have hC' := hC
  obtain ⟨hT0, ⟨f6, f7, f8⟩, ⟨b13, b14⟩, ⟨c7, c8⟩, hCF⟩ := hC
  obtain ⟨a1, a2, a3, a4, a5, a6⟩ := hT0.1
  have hv := hV.1
  unfold t_Reader_readWard lnS
  rw [if_neg (show ¬ tK B n i = 0 by omega), if_pos hk, a3, h.2.2.2.2.2.2]
  simp only [qlet]
  by_cases v4 : V 0 2 = 4
  · rw [if_pos v4, if_neg (show ¬ V 0 2 < 4 by omega)]
    exact c_ref0 M (by decide)
  · rw [if_neg v4, if_pos (show V 0 2 < 4 by omega)]
    obtain ⟨N1, n1, n2, n3, n4⟩ := c_next1 h (by rw [hk]; decide)
    rw [n1, obind_some, (n2 T 14 (by unfold RgW; omega)).1, a3]
    obtain ⟨N2, g2, s1, s2, s3⟩ := c_name n3 (V := V) (rowV := 1) (r := T + 1) (N1 := 4) (len := V 0 2) (by omega) (by omega) (by omega) (fun a x y => by rw [(n2 (T + 1) a (by unfold RgW; omega)).1]; exact (hT0.2.1 a x y).1) (by omega)
    rw [s1, obind_some]
    unfold lnWard
    have h2 : Fr (RdW T) M N2 := (n2.mono rg_rd).trans (s2.mono rf_rd)
    rcases s3 with ⟨b1, b2, b3, b4, b5⟩ | ⟨b1, b2, b3⟩
    · rw [if_neg (show ¬ ¬ nmS B n V 1 (V 0 2) (i + 1) = 0 from fun z => z b1)]
      rw [if_pos (show 0 ≤ g2 from b3)]
      have kk := tK_ok (B := B) h.1.1.1 h.1.1.2 (i + 2)
      have e2 : N2.1 46 2 = tK B n (i + 2) := b4.2.2.2.2.1
      have e4 : N2.1 46 4 = tP B n (i + 2) := b4.2.2.2.2.2.2
      rw [e2, e4, w32_id (x := tK B n (i + 2) - 8) (by unfold InR; unfold kOK at kk; omega), c_isDown]
      by_cases d : 8 ≤ tK B n (i + 2) ∧ tK B n (i + 2) ≤ 12
      · have e1 : (if 0 ≤ tK B n (i + 2) - 8 ∧ tK B n (i + 2) - 8 ≤ 4 then (1 : Int) else 0) = 1 := if_pos (by omega)
        rw [e1, if_neg (show ¬ (1 : Int) = 0 by decide)]
        rw [if_neg (show ¬ ¬ (8 ≤ tK B n (i + 2) ∧ tK B n (i + 2) ≤ 12) from fun z => z d)]
        obtain ⟨N3, u1, u2, u3, u4⟩ := c_next1 b4 (show tK B n (i + 2) ≠ 32 by omega)
        rw [u1, obind_some]
        obtain ⟨N4, r4, w1, w2, w3⟩ := c_num u3 0 99
        rw [w1, obind_some]
        have h4 : Fr (RdW T) M N4 := (h2.trans (u2.mono rg_rd)).trans (w2.mono rf_rd)
        rcases w3 with ⟨d1, d2, d3, d4, d5, d6⟩ | ⟨d1, d2, d3⟩
        · rw [if_neg (show ¬ ¬ nuS B n (i + 3) 0 99 = 0 from fun z => z d1)]
          rw [if_pos (show 0 ≤ r4 from d3)]
          have fR : Fr (fun k j => k = 46 ∧ (j ≤ 5 ∨ 9 ≤ j)) M N4 := ((n2.mono (fun k j z => by unfold RgW at z; omega)).trans (s2.mono (fun k j z => by unfold RfW at z; omega))).trans ((u2.mono (fun k j z => by unfold RgW at z; omega)).trans (w2.mono (fun k j z => by unfold RfW at z; omega)))
          have t14 : N4.1 T 14 = V 0 2 := ((fR T 14 (by omega)).1).trans a3
          obtain ⟨v, hv2⟩ : ∃ v, v = V 0 2 := ⟨_, rfl⟩
          have ep : (let q21 := t_WF_put N4 (T + 1) 4 (N4.1 T 14) g2; let q24 := t_WF_put q21 (T + 2) 4 (q21.1 T 14) (tK B n (i + 2) - 8); let q27 := t_WF_put q24 (T + 3) 4 (q24.1 T 14) r4; setI q27 T 14 (w32 (q27.1 T 14 + 1))) = setI (setI (setI (setI N4 (T + 1) v g2) (T + 2) v (tK B n (i + 2) - 8)) (T + 3) v r4) T 14 (v + 1) := by
            simp (config := { proj := false }) only []
            have p1 : t_WF_put N4 (T + 1) 4 v g2 = setI N4 (T + 1) v g2 := put_in (by omega) (by omega)
            rw [t14, ← hv2, p1]
            have x1 : (setI N4 (T + 1) v g2).1 T 14 = v := (sI_ne (by omega)).trans (t14.trans hv2.symm)
            have p2 : t_WF_put (setI N4 (T + 1) v g2) (T + 2) 4 v (tK B n (i + 2) - 8) = setI (setI N4 (T + 1) v g2) (T + 2) v (tK B n (i + 2) - 8) := put_in (by omega) (by omega)
            rw [x1, p2]
            have x2 : (setI (setI N4 (T + 1) v g2) (T + 2) v (tK B n (i + 2) - 8)).1 T 14 = v := (sI_ne (by omega)).trans x1
            have p3 : t_WF_put (setI (setI N4 (T + 1) v g2) (T + 2) v (tK B n (i + 2) - 8)) (T + 3) 4 v r4 = setI (setI (setI N4 (T + 1) v g2) (T + 2) v (tK B n (i + 2) - 8)) (T + 3) v r4 := put_in (by omega) (by omega)
            rw [x2, p3]
            have x3 : (setI (setI (setI N4 (T + 1) v g2) (T + 2) v (tK B n (i + 2) - 8)) (T + 3) v r4).1 T 14 = v := (sI_ne (by omega)).trans x2
            rw [x3, w32_id (by unfold InR; omega)]
          have fN : Fr (fun k j => (k = T ∧ j = 14) ∨ (T + 1 ≤ k ∧ k ≤ T + 3 ∧ j = v)) N4 (setI (setI (setI (setI N4 (T + 1) v g2) (T + 2) v (tK B n (i + 2) - 8)) (T + 3) v r4) T 14 (v + 1)) := (((Fr.rf.setI (by omega)).setI (by omega)).setI (by omega)).setI (by omega)
          have y14 : (setI (setI (setI (setI N4 (T + 1) v g2) (T + 2) v (tK B n (i + 2) - 8)) (T + 3) v r4) T 14 (v + 1)).1 T 14 = v + 1 := sI_self _ _ _ _
          have y1 : (setI (setI (setI (setI N4 (T + 1) v g2) (T + 2) v (tK B n (i + 2) - 8)) (T + 3) v r4) T 14 (v + 1)).1 (T + 1) v = g2 := by rw [sI_ne (by omega), sI_ne (by omega), sI_ne (by omega), sI_self]
          have y2 : (setI (setI (setI (setI N4 (T + 1) v g2) (T + 2) v (tK B n (i + 2) - 8)) (T + 3) v r4) T 14 (v + 1)).1 (T + 2) v = tK B n (i + 2) - 8 := by rw [sI_ne (by omega), sI_ne (by omega), sI_self]
          have y3 : (setI (setI (setI (setI N4 (T + 1) v g2) (T + 2) v (tK B n (i + 2) - 8)) (T + 3) v r4) T 14 (v + 1)).1 (T + 3) v = r4 := by rw [sI_ne (by omega), sI_self]
          change ∃ N g, some ((let q21 := t_WF_put N4 (T + 1) 4 (N4.1 T 14) g2; let q24 := t_WF_put q21 (T + 2) 4 (q21.1 T 14) (tK B n (i + 2) - 8); let q27 := t_WF_put q24 (T + 3) 4 (q24.1 T 14) r4; setI q27 T 14 (w32 (q27.1 T 14 + 1))), (1 : Int)) = some (N, g) ∧ _
          rw [ep]
          generalize setI (setI (setI (setI N4 (T + 1) v g2) (T + 2) v (tK B n (i + 2) - 8)) (T + 3) v r4) T 14 (v + 1) = N5 at *
          rw [← hv2]
          have sv : ∀ j, j ≠ 2 → setV (setV (setV (setV V 1 v (tW B n (i + 1))) 2 v (tK B n (i + 2) - 8)) 3 v (tW B n (i + 3))) 0 2 (v + 1) 0 j = V 0 j := fun j x => by rw [setV_ne _ _ (by omega), setV_ne _ _ (by omega), setV_ne _ _ (by omega), setV_ne _ _ (by omega)]
          have sr : ∀ r j, r ≠ 0 → (3 < r ∨ j ≠ v) → setV (setV (setV (setV V 1 v (tW B n (i + 1))) 2 v (tK B n (i + 2) - 8)) 3 v (tW B n (i + 3))) 0 2 (v + 1) r j = V r j := fun r j x z => by rw [setV_ne _ _ (by omega), setV_ne _ _ (by omega), setV_ne _ _ (by omega), setV_ne _ _ (by omega)]
          have s2' : setV (setV (setV (setV V 1 v (tW B n (i + 1))) 2 v (tK B n (i + 2) - 8)) 3 v (tW B n (i + 3))) 0 2 (v + 1) 0 2 = v + 1 := setV_self _ _ _ _
          have z1 : setV (setV (setV (setV V 1 v (tW B n (i + 1))) 2 v (tK B n (i + 2) - 8)) 3 v (tW B n (i + 3))) 0 2 (v + 1) 1 v = tW B n (i + 1) := by rw [setV_ne _ _ (by omega), setV_ne _ _ (by omega), setV_ne _ _ (by omega), setV_self]
          have z2 : setV (setV (setV (setV V 1 v (tW B n (i + 1))) 2 v (tK B n (i + 2) - 8)) 3 v (tW B n (i + 3))) 0 2 (v + 1) 2 v = tK B n (i + 2) - 8 := by rw [setV_ne _ _ (by omega), setV_ne _ _ (by omega), setV_self]
          have z3 : setV (setV (setV (setV V 1 v (tW B n (i + 1))) 2 v (tK B n (i + 2) - 8)) 3 v (tW B n (i + 3))) 0 2 (v + 1) 3 v = tW B n (i + 3) := by rw [setV_ne _ _ (by omega), setV_self]
          generalize setV (setV (setV (setV V 1 v (tW B n (i + 1))) 2 v (tK B n (i + 2) - 8)) 3 v (tW B n (i + 3))) 0 2 (v + 1) = U at *
          have fA : Fr (fun k j => (k = 46 ∧ (j ≤ 5 ∨ 9 ≤ j)) ∨ (k = T ∧ j = 14) ∨ (T + 1 ≤ k ∧ k ≤ T + 3 ∧ j = v)) M N5 := (fR.mono (fun k j z => Or.inl z)).trans (fN.mono (fun k j z => Or.inr z))
          refine ⟨_, 1, rfl, h4.trans (fN.mono (fun k j z => by unfold RdW; omega)), Or.inl ⟨rfl, rfl, d5.fr fN (fun k j x z => by omega), ?_⟩⟩
          show CP _ T U
          refine CP.of hC' ⟨?_, ?_, ?_⟩ ⟨by rw [sv 13 (by omega)]; exact b13, by rw [sv 14 (by omega)]; exact b14⟩ ⟨?_, ?_⟩ ?_ fA (fun k j x z => by omega) (fun j x y => sv j (by omega)) (fun r j x => sr r j (by omega) (by omega))
          · rw [(fA 46 6 (by omega)).1, f6, sv 6 (by omega)]
          · rw [(fA 46 7 (by omega)).1, f7, sv 13 (by omega)]
          · rw [(fA 46 8 (by omega)).1, f8, sv 14 (by omega)]
          · rw [(fA T 18 (by omega)).2, c7, sv 7 (by omega)]
          · rw [(fA T 19 (by omega)).2, c8, sv 8 (by omega)]
          · obtain ⟨-, w1, w2, w3⟩ := hT0
            have e : ∀ k j, k ≠ 46 → k ≠ T → (T + 3 < k ∨ j ≠ v) → N5.1 k j = M.1 k j := fun k j x y z => (fA k j (by omega)).1
            have eT : ∀ j, j ≠ 14 → N5.1 T j = M.1 T j := fun j x => (fA T j (by omega)).1
            refine ⟨⟨?_, ?_, ?_, ?_, ?_, ?_⟩, fun w x y => ?_, fun t x y => ⟨?_, ?_, ?_⟩, fun c x y => ⟨?_, ?_, ?_⟩⟩
            · rw [eT 11 (by omega), a1, sv 0 (by omega)]
            · rw [eT 12 (by omega), a2, sv 1 (by omega)]
            · rw [y14, s2']
            · rw [eT 15 (by omega), a4, sv 3 (by omega)]
            · rw [eT 16 (by omega), a5, sv 4 (by omega)]
            · rw [eT 17 (by omega), a6, sv 5 (by omega)]
            · rw [s2'] at y
              by_cases q : w = v
              · rw [q, y1, y2, y3, z1, z2, z3]; exact ⟨b2, rfl, d2⟩
              · rw [e _ _ (by omega) (by omega) (Or.inr q), e _ _ (by omega) (by omega) (Or.inr q), e _ _ (by omega) (by omega) (Or.inr q), sr _ _ (by omega) (Or.inr q), sr _ _ (by omega) (Or.inr q), sr _ _ (by omega) (Or.inr q)]
                exact w1 w x (by omega)
            · rw [sv 3 (by omega)] at y; rw [e _ _ (by omega) (by omega) (by omega), sr _ _ (by omega) (by omega)]; exact (w2 t x y).1
            · rw [sv 3 (by omega)] at y; rw [e _ _ (by omega) (by omega) (by omega), sr _ _ (by omega) (by omega)]; exact (w2 t x y).2.1
            · rw [sv 3 (by omega)] at y; rw [e _ _ (by omega) (by omega) (by omega), sr _ _ (by omega) (by omega)]; exact (w2 t x y).2.2
            · rw [e _ _ (by omega) (by omega) (by omega), sr _ _ (by omega) (by omega)]; exact (w3 c x y).1
            · rw [(fA T 18 (by omega)).2, sr _ _ (by omega) (by omega)]; exact (w3 c x y).2.1
            · rw [(fA T 19 (by omega)).2, sr _ _ (by omega) (by omega)]; exact (w3 c x y).2.2
        · rw [if_pos d1]
          rw [if_neg (show ¬ 0 ≤ r4 by omega)]
          exact ⟨_, 0, rfl, h4, CLn.bad d3 d1⟩
      · have e1 : (if 0 ≤ tK B n (i + 2) - 8 ∧ tK B n (i + 2) - 8 ≤ 4 then (1 : Int) else 0) = 0 := if_neg (by omega)
        rw [e1, if_pos rfl]
        rw [if_pos d]
        obtain ⟨N, g, z1, z2, z3⟩ := c_ref0 (T := T) (B := B) (n := n) N2 (f := 1) (p := tP B n (i + 2)) (by decide) (a := 0) (U := V)
        exact ⟨N, g, z1, h2.trans z2, z3⟩
    · rw [if_pos b1]
      rw [if_neg (show ¬ 0 ≤ g2 by omega)]
      exact ⟨_, 0, rfl, h2, CLn.bad b3 b1⟩
theorem c_rSeed (hT : T ≤ 22) (h : RD M B n i) (hk : tK B n i = 6) (hC : CP M T V) (hP : POK V) : ∃ N g, t_Reader_readSeed M T = some (N, g) ∧ Fr (RdW T) M N ∧ CLn N T B n (lnS B n V i) g := by
  obtain ⟨hV, hF, p6⟩ := hP
  have hC' := hC
  obtain ⟨hT0, ⟨f6, f7, f8⟩, ⟨b13, b14⟩, ⟨c7, c8⟩, hCF⟩ := hC
  obtain ⟨a1, a2, a3, a4, a5, a6⟩ := hT0.1
  have hv := hV.1
  unfold t_Reader_readSeed lnS
  rw [if_neg (show ¬ tK B n i = 0 by omega), if_neg (show ¬ tK B n i = 1 by omega), if_neg (show ¬ tK B n i = 2 by omega), if_neg (show ¬ tK B n i = 3 by omega), if_neg (show ¬ tK B n i = 4 by omega), if_neg (show ¬ tK B n i = 5 by omega), if_pos hk, f8, h.2.2.2.2.2.2]
  simp (config := { proj := false }) only [qlet]
  by_cases t14 : V 0 14 = 1
  · rw [if_pos t14, if_neg (show ¬ V 0 14 = 0 by omega)]
    exact c_ref0 M (by decide)
  · rw [if_neg t14, if_pos (show V 0 14 = 0 by omega)]
    have f9 : Fr (fun k j => k = 46 ∧ j = 8) M (setI M 46 8 1) := Fr.rf.setI ⟨rfl, rfl⟩
    have r9 := h.fr f9 (fun k j x z => by omega)
    have c9 : (setI M 46 8 1).1 46 8 = 1 := sI_self _ _ _ _
    generalize setI M 46 8 1 = M9 at *
    obtain ⟨N1, n1, n2, n3, n4⟩ := c_next1 r9 (by rw [hk]; decide)
    rw [n1, obind_some]
    obtain ⟨N2, r2, s1, s2, s3⟩ := c_num n3 0 99999
    rw [s1, obind_some]
    unfold lnSeed
    have fN : Fr (fun k j => k = T ∧ j = 17) N2 (setI N2 T 17 r2) := Fr.rf.setI ⟨rfl, rfl⟩
    have y17 : (setI N2 T 17 r2).1 T 17 = r2 := sI_self _ _ _ _
    change ∃ N g, (if r2 < 0 then some (setI N2 T 17 r2, (0 : Int)) else some (setI N2 T 17 r2, 1)) = some (N, g) ∧ _
    generalize setI N2 T 17 r2 = N3 at *
    have fB : Fr (fun k j => (k = 46 ∧ (j ≤ 5 ∨ 9 ≤ j)) ∨ (k = T ∧ j = 17)) M9 N3 := ((n2.mono (fun k j z => by unfold RgW at z; omega)).trans (s2.mono (fun k j z => by unfold RfW at z; omega))).trans (fN.mono (fun k j z => by omega))
    have fA : Fr (fun k j => (k = 46 ∧ (j ≤ 5 ∨ 8 ≤ j)) ∨ (k = T ∧ j = 17)) M N3 := (f9.mono (fun k j z => by omega)).trans (fB.mono (fun k j z => by omega))
    have g3 : Fr (RdW T) M N3 := ((f9.mono (fun k j z => by unfold RdW; omega)).trans (n2.mono rg_rd)).trans ((s2.mono rf_rd).trans (fN.mono (fun k j z => by unfold RdW; omega)))
    rcases s3 with ⟨d1, d2, d3, d4, d5, d6⟩ | ⟨d1, d2, d3⟩
    · rw [if_neg (show ¬ r2 < 0 by omega), if_neg (show ¬ ¬ nuS B n (i + 1) 0 99999 = 0 from fun z => z d1)]
      have sv : ∀ j, j ≠ 5 → j ≠ 14 → setV (setV V 0 5 (tW B n (i + 1))) 0 14 1 0 j = V 0 j := fun j x y => by rw [setV_ne _ _ (by omega), setV_ne _ _ (by omega)]
      have sr : ∀ r j, r ≠ 0 → setV (setV V 0 5 (tW B n (i + 1))) 0 14 1 r j = V r j := fun r j x => by rw [setV_ne _ _ (by omega), setV_ne _ _ (by omega)]
      have s5 : setV (setV V 0 5 (tW B n (i + 1))) 0 14 1 0 5 = tW B n (i + 1) := by rw [setV_ne _ _ (by omega), setV_self]
      have s14 : setV (setV V 0 5 (tW B n (i + 1))) 0 14 1 0 14 = 1 := setV_self _ _ _ _
      generalize setV (setV V 0 5 (tW B n (i + 1))) 0 14 1 = U at *
      refine ⟨_, 1, rfl, g3, Or.inl ⟨rfl, rfl, d5.fr fN (fun k j x z => by omega), ?_⟩⟩
      show CP _ T U
      refine CP.of hC' ⟨?_, ?_, ?_⟩ ⟨by rw [sv 13 (by omega) (by omega)]; exact b13, Or.inr s14⟩ ⟨?_, ?_⟩ ?_ fA (fun k j x z => by omega) (fun j x y => sv j (by omega) (by omega)) (fun r j x => sr r j (by omega))
      · rw [(fA 46 6 (by omega)).1, f6, sv 6 (by omega) (by omega)]
      · rw [(fA 46 7 (by omega)).1, f7, sv 13 (by omega) (by omega)]
      · rw [(fB 46 8 (by omega)).1, c9, s14]
      · rw [(fA T 18 (by omega)).2, c7, sv 7 (by omega) (by omega)]
      · rw [(fA T 19 (by omega)).2, c8, sv 8 (by omega) (by omega)]
      · obtain ⟨-, w1, w2, w3⟩ := hT0
        have e : ∀ k j, k ≠ 46 → k ≠ T → N3.1 k j = M.1 k j := fun k j x y => (fA k j (by omega)).1
        have eT : ∀ j, j ≠ 17 → N3.1 T j = M.1 T j := fun j x => (fA T j (by omega)).1
        refine ⟨⟨?_, ?_, ?_, ?_, ?_, ?_⟩, fun w x y => ⟨?_, ?_, ?_⟩, fun t x y => ⟨?_, ?_, ?_⟩, fun c x y => ⟨?_, ?_, ?_⟩⟩
        · rw [eT 11 (by omega), a1, sv 0 (by omega) (by omega)]
        · rw [eT 12 (by omega), a2, sv 1 (by omega) (by omega)]
        · rw [eT 14 (by omega), a3, sv 2 (by omega) (by omega)]
        · rw [eT 15 (by omega), a4, sv 3 (by omega) (by omega)]
        · rw [eT 16 (by omega), a5, sv 4 (by omega) (by omega)]
        · rw [y17, s5, d2]
        · rw [sv 2 (by omega) (by omega)] at y; rw [e _ _ (by omega) (by omega), sr _ _ (by omega)]; exact (w1 w x y).1
        · rw [sv 2 (by omega) (by omega)] at y; rw [e _ _ (by omega) (by omega), sr _ _ (by omega)]; exact (w1 w x y).2.1
        · rw [sv 2 (by omega) (by omega)] at y; rw [e _ _ (by omega) (by omega), sr _ _ (by omega)]; exact (w1 w x y).2.2
        · rw [sv 3 (by omega) (by omega)] at y; rw [e _ _ (by omega) (by omega), sr _ _ (by omega)]; exact (w2 t x y).1
        · rw [sv 3 (by omega) (by omega)] at y; rw [e _ _ (by omega) (by omega), sr _ _ (by omega)]; exact (w2 t x y).2.1
        · rw [sv 3 (by omega) (by omega)] at y; rw [e _ _ (by omega) (by omega), sr _ _ (by omega)]; exact (w2 t x y).2.2
        · rw [e _ _ (by omega) (by omega), sr _ _ (by omega)]; exact (w3 c x y).1
        · rw [(fA T 18 (by omega)).2, sr _ _ (by omega)]; exact (w3 c x y).2.1
        · rw [(fA T 19 (by omega)).2, sr _ _ (by omega)]; exact (w3 c x y).2.2
    · rw [if_pos (show r2 < 0 by omega), if_pos d1]
      refine ⟨_, 0, rfl, g3, CLn.bad ⟨?_, ?_⟩ d1⟩
      · rw [(fN 46 9 (by omega)).1]; exact d3.1
      · rw [(fN 46 10 (by omega)).1]; exact d3.2
end RL
end
section
/-! ===== the class's reader: walls, stairs, things, parts, laws ===== -/
section RM
variable {B : Int → Int} {n : Int} {M : Mem} {i T : Nat} {V : TV}
theorem c_thAt {N : Mem} (hT0 : CT0 N T V) (hv : 0 ≤ V 0 3 ∧ V 0 3 ≤ 8) (c : Int) : t_WF_indexOf N (T + 7) 8 (N.1 T 15) c = some (match fnd (fun a => V 6 (a : Int)) c (V 0 3).toNat with | some b => (b : Int) | none => -1) := by
  have ix := indexOf_eq (M := N) (r := T + 7) (N := 8) (p := fun a => V 6 (a : Int)) (v := c) (len := (V 0 3).toNat) (by omega) (by omega) (fun a ha => (hT0.2.2.1 a (by omega) (by omega)).2.2)
  rw [Int.toNat_of_nonneg hv.1] at ix
  rw [hT0.1.2.2.2.1]
  exact ix
theorem bit_if {b : Bool} : (if b = true then (1 : Int) else 0) = 1 ↔ b = true := by cases b <;> decide
theorem c_rWall (hT : T ≤ 22) (h : RD M B n i) (hk : tK B n i = 3) (hC : CP M T V) (hP : POK V) : ∃ N g, t_Reader_readWall M T = some (N, g) ∧ Fr (RdW T) M N ∧ CLn N T B n (lnS B n V i) g := by
  obtain ⟨hV, hF, p6⟩ := hP
  have hC' := hC
  obtain ⟨hT0, ⟨f6, f7, f8⟩, ⟨b13, b14⟩, ⟨c7, c8⟩, hCF⟩ := hC
  obtain ⟨a1, a2, a3, a4, a5, a6⟩ := hT0.1
  have hv := hV.1
  have hcl := hV.cells
  unfold t_Reader_readWall t_Reader_readWall_L93 lnS
  rw [if_neg (show ¬ tK B n i = 0 by omega), if_neg (show ¬ tK B n i = 1 by omega), if_neg (show ¬ tK B n i = 2 by omega), if_pos hk, bitCount_eq, c7, h.2.2.2.2.2.2]
  simp only [qlet]
  by_cases t12 : V 0 7 = 12
  · rw [if_pos t12, if_neg (show ¬ V 0 7 < 12 by omega)]
    exact c_ref0 M (by decide)
  · rw [if_neg t12, if_pos (show V 0 7 < 12 by omega)]
    obtain ⟨N1, n1, n2, n3, n4⟩ := c_next1 h (by rw [hk]; decide)
    rw [n1, obind_some]
    have e1 : ∀ j, N1.1 T j = M.1 T j := fun j => (n2 T j (by unfold RgW; omega)).1
    obtain ⟨N2, r2, s1, s2, s3⟩ := c_cell n3 (T := T) hV ((e1 11).trans a1) ((e1 12).trans a2) (by omega)
    rw [s1, obind_some]
    unfold lnWall
    have g2 : Fr (RdW T) M N2 := (n2.mono rg_rd).trans (s2.mono rf_rd)
    have fR : Fr (fun k j => k = 46 ∧ (j ≤ 5 ∨ 9 ≤ j)) M N2 := (n2.mono (fun k j z => by unfold RgW at z; omega)).trans (s2.mono (fun k j z => by unfold RfW at z; omega))
    rcases s3 with ⟨c, b1, b2, b3, b4, b5, b6, b7⟩ | ⟨f, p, b1, b2, b3, b4⟩
    · subst b2
      rw [b7, if_pos (show 0 ≤ r2 from b3), b6]
      have hT2 : CT0 N2 T V := hT0.fr2 fR (fun k j x z => by omega)
      have w8 := (hV.2.2.2 r2 b3 (by omega)).2.2.1
      have w9 := (hV.2.2.2 r2 b3 (by omega)).2.2.2
      have q8 := (hT2.2.2.2 r2 b3 (by omega)).2.1
      have q9 := (hT2.2.2.2 r2 b3 (by omega)).2.2
      rw [bitOf_tb N2 _ b3 (by omega), bitOf_tb N2 _ b3 (by omega), q8, q9, c_thAt hT2 (by omega)]
      by_cases y8 : V 8 r2 = 0
      · rw [if_neg (show ¬ ¬ V 8 r2 = 0 from fun z => z y8), if_neg (show ¬ (if decide (V 8 r2 = 1) = true then (1 : Int) else 0) = 1 by rw [bit_if, decide_eq_true_iff]; omega)]
        have r5 := c_ref0 (T := T) (B := B) (n := n) N2 (f := 5) (p := tP B n (i + 2)) (by decide) (a := 0) (U := V)
        have r5' : ∃ N g, (some ((t_Reader_refuse N2 5 (tP B n (i + 2))).1, (t_Reader_refuse N2 5 (tP B n (i + 2))).2) : Option (Mem × Int)) = some (N, g) ∧ Fr (RdW T) M N ∧ CLn N T B n (5, tP B n (i + 2), 0, V) g := by
          obtain ⟨N, g, z1, z2, z3⟩ := r5
          exact ⟨N, g, z1, g2.trans z2, z3⟩
        by_cases y9 : V 9 r2 = 0
        · rw [if_neg (show ¬ (if decide (V 9 r2 = 1) = true then (1 : Int) else 0) = 1 by rw [bit_if, decide_eq_true_iff]; omega)]
          cases e : fnd (fun a => V 6 (a : Int)) r2 (V 0 3).toNat with
          | some b =>
            rw [obind_some, if_neg (show ¬ ((b : Nat) : Int) < 0 by omega)]
            rw [if_pos (show ¬ V 9 r2 = 0 ∨ some b ≠ none from Or.inr (by simp))]
            exact r5'
          | none =>
            rw [obind_some, if_pos (show (-1 : Int) < 0 by decide)]
            rw [if_neg (show ¬ (¬ V 9 r2 = 0 ∨ (none : Option Nat) ≠ none) from fun z => by rcases z with z | z; exact z y9; exact z rfl)]
            have fN : Fr (fun k j => k = T ∧ j = 18) N2 (setL N2 T 18 ((N2.2 T 18) ||| (q_lshl 1 r2))) := Fr.rf.setL ⟨rfl, rfl⟩
            have y18 : (setL N2 T 18 ((N2.2 T 18) ||| (q_lshl 1 r2))).2 T 18 = (N2.2 T 18) ||| (q_lshl 1 r2) := sL_self _ _ _ _
            generalize setL N2 T 18 ((N2.2 T 18) ||| (q_lshl 1 r2)) = N3 at *
            have m18 : N2.2 T 18 = M.2 T 18 := (fR T 18 (by omega)).2
            rw [m18] at y18 q8
            have tb0 : tb (M.2 T 18) r2 = false := by rw [q8]; exact decide_eq_false (by omega)
            have fA : Fr (fun k j => (k = 46 ∧ (j ≤ 5 ∨ 9 ≤ j)) ∨ (k = T ∧ j = 18)) M N3 := (fR.mono (fun k j z => Or.inl z)).trans (fN.mono (fun k j z => Or.inr z))
            have sv : ∀ j, j ≠ 7 → setV (setV V 8 r2 1) 0 7 (V 0 7 + 1) 0 j = V 0 j := fun j x => by rw [setV_ne _ _ (by omega), setV_ne _ _ (by omega)]
            have sr : ∀ r j, r ≠ 0 → (r ≠ 8 ∨ j ≠ r2) → setV (setV V 8 r2 1) 0 7 (V 0 7 + 1) r j = V r j := fun r j x y => by rw [setV_ne _ _ (by omega), setV_ne _ _ (by omega)]
            have s7 : setV (setV V 8 r2 1) 0 7 (V 0 7 + 1) 0 7 = V 0 7 + 1 := setV_self _ _ _ _
            have s8 : setV (setV V 8 r2 1) 0 7 (V 0 7 + 1) 8 r2 = 1 := by rw [setV_ne _ _ (by omega), setV_self]
            generalize setV (setV V 8 r2 1) 0 7 (V 0 7 + 1) = U at *
            refine ⟨_, 1, rfl, g2.trans (fN.mono (fun k j z => by unfold RdW; omega)), Or.inl ⟨rfl, rfl, b5.fr fN (fun k j x z => by omega), ?_⟩⟩
            show CP _ T U
            refine CP.of hC' ⟨?_, ?_, ?_⟩ ⟨by rw [sv 13 (by omega)]; exact b13, by rw [sv 14 (by omega)]; exact b14⟩ ⟨?_, ?_⟩ ?_ fA (fun k j x z => by omega) (fun j x y => sv j (by omega)) (fun r j x => sr r j (by omega) (by omega))
            · rw [(fA 46 6 (by omega)).1, f6, sv 6 (by omega)]
            · rw [(fA 46 7 (by omega)).1, f7, sv 13 (by omega)]
            · rw [(fA 46 8 (by omega)).1, f8, sv 14 (by omega)]
            · rw [y18, cnt_set b3 (by omega) tb0 64 (Nat.le_refl _), c7, s7, if_pos (by omega)]
            · rw [(fA T 19 (by omega)).2, c8, sv 8 (by omega)]
            · obtain ⟨-, w1, w2, w3⟩ := hT0
              have e : ∀ k j, k ≠ 46 → k ≠ T → N3.1 k j = M.1 k j := fun k j x y => (fA k j (by omega)).1
              have eT : ∀ j, j ≠ 18 → N3.1 T j = M.1 T j := fun j z => (fA T j (by omega)).1
              refine ⟨⟨?_, ?_, ?_, ?_, ?_, ?_⟩, fun w x y => ⟨?_, ?_, ?_⟩, fun t x y => ⟨?_, ?_, ?_⟩, fun c x y => ⟨?_, ?_, ?_⟩⟩
              · rw [eT 11 (by omega), a1, sv 0 (by omega)]
              · rw [eT 12 (by omega), a2, sv 1 (by omega)]
              · rw [eT 14 (by omega), a3, sv 2 (by omega)]
              · rw [eT 15 (by omega), a4, sv 3 (by omega)]
              · rw [eT 16 (by omega), a5, sv 4 (by omega)]
              · rw [eT 17 (by omega), a6, sv 5 (by omega)]
              · rw [sv 2 (by omega)] at y; rw [e _ _ (by omega) (by omega), sr _ _ (by omega) (by omega)]; exact (w1 w x y).1
              · rw [sv 2 (by omega)] at y; rw [e _ _ (by omega) (by omega), sr _ _ (by omega) (by omega)]; exact (w1 w x y).2.1
              · rw [sv 2 (by omega)] at y; rw [e _ _ (by omega) (by omega), sr _ _ (by omega) (by omega)]; exact (w1 w x y).2.2
              · rw [sv 3 (by omega)] at y; rw [e _ _ (by omega) (by omega), sr _ _ (by omega) (by omega)]; exact (w2 t x y).1
              · rw [sv 3 (by omega)] at y; rw [e _ _ (by omega) (by omega), sr _ _ (by omega) (by omega)]; exact (w2 t x y).2.1
              · rw [sv 3 (by omega)] at y; rw [e _ _ (by omega) (by omega), sr _ _ (by omega) (by omega)]; exact (w2 t x y).2.2
              · rw [e _ _ (by omega) (by omega), sr _ _ (by omega) (by omega)]; exact (w3 c x y).1
              · rw [y18, tb_or _ b3 (by omega) x (by omega), (w3 c x y).2.1]
                by_cases z : c = r2
                · rw [z, s8, decide_eq_true (show r2 = r2 from rfl), Bool.or_true]; rfl
                · rw [sr _ _ (by omega) (Or.inr z), decide_eq_false z, Bool.or_false]
              · rw [(fA T 19 (by omega)).2, sr _ _ (by omega) (by omega)]; exact (w3 c x y).2.2
        · rw [if_pos (show (if decide (V 9 r2 = 1) = true then (1 : Int) else 0) = 1 by rw [bit_if, decide_eq_true_iff]; omega)]
          rw [if_pos (show ¬ V 9 r2 = 0 ∨ _ from Or.inl y9)]
          exact r5'
      · rw [if_pos (show ¬ V 8 r2 = 0 from y8), if_pos (show (if decide (V 8 r2 = 1) = true then (1 : Int) else 0) = 1 by rw [bit_if, decide_eq_true_iff]; omega)]
        obtain ⟨N, g, z1, z2, z3⟩ := c_ref0 (T := T) (B := B) (n := n) N2 (f := 3) (p := tP B n (i + 2)) (by decide) (a := 0) (U := V)
        exact ⟨N, g, z1, g2.trans z2, z3⟩
    · rw [b4, if_neg (show ¬ 0 ≤ r2 by omega)]
      exact ⟨_, 0, rfl, g2, CLn.bad b3 b2⟩
theorem c_rStair (hT : T ≤ 22) (h : RD M B n i) (hk : tK B n i = 4) (hC : CP M T V) (hP : POK V) : ∃ N g, t_Reader_readStair M T = some (N, g) ∧ Fr (RdW T) M N ∧ CLn N T B n (lnS B n V i) g := by
  obtain ⟨hV, hF, p6⟩ := hP
  have hC' := hC
  obtain ⟨hT0, ⟨f6, f7, f8⟩, ⟨b13, b14⟩, ⟨c7, c8⟩, hCF⟩ := hC
  obtain ⟨a1, a2, a3, a4, a5, a6⟩ := hT0.1
  have hv := hV.1
  have hcl := hV.cells
  unfold t_Reader_readStair lnS
  rw [if_neg (show ¬ tK B n i = 0 by omega), if_neg (show ¬ tK B n i = 1 by omega), if_neg (show ¬ tK B n i = 2 by omega), if_neg (show ¬ tK B n i = 3 by omega), if_pos hk, bitCount_eq, c8, h.2.2.2.2.2.2]
  simp only [qlet]
  by_cases t12 : V 0 8 = 8
  · rw [if_pos t12, if_neg (show ¬ V 0 8 < 8 by omega)]
    exact c_ref0 M (by decide)
  · rw [if_neg t12, if_pos (show V 0 8 < 8 by omega)]
    obtain ⟨N1, n1, n2, n3, n4⟩ := c_next1 h (by rw [hk]; decide)
    rw [n1, obind_some]
    have e1 : ∀ j, N1.1 T j = M.1 T j := fun j => (n2 T j (by unfold RgW; omega)).1
    obtain ⟨N2, r2, s1, s2, s3⟩ := c_cell n3 (T := T) hV ((e1 11).trans a1) ((e1 12).trans a2) (by omega)
    rw [s1, obind_some]
    unfold lnStair
    have g2 : Fr (RdW T) M N2 := (n2.mono rg_rd).trans (s2.mono rf_rd)
    have fR : Fr (fun k j => k = 46 ∧ (j ≤ 5 ∨ 9 ≤ j)) M N2 := (n2.mono (fun k j z => by unfold RgW at z; omega)).trans (s2.mono (fun k j z => by unfold RfW at z; omega))
    rcases s3 with ⟨c, b1, b2, b3, b4, b5, b6, b7⟩ | ⟨f, p, b1, b2, b3, b4⟩
    · subst b2
      rw [b7, if_pos (show 0 ≤ r2 from b3), b6]
      have hT2 : CT0 N2 T V := hT0.fr2 fR (fun k j x z => by omega)
      have w8 := (hV.2.2.2 r2 b3 (by omega)).2.2.1
      have w9 := (hV.2.2.2 r2 b3 (by omega)).2.2.2
      have q8 := (hT2.2.2.2 r2 b3 (by omega)).2.1
      have q9 := (hT2.2.2.2 r2 b3 (by omega)).2.2
      rw [bitOf_tb N2 _ b3 (by omega), bitOf_tb N2 _ b3 (by omega), q8, q9]
      by_cases y8 : V 9 r2 = 0
      · rw [if_neg (show ¬ ¬ V 9 r2 = 0 from fun z => z y8), if_neg (show ¬ (if decide (V 9 r2 = 1) = true then (1 : Int) else 0) = 1 by rw [bit_if, decide_eq_true_iff]; omega)]
        by_cases y9 : V 8 r2 = 0
        · rw [if_neg (show ¬ (if decide (V 8 r2 = 1) = true then (1 : Int) else 0) = 1 by rw [bit_if, decide_eq_true_iff]; omega), if_neg (show ¬ ¬ V 8 r2 = 0 from fun z => z y9)]
          have fN : Fr (fun k j => k = T ∧ j = 19) N2 (setL N2 T 19 ((N2.2 T 19) ||| (q_lshl 1 r2))) := Fr.rf.setL ⟨rfl, rfl⟩
          have y18 : (setL N2 T 19 ((N2.2 T 19) ||| (q_lshl 1 r2))).2 T 19 = (N2.2 T 19) ||| (q_lshl 1 r2) := sL_self _ _ _ _
          generalize setL N2 T 19 ((N2.2 T 19) ||| (q_lshl 1 r2)) = N3 at *
          have m18 : N2.2 T 19 = M.2 T 19 := (fR T 19 (by omega)).2
          rw [m18] at y18 q9
          have tb0 : tb (M.2 T 19) r2 = false := by rw [q9]; exact decide_eq_false (by omega)
          have fA : Fr (fun k j => (k = 46 ∧ (j ≤ 5 ∨ 9 ≤ j)) ∨ (k = T ∧ j = 19)) M N3 := (fR.mono (fun k j z => Or.inl z)).trans (fN.mono (fun k j z => Or.inr z))
          have sv : ∀ j, j ≠ 8 → setV (setV V 9 r2 1) 0 8 (V 0 8 + 1) 0 j = V 0 j := fun j x => by rw [setV_ne _ _ (by omega), setV_ne _ _ (by omega)]
          have sr : ∀ r j, r ≠ 0 → (r ≠ 9 ∨ j ≠ r2) → setV (setV V 9 r2 1) 0 8 (V 0 8 + 1) r j = V r j := fun r j x y => by rw [setV_ne _ _ (by omega), setV_ne _ _ (by omega)]
          have s7 : setV (setV V 9 r2 1) 0 8 (V 0 8 + 1) 0 8 = V 0 8 + 1 := setV_self _ _ _ _
          have s8 : setV (setV V 9 r2 1) 0 8 (V 0 8 + 1) 9 r2 = 1 := by rw [setV_ne _ _ (by omega), setV_self]
          generalize setV (setV V 9 r2 1) 0 8 (V 0 8 + 1) = U at *
          refine ⟨_, 1, rfl, g2.trans (fN.mono (fun k j z => by unfold RdW; omega)), Or.inl ⟨rfl, rfl, b5.fr fN (fun k j x z => by omega), ?_⟩⟩
          show CP _ T U
          refine CP.of hC' ⟨?_, ?_, ?_⟩ ⟨by rw [sv 13 (by omega)]; exact b13, by rw [sv 14 (by omega)]; exact b14⟩ ⟨?_, ?_⟩ ?_ fA (fun k j x z => by omega) (fun j x y => sv j (by omega)) (fun r j x => sr r j (by omega) (by omega))
          · rw [(fA 46 6 (by omega)).1, f6, sv 6 (by omega)]
          · rw [(fA 46 7 (by omega)).1, f7, sv 13 (by omega)]
          · rw [(fA 46 8 (by omega)).1, f8, sv 14 (by omega)]
          · rw [(fA T 18 (by omega)).2, c7, sv 7 (by omega)]
          · rw [y18, cnt_set b3 (by omega) tb0 64 (Nat.le_refl _), c8, s7, if_pos (by omega)]
          · obtain ⟨-, w1, w2, w3⟩ := hT0
            have e : ∀ k j, k ≠ 46 → k ≠ T → N3.1 k j = M.1 k j := fun k j x y => (fA k j (by omega)).1
            have eT : ∀ j, j ≠ 19 → N3.1 T j = M.1 T j := fun j z => (fA T j (by omega)).1
            refine ⟨⟨?_, ?_, ?_, ?_, ?_, ?_⟩, fun w x y => ⟨?_, ?_, ?_⟩, fun t x y => ⟨?_, ?_, ?_⟩, fun c x y => ⟨?_, ?_, ?_⟩⟩
            · rw [eT 11 (by omega), a1, sv 0 (by omega)]
            · rw [eT 12 (by omega), a2, sv 1 (by omega)]
            · rw [eT 14 (by omega), a3, sv 2 (by omega)]
            · rw [eT 15 (by omega), a4, sv 3 (by omega)]
            · rw [eT 16 (by omega), a5, sv 4 (by omega)]
            · rw [eT 17 (by omega), a6, sv 5 (by omega)]
            · rw [sv 2 (by omega)] at y; rw [e _ _ (by omega) (by omega), sr _ _ (by omega) (by omega)]; exact (w1 w x y).1
            · rw [sv 2 (by omega)] at y; rw [e _ _ (by omega) (by omega), sr _ _ (by omega) (by omega)]; exact (w1 w x y).2.1
            · rw [sv 2 (by omega)] at y; rw [e _ _ (by omega) (by omega), sr _ _ (by omega) (by omega)]; exact (w1 w x y).2.2
            · rw [sv 3 (by omega)] at y; rw [e _ _ (by omega) (by omega), sr _ _ (by omega) (by omega)]; exact (w2 t x y).1
            · rw [sv 3 (by omega)] at y; rw [e _ _ (by omega) (by omega), sr _ _ (by omega) (by omega)]; exact (w2 t x y).2.1
            · rw [sv 3 (by omega)] at y; rw [e _ _ (by omega) (by omega), sr _ _ (by omega) (by omega)]; exact (w2 t x y).2.2
            · rw [e _ _ (by omega) (by omega), sr _ _ (by omega) (by omega)]; exact (w3 c x y).1
            · rw [(fA T 18 (by omega)).2, sr _ _ (by omega) (by omega)]; exact (w3 c x y).2.1
            · rw [y18, tb_or _ b3 (by omega) x (by omega), (w3 c x y).2.2]
              by_cases z : c = r2
              · rw [z, s8, decide_eq_true (show r2 = r2 from rfl), Bool.or_true]; rfl
              · rw [sr _ _ (by omega) (Or.inr z), decide_eq_false z, Bool.or_false]
        · rw [if_pos (show (if decide (V 8 r2 = 1) = true then (1 : Int) else 0) = 1 by rw [bit_if, decide_eq_true_iff]; omega), if_pos (show ¬ V 8 r2 = 0 from y9)]
          obtain ⟨N, g, z1, z2, z3⟩ := c_ref0 (T := T) (B := B) (n := n) N2 (f := 5) (p := tP B n (i + 2)) (by decide) (a := 0) (U := V)
          exact ⟨N, g, z1, g2.trans z2, z3⟩
      · rw [if_pos (show ¬ V 9 r2 = 0 from y8), if_pos (show (if decide (V 9 r2 = 1) = true then (1 : Int) else 0) = 1 by rw [bit_if, decide_eq_true_iff]; omega)]
        obtain ⟨N, g, z1, z2, z3⟩ := c_ref0 (T := T) (B := B) (n := n) N2 (f := 3) (p := tP B n (i + 2)) (by decide) (a := 0) (U := V)
        exact ⟨N, g, z1, g2.trans z2, z3⟩
    · rw [b4, if_neg (show ¬ 0 ≤ r2 by omega)]
      exact ⟨_, 0, rfl, g2, CLn.bad b3 b2⟩
theorem c_rThing (hT : T ≤ 22) (h : RD M B n i) (hk : tK B n i = 5) (hC : CP M T V) (hP : POK V) : ∃ N g, t_Reader_readThing M T = some (N, g) ∧ Fr (RdW T) M N ∧ CLn N T B n (lnS B n V i) g := by
  obtain ⟨hV, hF, p6⟩ := hP
  have hC' := hC
  obtain ⟨hT0, ⟨f6, f7, f8⟩, ⟨b13, b14⟩, ⟨c7, c8⟩, hCF⟩ := hC
  obtain ⟨a1, a2, a3, a4, a5, a6⟩ := hT0.1
  have hv := hV.1
  have hcl := hV.cells
  unfold t_Reader_readThing lnS
  rw [if_neg (show ¬ tK B n i = 0 by omega), if_neg (show ¬ tK B n i = 1 by omega), if_neg (show ¬ tK B n i = 2 by omega), if_neg (show ¬ tK B n i = 3 by omega), if_neg (show ¬ tK B n i = 4 by omega), if_pos hk, a4, h.2.2.2.2.2.2]
  simp only [qlet]
  by_cases v4 : V 0 3 = 8
  · rw [if_pos v4, if_neg (show ¬ V 0 3 < 8 by omega)]
    exact c_ref0 M (by decide)
  · rw [if_neg v4, if_pos (show V 0 3 < 8 by omega)]
    obtain ⟨N1, n1, n2, n3, n4⟩ := c_next1 h (by rw [hk]; decide)
    rw [n1, obind_some, (n2 T 15 (by unfold RgW; omega)).1, a4]
    obtain ⟨N2, g2, s1, s2, s3⟩ := c_name n3 (V := V) (rowV := 4) (r := T + 5) (N1 := 8) (len := V 0 3) (by omega) (by omega) (by omega) (fun a x y => by rw [(n2 (T + 5) a (by unfold RgW; omega)).1]; exact (hT0.2.2.1 a x y).1) (by omega)
    rw [s1, obind_some]
    unfold lnThing
    have h2 : Fr (RdW T) M N2 := (n2.mono rg_rd).trans (s2.mono rf_rd)
    have l71 : ∀ (N : Mem) (x y : Int), t_Reader_readThing_L71 T N x y (-1) = some (N, 0) := fun N x y => by
      unfold t_Reader_readThing_L71
      rw [if_neg (by decide)]
    rcases s3 with ⟨b1, b2, b3, b4, b5⟩ | ⟨b1, b2, b3⟩
    · rw [if_neg (show ¬ ¬ nmS B n V 4 (V 0 3) (i + 1) = 0 from fun z => z b1)]
      rw [if_pos (show 0 ≤ g2 from b3)]
      obtain ⟨N3, r3, u1, u2, u3⟩ := c_num b4 0 99
      rw [u1, obind_some]
      have h3 : Fr (RdW T) M N3 := h2.trans (u2.mono rf_rd)
      unfold t_Reader_readThing_L57
      rcases u3 with ⟨d1, d2, d3, d4, d5, d6⟩ | ⟨d1, d2, d3⟩
      · rw [if_neg (show ¬ ¬ nuS B n (i + 2) 0 99 = 0 from fun z => z d1)]
        rw [if_pos (show 0 ≤ r3 from d3)]
        have fR3 : Fr (fun k j => k = 46 ∧ (j ≤ 5 ∨ 9 ≤ j)) M N3 := ((n2.mono (fun k j z => by unfold RgW at z; omega)).trans (s2.mono (fun k j z => by unfold RfW at z; omega))).trans (u2.mono (fun k j z => by unfold RfW at z; omega))
        obtain ⟨N4, r4, w1, w2, w3⟩ := c_cell d5 (T := T) hV (((fR3 T 11 (by omega)).1).trans a1) (((fR3 T 12 (by omega)).1).trans a2) (by omega)
        rw [w1, obind_some]
        have h4 : Fr (RdW T) M N4 := h3.trans (w2.mono rf_rd)
        have fR : Fr (fun k j => k = 46 ∧ (j ≤ 5 ∨ 9 ≤ j)) M N4 := fR3.trans (w2.mono (fun k j z => by unfold RfW at z; omega))
        rcases w3 with ⟨c, x1, x2, x3, x4, x5, x6, x7⟩ | ⟨f, p, x1, x2, x3, x4⟩
        · subst x2
          rw [x7]
          show ∃ N g, t_Reader_readThing_L71 T N4 g2 r3 r4 = some (N, g) ∧ _
          unfold t_Reader_readThing_L71 t_Reader_readThing_L109
          rw [if_pos (show 0 ≤ r4 from x3)]
          simp only [qlet]
          have hT4 : CT0 N4 T V := hT0.fr2 fR (fun k j x z => by omega)
          have w8 := (hV.2.2.2 r4 x3 (by omega)).2.2.1
          have q8 := (hT4.2.2.2 r4 x3 (by omega)).2.1
          rw [bitOf_tb N4 _ x3 (by omega), q8, c_thAt hT4 (by omega), x6]
          have r5 : ∃ N g, (some ((t_Reader_refuse N4 5 (tP B n (i + 4))).1, (t_Reader_refuse N4 5 (tP B n (i + 4))).2) : Option (Mem × Int)) = some (N, g) ∧ Fr (RdW T) M N ∧ CLn N T B n (5, tP B n (i + 4), 0, V) g := by
            obtain ⟨N, g, z1, z2, z3⟩ := c_ref0 (T := T) (B := B) (n := n) N4 (f := 5) (p := tP B n (i + 4)) (by decide) (a := 0) (U := V)
            exact ⟨N, g, z1, h4.trans z2, z3⟩
          by_cases y8 : V 8 r4 = 0
          · rw [if_neg (show ¬ (if decide (V 8 r4 = 1) = true then (1 : Int) else 0) = 1 by rw [bit_if, decide_eq_true_iff]; omega)]
            cases e : fnd (fun a => V 6 (a : Int)) r4 (V 0 3).toNat with
            | some b =>
              rw [obind_some, if_neg (show ¬ ((b : Nat) : Int) < 0 by omega)]
              rw [if_pos (show ¬ V 8 r4 = 0 ∨ some b ≠ none from Or.inr (by simp))]
              exact r5
            | none =>
              rw [obind_some, if_pos (show (-1 : Int) < 0 by decide)]
              rw [if_neg (show ¬ (¬ V 8 r4 = 0 ∨ (none : Option Nat) ≠ none) from fun z => by rcases z with z | z; exact z y8; exact z rfl)]
              have t15 : N4.1 T 15 = V 0 3 := ((fR T 15 (by omega)).1).trans a4
              obtain ⟨v, hv2⟩ : ∃ v, v = V 0 3 := ⟨_, rfl⟩
              have ep : setI (t_WF_put (t_WF_put (t_WF_put N4 (T + 5) 8 (N4.1 T 15) g2) (T + 6) 8 ((t_WF_put N4 (T + 5) 8 (N4.1 T 15) g2).1 T 15) r3) (T + 7) 8 ((t_WF_put (t_WF_put N4 (T + 5) 8 (N4.1 T 15) g2) (T + 6) 8 ((t_WF_put N4 (T + 5) 8 (N4.1 T 15) g2).1 T 15) r3).1 T 15) r4) T 15 (w32 ((t_WF_put (t_WF_put (t_WF_put N4 (T + 5) 8 (N4.1 T 15) g2) (T + 6) 8 ((t_WF_put N4 (T + 5) 8 (N4.1 T 15) g2).1 T 15) r3) (T + 7) 8 ((t_WF_put (t_WF_put N4 (T + 5) 8 (N4.1 T 15) g2) (T + 6) 8 ((t_WF_put N4 (T + 5) 8 (N4.1 T 15) g2).1 T 15) r3).1 T 15) r4).1 T 15 + 1)) = setI (setI (setI (setI N4 (T + 5) v g2) (T + 6) v r3) (T + 7) v r4) T 15 (v + 1) := by
                have p1 : t_WF_put N4 (T + 5) 8 v g2 = setI N4 (T + 5) v g2 := put_in (by omega) (by omega)
                rw [t15, ← hv2, p1]
                have z1 : (setI N4 (T + 5) v g2).1 T 15 = v := (sI_ne (by omega)).trans (t15.trans hv2.symm)
                have p2 : t_WF_put (setI N4 (T + 5) v g2) (T + 6) 8 v r3 = setI (setI N4 (T + 5) v g2) (T + 6) v r3 := put_in (by omega) (by omega)
                rw [z1, p2]
                have z2 : (setI (setI N4 (T + 5) v g2) (T + 6) v r3).1 T 15 = v := (sI_ne (by omega)).trans z1
                have p3 : t_WF_put (setI (setI N4 (T + 5) v g2) (T + 6) v r3) (T + 7) 8 v r4 = setI (setI (setI N4 (T + 5) v g2) (T + 6) v r3) (T + 7) v r4 := put_in (by omega) (by omega)
                rw [z2, p3]
                have z3 : (setI (setI (setI N4 (T + 5) v g2) (T + 6) v r3) (T + 7) v r4).1 T 15 = v := (sI_ne (by omega)).trans z2
                rw [z3, w32_id (by unfold InR; omega)]
              change ∃ N g, some (setI (t_WF_put (t_WF_put (t_WF_put N4 (T + 5) 8 (N4.1 T 15) g2) (T + 6) 8 ((t_WF_put N4 (T + 5) 8 (N4.1 T 15) g2).1 T 15) r3) (T + 7) 8 ((t_WF_put (t_WF_put N4 (T + 5) 8 (N4.1 T 15) g2) (T + 6) 8 ((t_WF_put N4 (T + 5) 8 (N4.1 T 15) g2).1 T 15) r3).1 T 15) r4) T 15 (w32 ((t_WF_put (t_WF_put (t_WF_put N4 (T + 5) 8 (N4.1 T 15) g2) (T + 6) 8 ((t_WF_put N4 (T + 5) 8 (N4.1 T 15) g2).1 T 15) r3) (T + 7) 8 ((t_WF_put (t_WF_put N4 (T + 5) 8 (N4.1 T 15) g2) (T + 6) 8 ((t_WF_put N4 (T + 5) 8 (N4.1 T 15) g2).1 T 15) r3).1 T 15) r4).1 T 15 + 1)), (1 : Int)) = some (N, g) ∧ _
              rw [ep]
              have fN : Fr (fun k j => (k = T ∧ j = 15) ∨ (T + 5 ≤ k ∧ k ≤ T + 7 ∧ j = v)) N4 (setI (setI (setI (setI N4 (T + 5) v g2) (T + 6) v r3) (T + 7) v r4) T 15 (v + 1)) := (((Fr.rf.setI (by omega)).setI (by omega)).setI (by omega)).setI (by omega)
              have y15 : (setI (setI (setI (setI N4 (T + 5) v g2) (T + 6) v r3) (T + 7) v r4) T 15 (v + 1)).1 T 15 = v + 1 := sI_self _ _ _ _
              have y1 : (setI (setI (setI (setI N4 (T + 5) v g2) (T + 6) v r3) (T + 7) v r4) T 15 (v + 1)).1 (T + 5) v = g2 := by rw [sI_ne (by omega), sI_ne (by omega), sI_ne (by omega), sI_self]
              have y2 : (setI (setI (setI (setI N4 (T + 5) v g2) (T + 6) v r3) (T + 7) v r4) T 15 (v + 1)).1 (T + 6) v = r3 := by rw [sI_ne (by omega), sI_ne (by omega), sI_self]
              have y3 : (setI (setI (setI (setI N4 (T + 5) v g2) (T + 6) v r3) (T + 7) v r4) T 15 (v + 1)).1 (T + 7) v = r4 := by rw [sI_ne (by omega), sI_self]
              clear ep
              generalize setI (setI (setI (setI N4 (T + 5) v g2) (T + 6) v r3) (T + 7) v r4) T 15 (v + 1) = N5 at *
              rw [← hv2]
              have sv : ∀ j, j ≠ 3 → setV (setV (setV (setV V 4 v (tW B n (i + 1))) 5 v (tW B n (i + 2))) 6 v r4) 0 3 (v + 1) 0 j = V 0 j := fun j x => by rw [setV_ne _ _ (by omega), setV_ne _ _ (by omega), setV_ne _ _ (by omega), setV_ne _ _ (by omega)]
              have sr : ∀ r j, r ≠ 0 → (6 < r ∨ r < 4 ∨ j ≠ v) → setV (setV (setV (setV V 4 v (tW B n (i + 1))) 5 v (tW B n (i + 2))) 6 v r4) 0 3 (v + 1) r j = V r j := fun r j x z => by rw [setV_ne _ _ (by omega), setV_ne _ _ (by omega), setV_ne _ _ (by omega), setV_ne _ _ (by omega)]
              have s3' : setV (setV (setV (setV V 4 v (tW B n (i + 1))) 5 v (tW B n (i + 2))) 6 v r4) 0 3 (v + 1) 0 3 = v + 1 := setV_self _ _ _ _
              have z1 : setV (setV (setV (setV V 4 v (tW B n (i + 1))) 5 v (tW B n (i + 2))) 6 v r4) 0 3 (v + 1) 4 v = tW B n (i + 1) := by rw [setV_ne _ _ (by omega), setV_ne _ _ (by omega), setV_ne _ _ (by omega), setV_self]
              have z2 : setV (setV (setV (setV V 4 v (tW B n (i + 1))) 5 v (tW B n (i + 2))) 6 v r4) 0 3 (v + 1) 5 v = tW B n (i + 2) := by rw [setV_ne _ _ (by omega), setV_ne _ _ (by omega), setV_self]
              have z3 : setV (setV (setV (setV V 4 v (tW B n (i + 1))) 5 v (tW B n (i + 2))) 6 v r4) 0 3 (v + 1) 6 v = r4 := by rw [setV_ne _ _ (by omega), setV_self]
              generalize setV (setV (setV (setV V 4 v (tW B n (i + 1))) 5 v (tW B n (i + 2))) 6 v r4) 0 3 (v + 1) = U at *
              have fA : Fr (fun k j => (k = 46 ∧ (j ≤ 5 ∨ 9 ≤ j)) ∨ (k = T ∧ j = 15) ∨ (T + 5 ≤ k ∧ k ≤ T + 7 ∧ j = v)) M N5 := (fR.mono (fun k j z => Or.inl z)).trans (fN.mono (fun k j z => Or.inr z))
              refine ⟨_, 1, rfl, h4.trans (fN.mono (fun k j z => by unfold RdW; omega)), Or.inl ⟨rfl, rfl, x5.fr fN (fun k j x z => by omega), ?_⟩⟩
              show CP _ T U
              refine CP.of hC' ⟨?_, ?_, ?_⟩ ⟨by rw [sv 13 (by omega)]; exact b13, by rw [sv 14 (by omega)]; exact b14⟩ ⟨?_, ?_⟩ ?_ fA (fun k j x z => by omega) (fun j x y => sv j (by omega)) (fun r j x => sr r j (by omega) (by omega))
              · rw [(fA 46 6 (by omega)).1, f6, sv 6 (by omega)]
              · rw [(fA 46 7 (by omega)).1, f7, sv 13 (by omega)]
              · rw [(fA 46 8 (by omega)).1, f8, sv 14 (by omega)]
              · rw [(fA T 18 (by omega)).2, c7, sv 7 (by omega)]
              · rw [(fA T 19 (by omega)).2, c8, sv 8 (by omega)]
              · obtain ⟨-, w1, w2, w3⟩ := hT0
                have e : ∀ k j, k ≠ 46 → k ≠ T → (T + 7 < k ∨ k < T + 5 ∨ j ≠ v) → N5.1 k j = M.1 k j := fun k j x y z => (fA k j (by omega)).1
                have eT : ∀ j, j ≠ 15 → N5.1 T j = M.1 T j := fun j x => (fA T j (by omega)).1
                refine ⟨⟨?_, ?_, ?_, ?_, ?_, ?_⟩, fun w x y => ⟨?_, ?_, ?_⟩, fun t x y => ?_, fun c x y => ⟨?_, ?_, ?_⟩⟩
                · rw [eT 11 (by omega), a1, sv 0 (by omega)]
                · rw [eT 12 (by omega), a2, sv 1 (by omega)]
                · rw [eT 14 (by omega), a3, sv 2 (by omega)]
                · rw [y15, s3']
                · rw [eT 16 (by omega), a5, sv 4 (by omega)]
                · rw [eT 17 (by omega), a6, sv 5 (by omega)]
                · rw [sv 2 (by omega)] at y; rw [e _ _ (by omega) (by omega) (by omega), sr _ _ (by omega) (by omega)]; exact (w1 w x y).1
                · rw [sv 2 (by omega)] at y; rw [e _ _ (by omega) (by omega) (by omega), sr _ _ (by omega) (by omega)]; exact (w1 w x y).2.1
                · rw [sv 2 (by omega)] at y; rw [e _ _ (by omega) (by omega) (by omega), sr _ _ (by omega) (by omega)]; exact (w1 w x y).2.2
                · rw [s3'] at y
                  by_cases q : t = v
                  · rw [q, y1, y2, y3, z1, z2, z3]; exact ⟨b2, d2, rfl⟩
                  · rw [e _ _ (by omega) (by omega) (by omega), e _ _ (by omega) (by omega) (by omega), e _ _ (by omega) (by omega) (by omega), sr _ _ (by omega) (by omega), sr _ _ (by omega) (by omega), sr _ _ (by omega) (by omega)]
                    exact w2 t x (by omega)
                · rw [e _ _ (by omega) (by omega) (by omega), sr _ _ (by omega) (by omega)]; exact (w3 c x y).1
                · rw [(fA T 18 (by omega)).2, sr _ _ (by omega) (by omega)]; exact (w3 c x y).2.1
                · rw [(fA T 19 (by omega)).2, sr _ _ (by omega) (by omega)]; exact (w3 c x y).2.2
          · rw [if_pos (show (if decide (V 8 r4 = 1) = true then (1 : Int) else 0) = 1 by rw [bit_if, decide_eq_true_iff]; omega)]
            rw [if_pos (show ¬ V 8 r4 = 0 ∨ _ from Or.inl y8)]
            exact r5
        · rw [x4]
          show ∃ N g, t_Reader_readThing_L71 T N4 g2 r3 r4 = some (N, g) ∧ _
          rw [x1, l71]
          exact ⟨_, 0, rfl, h4, CLn.bad x3 x2⟩
      · rw [if_pos d1]
        rw [if_neg (show ¬ 0 ≤ r3 by omega), l71]
        exact ⟨_, 0, rfl, h3, CLn.bad d3 d1⟩
    · rw [if_pos b1]
      rw [if_neg (show ¬ 0 ≤ g2 by omega)]
      unfold t_Reader_readThing_L57
      rw [if_neg (show ¬ (0 : Int) ≤ -1 by decide), l71]
      exact ⟨_, 0, rfl, h2, CLn.bad b3 b1⟩
end RM
end
section
/-! ===== the class's reader: parts ===== -/
section RP
variable {B : Int → Int} {n : Int} {M : Mem} {i T : Nat} {V : TV}
theorem c_part_in {M0 : Mem} {w x x2 y y2 : Int} {bk : Mem → Int → Int → Int → Int → Int → Option (Mem × Int)} (e11 : M0.1 T 11 = V 0 0) (hV : VOK V) (x0 : 0 ≤ x) (xx : x ≤ x2) (x2w : x2 ≤ V 0 0 - 1) (y0 : 0 ≤ y) {j : Int} (yj : y ≤ j) (jg : j < V 0 1) : ∀ (m : Nat) (fu : Nat) (M : Mem) (k : Int), k + (m : Int) = x2 + 1 → x ≤ k → m < fu → Fr (fun k _ => k = T + 8) M0 M → (∀ c, 0 ≤ c → c < 48 → M.1 (T + 8) c = if pnt (V 0 0) x x2 y j k c then w else M0.1 (T + 8) c) →
    ∃ N, t_Reader_readPart_L175 T bk fu M w x x2 y2 j k = bk N w x x2 y2 (j + 1) ∧ Fr (fun k _ => k = T + 8) M0 N ∧ ∀ c, 0 ≤ c → c < 48 → N.1 (T + 8) c = if pnt (V 0 0) x x2 y (j + 1) x c then w else M0.1 (T + 8) c := by
  have hv := hV.1
  intro m
  induction m with
  | zero =>
    intro fu M k g0 g1 g2 hF hc
    obtain ⟨g, rfl⟩ : ∃ g, fu = g + 1 := ⟨fu - 1, by omega⟩
    rw [t_Reader_readPart_L175, if_pos (by omega), w32_id (x := j + 1) (by unfold InR; omega)]
    refine ⟨M, rfl, hF, fun c a b => ?_⟩
    rw [hc c a b, show k = x2 + 1 by omega]
    by_cases q : pnt (V 0 0) x x2 y (j + 1) x c
    · rw [if_pos q, if_pos ((pnt_row (by omega) (by omega) x0 xx y0 yj a).mpr q)]
    · rw [if_neg q, if_neg (fun z => q ((pnt_row (by omega) (by omega) x0 xx y0 yj a).mp z))]
  | succ m ih =>
    intro fu M k g0 g1 g2 hF hc
    obtain ⟨g, rfl⟩ : ∃ g, fu = g + 1 := ⟨fu - 1, by omega⟩
    have ix := pnt_idx (w := V 0 0) (g := V 0 1) (x := k) (j := j) (by omega) (by omega) (by omega) (by omega) (by omega) (by omega) jg
    have e1 : M.1 T 11 = V 0 0 := ((hF T 11 (by omega)).1).trans e11
    rw [t_Reader_readPart_L175, if_neg (by omega), e1, w32_id (x := j * V 0 0) (by unfold InR; omega), w32_id (x := j * V 0 0 + k) (by unfold InR; omega), w32_id (x := k + 1) (by unfold InR; omega), put_in (by omega) (by omega)]
    simp (config := { proj := false }) only [qlet]
    refine ih g _ (k + 1) (by omega) (by omega) (by omega) (hF.setI rfl) (fun c a b => ?_)
    have st := pnt_step (w := V 0 0) (x := x) (x2 := x2) (y := y) (j := j) (i := k) (c := c) (by omega) (by omega) x0 g1 (by omega) (by omega) y0 yj a
    by_cases q : c = j * V 0 0 + k
    · rw [if_pos (st.mpr (Or.inr q)), q, sI_self]
    · rw [sI_ne (by omega), hc c a b]
      by_cases z : pnt (V 0 0) x x2 y j k c
      · rw [if_pos z, if_pos (st.mpr (Or.inl z))]
      · rw [if_neg z, if_neg (fun u => (st.mp u).elim z q)]
theorem c_part_out {M0 : Mem} {w x x2 y y2 : Int} (e11 : M0.1 T 11 = V 0 0) (e6 : M0.1 46 6 = V 0 6) (h6 : 0 ≤ V 0 6 ∧ V 0 6 < 12) (hT : T ≤ 22) (hV : VOK V) (x0 : 0 ≤ x) (xx : x ≤ x2) (x2w : x2 ≤ V 0 0 - 1) (y0 : 0 ≤ y) (yy : y ≤ y2) (y2g : y2 ≤ V 0 1 - 1) : ∀ (m : Nat) (fu : Nat) (M : Mem) (j : Int), j + (m : Int) = y2 + 1 → y ≤ j → m < fu → Fr (fun k _ => k = T + 8) M0 M → (∀ c, 0 ≤ c → c < 48 → M.1 (T + 8) c = if pnt (V 0 0) x x2 y j x c then w else M0.1 (T + 8) c) →
    ∃ N, t_Reader_readPart_L164 T fu M w x x2 y2 j = some (N, 1) ∧ Fr (fun k j => k = T + 8 ∨ (k = 46 ∧ j = 6)) M0 N ∧ N.1 46 6 = V 0 6 + 1 ∧ ∀ c, 0 ≤ c → c < 48 → N.1 (T + 8) c = if (x ≤ c % V 0 0 ∧ c % V 0 0 ≤ x2 ∧ y ≤ c / V 0 0 ∧ c / V 0 0 ≤ y2) then w else M0.1 (T + 8) c := by
  have hv := hV.1
  intro m
  induction m with
  | zero =>
    intro fu M j g0 g1 g2 hF hc
    obtain ⟨g, rfl⟩ : ∃ g, fu = g + 1 := ⟨fu - 1, by omega⟩
    have e1 : M.1 46 6 = V 0 6 := ((hF 46 6 (by omega)).1).trans e6
    rw [t_Reader_readPart_L164, if_pos (by omega), e1, w32_id (x := V 0 6 + 1) (by unfold InR; omega)]
    refine ⟨setI M 46 6 (V 0 6 + 1), rfl, (hF.mono (fun k j z => Or.inl z)).setI (Or.inr ⟨rfl, rfl⟩), sI_self _ _ _ _, fun c a b => ?_⟩
    rw [sI_ne (by omega), hc c a b, show j = y2 + 1 by omega]
    by_cases q : (x ≤ c % V 0 0 ∧ c % V 0 0 ≤ x2 ∧ y ≤ c / V 0 0 ∧ c / V 0 0 ≤ y2)
    · rw [if_pos q, if_pos (Or.inl ⟨q.2.2.1, by omega, q.1, q.2.1⟩)]
    · rw [if_neg q, if_neg (fun z => q (by rcases z with z | z; · exact ⟨z.2.2.1, z.2.2.2, z.1, by omega⟩
                                           · omega))]
  | succ m ih =>
    intro fu M j g0 g1 g2 hF hc
    obtain ⟨g, rfl⟩ : ∃ g, fu = g + 1 := ⟨fu - 1, by omega⟩
    rw [t_Reader_readPart_L164, if_neg (by omega)]
    obtain ⟨N, n1, n2, n3⟩ := c_part_in (T := T) (V := V) (w := w) (bk := fun a0_ a1_ a2_ a3_ a4_ a5_ => t_Reader_readPart_L164 T g a0_ a1_ a2_ a3_ a4_ a5_) (y2 := y2) e11 hV x0 xx x2w y0 g1 (by omega) (x2 + 1 - x).toNat FU M x (by omega) (Int.le_refl _) (fu_big (by omega)) hF hc
    rw [n1]
    exact ih g N (j + 1) (by omega) (by omega) (by omega) n2 n3
theorem c_rPart (hT : T ≤ 22) (h : RD M B n i) (hk : tK B n i = 2) (hC : CP M T V) (hP : POK V) : ∃ N g, t_Reader_readPart M T = some (N, g) ∧ Fr (RdW T) M N ∧ CLn N T B n (lnS B n V i) g := by
  obtain ⟨hV, hF, p6⟩ := hP
  have hC' := hC
  obtain ⟨hT0, ⟨f6, f7, f8⟩, ⟨b13, b14⟩, ⟨c7, c8⟩, hCF⟩ := hC
  obtain ⟨a1, a2, a3, a4, a5, a6⟩ := hT0.1
  have hv := hV.1
  have hcl := hV.cells
  unfold t_Reader_readPart lnS
  rw [if_neg (show ¬ tK B n i = 0 by omega), if_neg (show ¬ tK B n i = 1 by omega), if_pos hk, f6, h.2.2.2.2.2.2]
  simp only [qlet]
  by_cases v12 : V 0 6 = 12
  · rw [if_pos v12, if_neg (show ¬ V 0 6 < 12 by omega)]
    exact c_ref0 M (by decide)
  · rw [if_neg v12, if_pos (show V 0 6 < 12 by omega)]
    obtain ⟨N1, n1, n2, n3, n4⟩ := c_next1 h (by rw [hk]; decide)
    rw [n1, obind_some]
    obtain ⟨N2, g2, s1, s2, s3⟩ := c_take n3 (due := 30) (by decide)
    rw [s1, obind_some]
    have h2 : Fr (RdW T) M N2 := (n2.mono rg_rd).trans (s2.mono rf_rd)
    have fR2 : Fr (fun k j => k = 46 ∧ (j ≤ 5 ∨ 9 ≤ j)) M N2 := (n2.mono (fun k j z => by unfold RgW at z; omega)).trans (s2.mono (fun k j z => by unfold RfW at z; omega))
    have l151 : ∀ (N : Mem) (w x x2 y : Int), t_Reader_readPart_L151 T N w x y x2 (-1) = some (N, 0) := fun N w x x2 y => by
      unfold t_Reader_readPart_L151
      rw [if_neg (by decide)]
    have l128 : ∀ (N : Mem) (w x y : Int), t_Reader_readPart_L128 T N w x y (-1) = some (N, 0) := fun N w x y => by
      unfold t_Reader_readPart_L128
      rw [if_neg (by decide), l151]
    have l105 : ∀ (N : Mem) (w x : Int), t_Reader_readPart_L105 T N w x (-1) = some (N, 0) := fun N w x => by
      unfold t_Reader_readPart_L105
      rw [if_neg (by decide), l128]
    unfold lnPart
    rcases s3 with ⟨b1, b2, b3, b4⟩ | ⟨b1, b2, b3⟩
    · subst b2
      rw [if_neg (show ¬ (1 : Int) = 0 by decide)]
      rw [if_neg (show ¬ ¬ tK B n (i + 1) = 30 from fun z => z b1)]
      have hw : N1.1 46 3 = tW B n (i + 1) := n3.2.2.2.2.2.1 (by omega)
      have hT2 : CT0 N2 T V := hT0.fr2 fR2 (fun k j x z => by omega)
      have ix := indexOf_eq (M := N2) (r := T + 1) (N := 4) (p := fun a => V 1 (a : Int)) (v := tW B n (i + 1)) (len := (V 0 2).toNat) (by omega) (by omega) (fun a ha => (hT2.2.1 a (by omega) (by omega)).1)
      rw [Int.toNat_of_nonneg (by omega)] at ix
      rw [hw]
      change ∃ N g, obind (t_WF_indexOf N2 (T + 1) 4 (N2.1 T 14) (tW B n (i + 1))) _ = some (N, g) ∧ _
      rw [hT2.1.2.2.1, ix, obind_some]
      cases e : fnd (fun a => V 1 (a : Int)) (tW B n (i + 1)) (V 0 2).toNat with
      | none =>
        rw [if_neg (show ¬ (0 : Int) ≤ -1 by decide)]
        change ∃ N g, (some ((t_Reader_refuse N2 4 (N2.1 46 5)).1, (t_Reader_refuse N2 4 (N2.1 46 5)).2) : Option (Mem × Int)) = some (N, g) ∧ _
        rw [b4]
        obtain ⟨N, g, z1, z2, z3⟩ := c_ref0 (T := T) (B := B) (n := n) N2 (f := 4) (p := tP B n (i + 1)) (by decide) (a := 0) (U := V)
        exact ⟨N, g, z1, h2.trans z2, z3⟩
      | some wd =>
        have hwd := (fnd_some e).1
        rw [if_pos (show 0 ≤ ((wd : Nat) : Int) by omega)]
        dsimp only
        have e11 : ∀ N, Fr (fun k j => k = 46 ∧ (j ≤ 5 ∨ 9 ≤ j)) M N → N.1 T 11 = V 0 0 ∧ N.1 T 12 = V 0 1 := fun N q => ⟨((q T 11 (by omega)).1).trans a1, ((q T 12 (by omega)).1).trans a2⟩
        change ∃ N g, obind (t_Reader_takeNumber N2 0 (w32 (N2.1 T 11 - 1))) _ = some (N, g) ∧ _
        obtain ⟨N3, r3, u1, u2, u3⟩ := c_num b3 0 (V 0 0 - 1)
        have fR3 := fR2.trans (u2.mono (fun k j z => by unfold RfW at z; omega))
        have h3 : Fr (RdW T) M N3 := h2.trans (u2.mono rf_rd)
        rw [(e11 N2 fR2).1, w32_id (x := V 0 0 - 1) (by unfold InR; omega), u1, obind_some]
        rcases u3 with ⟨d1, d2, d3, d4, d5, d6⟩ | ⟨d1, d2, d3⟩
        · rw [if_neg (show ¬ ¬ nuS B n (i + 2) 0 (V 0 0 - 1) = 0 from fun z => z d1)]
          rw [if_pos (show 0 ≤ r3 from d3)]
          change ∃ N g, obind (t_Reader_takeNumber N3 0 (w32 (N3.1 T 12 - 1))) _ = some (N, g) ∧ _
          obtain ⟨N4, r4, t1, t2, t3⟩ := c_num d5 0 (V 0 1 - 1)
          have fR4 := fR3.trans (t2.mono (fun k j z => by unfold RfW at z; omega))
          have h4 : Fr (RdW T) M N4 := h3.trans (t2.mono rf_rd)
          rw [(e11 N3 fR3).2, w32_id (x := V 0 1 - 1) (by unfold InR; omega), t1, obind_some]
          change ∃ N g, t_Reader_readPart_L105 T N4 (wd : Int) r3 r4 = some (N, g) ∧ _
          rcases t3 with ⟨x1, x2, x3, x4, x5, x6⟩ | ⟨x1, x2, x3⟩
          · rw [if_neg (show ¬ ¬ nuS B n (i + 3) 0 (V 0 1 - 1) = 0 from fun z => z x1)]
            unfold t_Reader_readPart_L105
            obtain ⟨N5, r5, y1, y2, y3⟩ := c_num x5 r3 (V 0 0 - 1)
            have fR5 := fR4.trans (y2.mono (fun k j z => by unfold RfW at z; omega))
            have h5 : Fr (RdW T) M N5 := h4.trans (y2.mono rf_rd)
            rw [if_pos (show 0 ≤ r4 from x3), (e11 N4 fR4).1, w32_id (x := V 0 0 - 1) (by unfold InR; omega), y1, obind_some]
            change ∃ N g, t_Reader_readPart_L128 T N5 (wd : Int) r3 r4 r5 = some (N, g) ∧ _
            rw [← d2]
            rcases y3 with ⟨p1, p2, p3, p4, p5, p6⟩ | ⟨p1, p2, p3⟩
            · rw [if_neg (show ¬ ¬ nuS B n (i + 4) r3 (V 0 0 - 1) = 0 from fun z => z p1)]
              unfold t_Reader_readPart_L128
              obtain ⟨N6, r6, z1, z2, z3⟩ := c_num p5 r4 (V 0 1 - 1)
              have fR6 := fR5.trans (z2.mono (fun k j z => by unfold RfW at z; omega))
              have h6 : Fr (RdW T) M N6 := h5.trans (z2.mono rf_rd)
              rw [if_pos (show 0 ≤ r5 by omega), (e11 N5 fR5).2, w32_id (x := V 0 1 - 1) (by unfold InR; omega), z1, obind_some]
              change ∃ N g, t_Reader_readPart_L151 T N6 (wd : Int) r3 r4 r5 r6 = some (N, g) ∧ _
              rw [← x2]
              unfold t_Reader_readPart_L151
              rcases z3 with ⟨k1, k2, k3, k4, k5, k6⟩ | ⟨k1, k2, k3⟩
              · rw [if_neg (show ¬ ¬ nuS B n (i + 5) r4 (V 0 1 - 1) = 0 from fun z => z k1)]
                rw [if_pos (show 0 ≤ r6 by omega), ← p2, ← k2]
                obtain ⟨N7, o1, o2, o3, o4⟩ := c_part_out (T := T) (V := V) (M0 := N6) (w := (wd : Int)) (x := r3) (x2 := r5) (y := r4) (y2 := r6) (e11 N6 fR6).1 (((fR6 46 6 (by omega)).1).trans f6) (by omega) hT hV d3 p3 p4 x3 k3 k4 (r6 + 1 - r4).toNat FU N6 r4 (by omega) (Int.le_refl _) (fu_big (by omega)) Fr.rf (fun c a b => by
                  rw [if_neg]
                  intro z
                  rcases z with z | z <;> omega)
                rw [o1]
                have fA : Fr (fun k j => k = 46 ∨ k = T + 8) M N7 := (fR6.mono (fun k j z => Or.inl z.1)).trans (o2.mono (fun k j z => by omega))
                obtain ⟨U, hU⟩ : ∃ U, U = setV (ptV V r3 r4 r5 r6 (wd : Int)) 0 6 (V 0 6 + 1) := ⟨_, rfl⟩
                rw [← hU]
                have sv : ∀ j, j ≠ 6 → U 0 j = V 0 j := fun j x => by
                  rw [hU, setV_ne _ _ (by omega)]
                  exact if_neg (fun q => absurd q.1 (by decide))
                have sr : ∀ r j, r ≠ 0 → r ≠ 7 → U r j = V r j := fun r j x y => by
                  rw [hU, setV_ne _ _ (by omega)]
                  exact if_neg (fun q => y q.1)
                have s6 : U 0 6 = V 0 6 + 1 := by rw [hU]; exact setV_self _ _ _ _
                have s7 : ∀ c, U 7 c = if (r3 ≤ c % V 0 0 ∧ c % V 0 0 ≤ r5 ∧ r4 ≤ c / V 0 0 ∧ c / V 0 0 ≤ r6) then (wd : Int) else V 7 c := fun c => by
                  rw [hU, setV_ne _ _ (by omega)]
                  unfold ptV
                  by_cases q : (r3 ≤ c % V 0 0 ∧ c % V 0 0 ≤ r5 ∧ r4 ≤ c / V 0 0 ∧ c / V 0 0 ≤ r6)
                  · rw [if_pos q, if_pos ⟨rfl, q⟩]
                  · rw [if_neg q, if_neg (fun z => q z.2)]
                clear hU
                refine ⟨_, 1, rfl, h6.trans (o2.mono (fun k j z => by unfold RdW; omega)), Or.inl ⟨rfl, rfl, k5.fr o2 (fun k j x z => by omega), ?_⟩⟩
                show CP _ T U
                refine CP.of hC' ⟨?_, ?_, ?_⟩ ⟨by rw [sv 13 (by omega)]; exact b13, by rw [sv 14 (by omega)]; exact b14⟩ ⟨?_, ?_⟩ ?_ fA (fun k j x z => by omega) (fun j x y => sv j (by omega)) (fun r j x => sr r j (by omega) (by omega))
                · rw [o3, s6]
                · rw [(o2 46 7 (by omega)).1, (fR6 46 7 (by omega)).1, f7, sv 13 (by omega)]
                · rw [(o2 46 8 (by omega)).1, (fR6 46 8 (by omega)).1, f8, sv 14 (by omega)]
                · rw [(fA T 18 (by omega)).2, c7, sv 7 (by omega)]
                · rw [(fA T 19 (by omega)).2, c8, sv 8 (by omega)]
                · obtain ⟨-, w1, w2, w3⟩ := hT0
                  have e : ∀ k j, k ≠ 46 → k ≠ T + 8 → N7.1 k j = M.1 k j := fun k j x y => (fA k j (by omega)).1
                  refine ⟨⟨?_, ?_, ?_, ?_, ?_, ?_⟩, fun w x y => ⟨?_, ?_, ?_⟩, fun t x y => ⟨?_, ?_, ?_⟩, fun c x y => ⟨?_, ?_, ?_⟩⟩
                  · rw [e T 11 (by omega) (by omega), a1, sv 0 (by omega)]
                  · rw [e T 12 (by omega) (by omega), a2, sv 1 (by omega)]
                  · rw [e T 14 (by omega) (by omega), a3, sv 2 (by omega)]
                  · rw [e T 15 (by omega) (by omega), a4, sv 3 (by omega)]
                  · rw [e T 16 (by omega) (by omega), a5, sv 4 (by omega)]
                  · rw [e T 17 (by omega) (by omega), a6, sv 5 (by omega)]
                  · rw [sv 2 (by omega)] at y; rw [e _ _ (by omega) (by omega), sr _ _ (by omega) (by omega)]; exact (w1 w x y).1
                  · rw [sv 2 (by omega)] at y; rw [e _ _ (by omega) (by omega), sr _ _ (by omega) (by omega)]; exact (w1 w x y).2.1
                  · rw [sv 2 (by omega)] at y; rw [e _ _ (by omega) (by omega), sr _ _ (by omega) (by omega)]; exact (w1 w x y).2.2
                  · rw [sv 3 (by omega)] at y; rw [e _ _ (by omega) (by omega), sr _ _ (by omega) (by omega)]; exact (w2 t x y).1
                  · rw [sv 3 (by omega)] at y; rw [e _ _ (by omega) (by omega), sr _ _ (by omega) (by omega)]; exact (w2 t x y).2.1
                  · rw [sv 3 (by omega)] at y; rw [e _ _ (by omega) (by omega), sr _ _ (by omega) (by omega)]; exact (w2 t x y).2.2
                  · rw [o4 c x y, s7 c, (fR6 (T + 8) c (by omega)).1, (w3 c x y).1]
                  · rw [(fA T 18 (by omega)).2, sr _ _ (by omega) (by omega)]; exact (w3 c x y).2.1
                  · rw [(fA T 19 (by omega)).2, sr _ _ (by omega) (by omega)]; exact (w3 c x y).2.2
              · rw [if_pos k1]
                rw [if_neg (show ¬ 0 ≤ r6 by omega)]
                exact ⟨_, 0, rfl, h6, CLn.bad k3 k1⟩
            · rw [if_pos p1, p2, l128]
              exact ⟨_, 0, rfl, h5, CLn.bad p3 p1⟩
          · rw [if_pos x1, x2, l105]
            exact ⟨_, 0, rfl, h4, CLn.bad x3 x1⟩
        · rw [if_pos d1]
          rw [if_neg (show ¬ 0 ≤ r3 by omega)]
          change ∃ N g, t_Reader_readPart_L105 T N3 (wd : Int) r3 (-1) = some (N, g) ∧ _
          rw [l105]
          exact ⟨_, 0, rfl, h3, CLn.bad d3 d1⟩
    · subst b2
      rw [if_pos rfl, if_pos b1]
      exact ⟨_, 0, rfl, h2, CLn.bad b3 (by decide)⟩
end RP
end
section
/-! ===== what follows from the lines: sides and sizes ===== -/
theorem c_fill_L5 {r N1 : Nat} {x : Int} (hN : N1 ≤ 1000) : ∀ (m fu : Nat) (M : Mem) (v : Int), v + (m : Int) = (N1 : Int) → 0 ≤ v → m < fu → ∃ N, t_Arrays_fill_L5 r N1 x fu M v (N1 : Int) = some N ∧ Fr (fun k j => k = r ∧ v ≤ j ∧ j < (N1 : Int)) M N ∧ ∀ j, v ≤ j → j < (N1 : Int) → N.1 r j = x := by
  intro m
  induction m with
  | zero =>
    intro fu M v g0 g1 g2
    obtain ⟨g, rfl⟩ : ∃ g, fu = g + 1 := ⟨fu - 1, by omega⟩
    rw [t_Arrays_fill_L5, if_pos (by omega)]
    exact ⟨M, rfl, Fr.rf, fun j a b => by omega⟩
  | succ m ih =>
    intro fu M v g0 g1 g2
    obtain ⟨g, rfl⟩ : ∃ g, fu = g + 1 := ⟨fu - 1, by omega⟩
    rw [t_Arrays_fill_L5, if_neg (by omega), qguard_pos ⟨by omega, by omega⟩, w32_id (x := v + 1) (by unfold InR; omega)]
    simp (config := { proj := false }) only [qlet]
    obtain ⟨N, n1, n2, n3⟩ := ih g (setI M r v x) (v + 1) (by omega) (by omega) (by omega)
    refine ⟨N, n1, (Fr.rf.setI (by omega)).trans (n2.mono (fun k j z => by omega)), fun j a b => ?_⟩
    by_cases q : j = v
    · rw [q, (n2 r v (by omega)).1]; exact sI_self _ _ _ _
    · exact n3 j (by omega) b
theorem c_fill {M : Mem} {r N1 : Nat} {x : Int} (hN : N1 ≤ 1000) : ∃ N, t_Arrays_fill M r N1 x = some N ∧ Fr (fun k j => k = r ∧ 0 ≤ j ∧ j < (N1 : Int)) M N ∧ ∀ j, 0 ≤ j → j < (N1 : Int) → N.1 r j = x :=
  c_fill_L5 hN N1 FU M 0 (by omega) (by omega) (fu_big (by omega))
theorem sd_eq {w h x y : Int} (w0 : 1 ≤ w) (w1 : w ≤ 8) (h0 : 1 ≤ h) (h1 : h ≤ 6) (x0 : 0 ≤ x) (xw : x < w) (y0 : 0 ≤ y) (yh : y < h) :
    bsW w h (y * w + x) 0 = (if y ≤ 0 then -1 else y * w + x - w) ∧ bsW w h (y * w + x) 1 = (if w - 1 ≤ x then -1 else y * w + x + 1) ∧ bsW w h (y * w + x) 2 = (if h - 1 ≤ y then -1 else y * w + x + w) ∧ bsW w h (y * w + x) 3 = (if x ≤ 0 then -1 else y * w + x - 1) := by
  have b0 : bsW w h (y * w + x) 0 = (if y * w + x < w then -1 else y * w + x - w) := rfl
  have b1 : bsW w h (y * w + x) 1 = (if (y * w + x) % w = w - 1 then -1 else y * w + x + 1) := rfl
  have b2 : bsW w h (y * w + x) 2 = (if w * h - w ≤ y * w + x then -1 else y * w + x + w) := rfl
  have b3 : bsW w h (y * w + x) 3 = (if (y * w + x) % w = 0 then -1 else y * w + x - 1) := rfl
  rw [b0, b1, b2, b3]
  have hw : w = 1 ∨ w = 2 ∨ w = 3 ∨ w = 4 ∨ w = 5 ∨ w = 6 ∨ w = 7 ∨ w = 8 := by omega
  have key : (y * w + x < w ↔ y ≤ 0) ∧ ((y * w + x) % w = w - 1 ↔ w - 1 ≤ x) ∧ (w * h - w ≤ y * w + x ↔ h - 1 ≤ y) ∧ ((y * w + x) % w = 0 ↔ x ≤ 0) := by
    rcases hw with rfl | rfl | rfl | rfl | rfl | rfl | rfl | rfl <;> (refine ⟨?_, ?_, ?_, ?_⟩ <;> omega)
  have ifc : ∀ {p q : Prop} [Decidable p] [Decidable q] {a b : Int}, (p ↔ q) → (if p then a else b) = (if q then a else b) := by
    intro p q _ _ a b h
    by_cases c : p
    · rw [if_pos c, if_pos (h.mp c)]
    · rw [if_neg c, if_neg (fun z => c (h.mpr z))]
  exact ⟨ifc key.1, ifc key.2.1, ifc key.2.2.1, ifc key.2.2.2⟩
theorem CT0.fr3 {W : Nat → Int → Prop} {M N : Mem} {T : Nat} {V : TV} (h : CT0 M T V) (hF : Fr W M N) (hd : ∀ k j, ((k = T ∧ 11 ≤ j ∧ j ≤ 19) ∨ (T + 1 ≤ k ∧ k ≤ T + 8 ∧ k ≠ T + 4)) → ¬ W k j) : CT0 N T V := by
  obtain ⟨⟨a1, a2, a3, a4, a5, a6⟩, b, c, d⟩ := h
  have e : ∀ j, 11 ≤ j → j ≤ 19 → N.1 T j = M.1 T j ∧ N.2 T j = M.2 T j := fun j x y => hF T j (hd _ _ (Or.inl ⟨rfl, x, y⟩))
  have r : ∀ k j, T + 1 ≤ k → k ≤ T + 8 → k ≠ T + 4 → N.1 k j = M.1 k j := fun k j x y z => (hF k j (hd _ _ (Or.inr ⟨x, y, z⟩))).1
  refine ⟨⟨?_, ?_, ?_, ?_, ?_, ?_⟩, fun w x y => ⟨?_, ?_, ?_⟩, fun t x y => ⟨?_, ?_, ?_⟩, fun q x y => ⟨?_, ?_, ?_⟩⟩
  · rw [(e 11 (by omega) (by omega)).1]; exact a1
  · rw [(e 12 (by omega) (by omega)).1]; exact a2
  · rw [(e 14 (by omega) (by omega)).1]; exact a3
  · rw [(e 15 (by omega) (by omega)).1]; exact a4
  · rw [(e 16 (by omega) (by omega)).1]; exact a5
  · rw [(e 17 (by omega) (by omega)).1]; exact a6
  · rw [r _ _ (by omega) (by omega) (by omega)]; exact (b w x y).1
  · rw [r _ _ (by omega) (by omega) (by omega)]; exact (b w x y).2.1
  · rw [r _ _ (by omega) (by omega) (by omega)]; exact (b w x y).2.2
  · rw [r _ _ (by omega) (by omega) (by omega)]; exact (c t x y).1
  · rw [r _ _ (by omega) (by omega) (by omega)]; exact (c t x y).2.1
  · rw [r _ _ (by omega) (by omega) (by omega)]; exact (c t x y).2.2
  · rw [r _ _ (by omega) (by omega) (by omega)]; exact (d q x y).1
  · rw [(e 18 (by omega) (by omega)).2]; exact (d q x y).2.1
  · rw [(e 19 (by omega) (by omega)).2]; exact (d q x y).2.2
def StW4 (T : Nat) : Nat → Int → Prop := fun k _ => k = T + 4 ∨ k = T + 9
def SB (M0 M : Mem) (T : Nat) (V : TV) (c k : Int) : Prop := Fr (StW4 T) M0 M ∧ (∀ c', 0 ≤ c' → c' < c → ∀ d, 0 ≤ d → d < 4 → M.1 (T + 9) (c' * 4 + d) = bsV V c' d) ∧ (∀ d, 0 ≤ d → d < k → M.1 (T + 9) (c * 4 + d) = bsV V c d) ∧ (∀ w, 0 ≤ w → w < V 0 2 → M.1 (T + 4) w = sizeV V w c.toNat)
section ST
variable {M0 M : Mem} {T : Nat} {V : TV} {x y : Int}
theorem SB.set {c k : Int} (h : SB M0 M T V c k) (k0 : 0 ≤ k) (k4 : k < 4) : SB M0 (setI M (T + 9) (c * 4 + k) (bsV V c k)) T V c (k + 1) := by
  obtain ⟨h1, h2, h3, h4⟩ := h
  refine ⟨h1.setI (Or.inr rfl), fun c' a b d e f => ?_, fun d a b => ?_, fun w a b => ?_⟩
  · rw [sI_ne (by omega)]; exact h2 c' a b d e f
  · by_cases q : d = k
    · rw [q, sI_self]
    · rw [sI_ne (by omega)]; exact h3 d a (by omega)
  · rw [sI_ne (by omega)]; exact h4 w a b
theorem SB.own {c : Int} (h : SB M0 M T V c 4) (hT0 : CT0 M0 T V) (hV : VOK V) (c0 : 0 ≤ c) (c1 : c < cellsV V) : SB M0 (t_WF_put M (T + 4) 4 (V 7 c) (w32 (t_WF_look M (T + 4) 4 (V 7 c) + 1))) T V (c + 1) 0 := by
  have hcl := hV.cells
  have hv := hV.1
  have ho := hV.2.2.2 c c0 (by omega)
  obtain ⟨h1, h2, h3, h4⟩ := h
  have hn : (c + 1).toNat = c.toNat + 1 := by omega
  have hz : ((c.toNat : Nat) : Int) = c := Int.toNat_of_nonneg c0
  have rows : ∀ N : Mem, (∀ j, N.1 (T + 9) j = M.1 (T + 9) j) → (∀ c', 0 ≤ c' → c' < c + 1 → ∀ d, 0 ≤ d → d < 4 → N.1 (T + 9) (c' * 4 + d) = bsV V c' d) := by
    intro N hN c' a b d e f
    rw [hN]
    by_cases q : c' = c
    · rw [q]; exact h3 d e f
    · exact h2 c' a (by omega) d e f
  by_cases q : 0 ≤ V 7 c
  · have s0 := h4 (V 7 c) q (by omega)
    have sr : 0 ≤ sizeV V (V 7 c) c.toNat ∧ sizeV V (V 7 c) c.toNat ≤ (c.toNat : Int) := by
      generalize V 7 c = w
      generalize c.toNat = m
      induction m with
      | zero => exact ⟨Int.le_refl _, Int.le_refl _⟩
      | succ m ih => rw [sizeV]; split <;> omega
    rw [look_in q (by omega), put_in q (by omega), s0, w32_id (by unfold InR; omega)]
    refine ⟨h1.setI (Or.inl rfl), rows _ (fun j => sI_ne (by omega)), fun d a b => by omega, fun w a b => ?_⟩
    rw [hn, sizeV, hz]
    by_cases e : w = V 7 c
    · rw [e, sI_self, if_pos rfl]
    · rw [sI_ne (by omega), h4 w a b, if_neg (fun z => e z.symm)]; omega
  · rw [put_out (by omega)]
    refine ⟨h1, rows M (fun j => rfl), fun d a b => by omega, fun w a b => ?_⟩
    rw [hn, sizeV, hz, h4 w a b, if_neg (by omega)]
    omega
theorem c_set155 {bk23 : Mem → Int → Option Mem} {bk33 : Mem → Int → Int → Option Mem} (hT : T ≤ 22) (hT0 : CT0 M0 T V) (hV : VOK V) {c : Int} (c0 : 0 ≤ c) (c1 : c < cellsV V) (xr : 0 ≤ x ∧ x ≤ 8) (h : SB M0 M T V c 3) : ∃ N, t_Town_settle_L155 T bk23 bk33 M y x c (c * 4 + 3) (bsV V c 3) = bk33 N y (x + 1) ∧ SB M0 N T V (c + 1) 0 := by
  have hcl := hV.cells
  unfold t_Town_settle_L155
  simp (config := { proj := false }) only [qlet]
  rw [put_in (M := M) (by omega) (by omega), w32_id (x := x + 1) (by unfold InR; omega)]
  have h3 := h.set (k := 3) (by omega) (by omega)
  generalize setI M (T + 9) (c * 4 + 3) (bsV V c 3) = M4 at *
  have eo : t_Town_ownerOf M4 T c = V 7 c := c_owner (hT0.fr3 h3.1 (fun k j a z => by unfold StW4 at z; omega)) c0 (by omega)
  rw [eo]
  exact ⟨_, rfl, h3.own hT0 hV c0 c1⟩
theorem c_set132 {bk23 : Mem → Int → Option Mem} {bk33 : Mem → Int → Int → Option Mem} (hT : T ≤ 22) (hT0 : CT0 M0 T V) (hV : VOK V) {c : Int} (c0 : 0 ≤ c) (c1 : c < cellsV V) (xr : 0 ≤ x ∧ x < V 0 0) (yr : 0 ≤ y ∧ y < V 0 1) (hc : c = y * V 0 0 + x) (h : SB M0 M T V c 2) : ∃ N, t_Town_settle_L132 T bk23 bk33 M y x c (c * 4 + 2) (bsV V c 2) = bk33 N y (x + 1) ∧ SB M0 N T V (c + 1) 0 := by
  have hcl := hV.cells
  have hv := hV.1
  unfold t_Town_settle_L132
  simp (config := { proj := false }) only [qlet]
  rw [put_in (M := M) (by omega) (by omega), w32_id (x := c * 4) (by unfold InR; omega), w32_id (x := c * 4 + 3) (by unfold InR; omega), w32_id (x := c - 1) (by unfold InR; omega)]
  have h3 := h.set (k := 2) (by omega) (by omega)
  have nx := c_set155 (bk23 := bk23) (bk33 := bk33) (x := x) (y := y) hT hT0 hV c0 c1 (by omega) h3
  have b3 : bsV V c 3 = (if x ≤ 0 then -1 else c - 1) := by rw [hc]; exact (sd_eq (by omega) (by omega) (by omega) (by omega) xr.1 xr.2 yr.1 yr.2).2.2.2
  rw [b3] at nx
  by_cases q : x ≤ 0
  · rw [if_pos q] at nx ⊢; exact nx
  · rw [if_neg q] at nx ⊢; exact nx
theorem c_set100 {bk23 : Mem → Int → Option Mem} {bk33 : Mem → Int → Int → Option Mem} (hT : T ≤ 22) (hT0 : CT0 M0 T V) (hV : VOK V) {c : Int} (c0 : 0 ≤ c) (c1 : c < cellsV V) (xr : 0 ≤ x ∧ x < V 0 0) (yr : 0 ≤ y ∧ y < V 0 1) (hc : c = y * V 0 0 + x) (h : SB M0 M T V c 1) : ∃ N, t_Town_settle_L100 T bk23 bk33 M y x c (c * 4 + 1) (bsV V c 1) = bk33 N y (x + 1) ∧ SB M0 N T V (c + 1) 0 := by
  have hcl := hV.cells
  have hv := hV.1
  unfold t_Town_settle_L100
  simp (config := { proj := false }) only [qlet]
  rw [put_in (M := M) (by omega) (by omega)]
  have h3 := h.set (k := 1) (by omega) (by omega)
  have e11 : (setI M (T + 9) (c * 4 + 1) (bsV V c 1)).1 T 11 = V 0 0 := ((h3.1 T 11 (by unfold StW4; omega)).1).trans hT0.1.1
  have e12 : (setI M (T + 9) (c * 4 + 1) (bsV V c 1)).1 T 12 = V 0 1 := ((h3.1 T 12 (by unfold StW4; omega)).1).trans hT0.1.2.1
  rw [e11, e12, w32_id (x := V 0 1 - 1) (by unfold InR; omega), w32_id (x := c * 4) (by unfold InR; omega), w32_id (x := c * 4 + 2) (by unfold InR; omega), w32_id (x := c + V 0 0) (by unfold InR; omega)]
  have nx := c_set132 (bk23 := bk23) (bk33 := bk33) hT hT0 hV c0 c1 xr yr hc h3
  have b3 : bsV V c 2 = (if V 0 1 - 1 ≤ y then -1 else c + V 0 0) := by rw [hc]; exact (sd_eq (by omega) (by omega) (by omega) (by omega) xr.1 xr.2 yr.1 yr.2).2.2.1
  rw [b3] at nx
  by_cases q : V 0 1 - 1 ≤ y
  · rw [if_pos q] at nx ⊢; exact nx
  · rw [if_neg q] at nx ⊢; exact nx
theorem c_set71 {bk23 : Mem → Int → Option Mem} {bk33 : Mem → Int → Int → Option Mem} (hT : T ≤ 22) (hT0 : CT0 M0 T V) (hV : VOK V) {c : Int} (c0 : 0 ≤ c) (c1 : c < cellsV V) (xr : 0 ≤ x ∧ x < V 0 0) (yr : 0 ≤ y ∧ y < V 0 1) (hc : c = y * V 0 0 + x) (h : SB M0 M T V c 0) : ∃ N, t_Town_settle_L71 T bk23 bk33 M y x c (c * 4) (bsV V c 0) = bk33 N y (x + 1) ∧ SB M0 N T V (c + 1) 0 := by
  have hcl := hV.cells
  have hv := hV.1
  unfold t_Town_settle_L71
  simp (config := { proj := false }) only [qlet]
  rw [put_in (M := M) (by omega) (by omega)]
  have h3 := h.set (k := 0) (by omega) (by omega)
  rw [show c * 4 + 0 = c * 4 by omega] at h3
  have e11 : (setI M (T + 9) (c * 4) (bsV V c 0)).1 T 11 = V 0 0 := ((h3.1 T 11 (by unfold StW4; omega)).1).trans hT0.1.1
  rw [e11, w32_id (x := V 0 0 - 1) (by unfold InR; omega), w32_id (x := c * 4) (by unfold InR; omega), w32_id (x := c * 4 + 1) (by unfold InR; omega), w32_id (x := c + 1) (by unfold InR; omega)]
  have nx := c_set100 (bk23 := bk23) (bk33 := bk33) hT hT0 hV c0 c1 xr yr hc h3
  have b3 : bsV V c 1 = (if V 0 0 - 1 ≤ x then -1 else c + 1) := by rw [hc]; exact (sd_eq (by omega) (by omega) (by omega) (by omega) xr.1 xr.2 yr.1 yr.2).2.1
  rw [b3] at nx
  by_cases q : V 0 0 - 1 ≤ x
  · rw [if_pos q] at nx ⊢; exact nx
  · rw [if_neg q] at nx ⊢; exact nx
theorem c_set33 {bk23 : Mem → Int → Option Mem} (hT : T ≤ 22) (hT0 : CT0 M0 T V) (hV : VOK V) (yr : 0 ≤ y ∧ y < V 0 1) : ∀ (m fu : Nat) (M : Mem) (x : Int), x + (m : Int) = V 0 0 → 0 ≤ x → m < fu → SB M0 M T V (y * V 0 0 + x) 0 → ∃ N, t_Town_settle_L33 T bk23 fu M y x = bk23 N (y + 1) ∧ SB M0 N T V ((y + 1) * V 0 0) 0 := by
  have hcl := hV.cells
  have hv := hV.1
  intro m
  induction m with
  | zero =>
    intro fu M x g0 g1 g2 h
    obtain ⟨g, rfl⟩ : ∃ g, fu = g + 1 := ⟨fu - 1, by omega⟩
    have e11 : M.1 T 11 = V 0 0 := ((h.1 T 11 (by unfold StW4; omega)).1).trans hT0.1.1
    rw [t_Town_settle_L33, if_pos (by omega), w32_id (x := y + 1) (by unfold InR; omega)]
    refine ⟨M, rfl, ?_⟩
    rw [Int.add_mul, Int.one_mul]
    rw [show x = V 0 0 by omega] at h
    exact h
  | succ m ih =>
    intro fu M x g0 g1 g2 h
    obtain ⟨g, rfl⟩ : ∃ g, fu = g + 1 := ⟨fu - 1, by omega⟩
    have e11 : M.1 T 11 = V 0 0 := ((h.1 T 11 (by unfold StW4; omega)).1).trans hT0.1.1
    have ix := pnt_idx (w := V 0 0) (g := V 0 1) (x := x) (j := y) (by omega) (by omega) (by omega) g1 (by omega) yr.1 yr.2
    have hlt : y * V 0 0 + x < cellsV V := by
      have h1 : y * V 0 0 ≤ (V 0 1 - 1) * V 0 0 := Int.mul_le_mul_of_nonneg_right (by omega) (by omega)
      rw [Int.sub_mul, Int.one_mul] at h1
      unfold cellsV
      rw [Int.mul_comm (V 0 0) (V 0 1)]
      omega
    rw [t_Town_settle_L33, e11, if_neg (show ¬ V 0 0 ≤ x by omega), w32_id (x := y * V 0 0) (by unfold InR; omega), w32_id (x := y * V 0 0 + x) (by unfold InR; omega), w32_id (x := (y * V 0 0 + x) * 4) (by unfold InR; omega), w32_id (x := y * V 0 0 + x - V 0 0) (by unfold InR; omega)]
    obtain ⟨N, n1, n2⟩ := c_set71 (bk23 := bk23) (bk33 := fun a0_ a1_ a2_ => t_Town_settle_L33 T bk23 g a0_ a1_ a2_) (x := x) (y := y) hT hT0 hV ix.2.2.1 hlt ⟨g1, by omega⟩ yr rfl h
    have b0 : bsV V (y * V 0 0 + x) 0 = (if y ≤ 0 then -1 else y * V 0 0 + x - V 0 0) := (sd_eq (by omega) (by omega) (by omega) (by omega) g1 (by omega) yr.1 yr.2).1
    rw [b0] at n1
    rw [show y * V 0 0 + x + 1 = y * V 0 0 + (x + 1) by omega] at n2
    obtain ⟨P, p1, p2⟩ := ih g N (x + 1) (by omega) (by omega) (by omega) n2
    refine ⟨P, ?_, p2⟩
    by_cases q : y ≤ 0
    · rw [if_pos q] at n1 ⊢; exact n1.trans p1
    · rw [if_neg q] at n1 ⊢; exact n1.trans p1
theorem c_set23 (hT : T ≤ 22) (hT0 : CT0 M0 T V) (hV : VOK V) : ∀ (m fu : Nat) (M : Mem) (y : Int), y + (m : Int) = V 0 1 → 0 ≤ y → m < fu → SB M0 M T V (y * V 0 0) 0 → ∃ N, t_Town_settle_L23 T fu M y = some N ∧ SB M0 N T V (cellsV V) 0 := by
  have hcl := hV.cells
  have hv := hV.1
  intro m
  induction m with
  | zero =>
    intro fu M y g0 g1 g2 h
    obtain ⟨g, rfl⟩ : ∃ g, fu = g + 1 := ⟨fu - 1, by omega⟩
    have e12 : M.1 T 12 = V 0 1 := ((h.1 T 12 (by unfold StW4; omega)).1).trans hT0.1.2.1
    rw [t_Town_settle_L23, if_pos (by omega)]
    refine ⟨M, rfl, ?_⟩
    rw [show y = V 0 1 by omega, Int.mul_comm] at h
    exact h
  | succ m ih =>
    intro fu M y g0 g1 g2 h
    obtain ⟨g, rfl⟩ : ∃ g, fu = g + 1 := ⟨fu - 1, by omega⟩
    have e12 : M.1 T 12 = V 0 1 := ((h.1 T 12 (by unfold StW4; omega)).1).trans hT0.1.2.1
    rw [t_Town_settle_L23, if_neg (by omega)]
    obtain ⟨N, n1, n2⟩ := c_set33 (bk23 := fun a0_ a1_ => t_Town_settle_L23 T g a0_ a1_) hT hT0 hV ⟨g1, by omega⟩ (V 0 0).toNat FU M 0 (by omega) (by omega) (fu_big (by omega)) (by rw [show y * V 0 0 + 0 = y * V 0 0 by omega]; exact h)
    rw [n1]
    exact ih g N (y + 1) (by omega) (by omega) (by omega) n2
end ST
theorem c_settle {M : Mem} {T : Nat} {V : TV} (hT : T ≤ 22) (hT0 : CT0 M T V) (hV : VOK V) : ∃ N, t_Town_settle M T = some N ∧ Fr (fun k j => (k = T ∧ j = 13) ∨ k = T + 4 ∨ k = T + 9) M N ∧ CT0 N T V ∧ CTs N T V := by
  have hcl := hV.cells
  have hv := hV.1
  unfold t_Town_settle
  simp (config := { proj := false }) only [qlet]
  have hcw : w32 (V 0 0 * V 0 1) = cellsV V := w32_id (by unfold InR; unfold cellsV at hcl; omega)
  rw [hT0.1.1, hT0.1.2.1, hcw]
  have f1 : Fr (fun k j => k = T ∧ j = 13) M (setI M T 13 (cellsV V)) := Fr.rf.setI ⟨rfl, rfl⟩
  have e13 : (setI M T 13 (cellsV V)).1 T 13 = cellsV V := sI_self _ _ _ _
  generalize setI M T 13 (cellsV V) = M1 at *
  obtain ⟨M2, a1, a2, a3⟩ := c_fill (M := M1) (r := T + 4) (N1 := 4) (x := 0) (by omega)
  rw [a1, obind_some]
  have f2 : Fr (fun k j => (k = T ∧ j = 13) ∨ k = T + 4) M M2 := (f1.mono (fun k j z => Or.inl z)).trans (a2.mono (fun k j z => Or.inr z.1))
  have hT2 : CT0 M2 T V := by
    obtain ⟨⟨b1, b2, b3, b4, b5, b6⟩, c, d, e⟩ := hT0
    have q : ∀ k j, ¬ (k = T ∧ j = 13) → k ≠ T + 4 → M2.1 k j = M.1 k j ∧ M2.2 k j = M.2 k j := fun k j x y => f2 k j (by omega)
    refine ⟨⟨?_, ?_, ?_, ?_, ?_, ?_⟩, fun w x y => ⟨?_, ?_, ?_⟩, fun t x y => ⟨?_, ?_, ?_⟩, fun p x y => ⟨?_, ?_, ?_⟩⟩
    · rw [(q _ _ (by omega) (by omega)).1]; exact b1
    · rw [(q _ _ (by omega) (by omega)).1]; exact b2
    · rw [(q _ _ (by omega) (by omega)).1]; exact b3
    · rw [(q _ _ (by omega) (by omega)).1]; exact b4
    · rw [(q _ _ (by omega) (by omega)).1]; exact b5
    · rw [(q _ _ (by omega) (by omega)).1]; exact b6
    · rw [(q _ _ (by omega) (by omega)).1]; exact (c w x y).1
    · rw [(q _ _ (by omega) (by omega)).1]; exact (c w x y).2.1
    · rw [(q _ _ (by omega) (by omega)).1]; exact (c w x y).2.2
    · rw [(q _ _ (by omega) (by omega)).1]; exact (d t x y).1
    · rw [(q _ _ (by omega) (by omega)).1]; exact (d t x y).2.1
    · rw [(q _ _ (by omega) (by omega)).1]; exact (d t x y).2.2
    · rw [(q _ _ (by omega) (by omega)).1]; exact (e p x y).1
    · rw [(q _ _ (by omega) (by omega)).2]; exact (e p x y).2.1
    · rw [(q _ _ (by omega) (by omega)).2]; exact (e p x y).2.2
  obtain ⟨N, n1, n2, n3, n4, n5⟩ := c_set23 (M0 := M2) hT hT2 hV (V 0 1).toNat FU M2 0 (by omega) (by omega) (fu_big (by omega)) ⟨Fr.rf, fun c' a b => by omega, fun d a b => by omega, fun w a b => by rw [a3 w a (by omega)]; rw [show (0 * V 0 0).toNat = 0 by omega]; rfl⟩
  refine ⟨N, n1, f2.mono (fun k j z => by omega) |>.trans (n2.mono (fun k j z => by unfold StW4 at z; omega)), hT2.fr3 n2 (fun k j a z => by unfold StW4 at z; omega), ?_, fun w a b => n5 w a b, fun c a b d e f => n3 c a b d e f⟩
  rw [(n2 T 13 (by unfold StW4; omega)).1, (a2 T 13 (by omega)).1]
  exact e13
end
