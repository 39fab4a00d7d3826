/-! ===== the class's reader: laws, all lines ===== -/
def CL2 (N : Mem) (T : Nat) (B : Int → Int) (n : Int) (V : TV) (i : Nat) (g : Int) : Prop := (g = 1 ∧ (lnS B n V i).1 = 0 ∧ RD N B n (lnS B n V i).2.2.1 ∧ CP N T (lnS B n V i).2.2.2) ∨ (g = 0 ∧ (leS B n V i).1 ≠ 0 ∧ FT N (leS B n V i).1 (leS B n V i).2.1)
section RW
variable {B : Int → Int} {n : Int} {M : Mem} {i T : Nat} {V : TV}
theorem leC_bad (h : ¬ (lnS B n V i).1 = 0) : leS B n V i = lnS B n V i := by unfold leS; rw [if_pos h]
theorem cl2_of {N : Mem} {g : Int} (h : CLn N T B n (lnS B n V i) g) : CL2 N T B n V i g := by
  rcases h with ⟨a, b, c, d⟩ | ⟨a, b, c⟩
  · exact Or.inl ⟨b, a, c, d⟩
  · refine Or.inr ⟨b, ?_, ?_⟩
    · rw [leC_bad a]; exact a
    · rw [leC_bad a]; exact c
theorem knV_row {s : Nat} {out : List (Int × Int)} {kn : Int} : (∀ j, knV V s out kn (10 + 2 * s) j = (out.getD j.toNat (0, 0)).1) ∧ (∀ j, knV V s out kn (11 + 2 * s) j = (out.getD j.toNat (0, 0)).2) ∧ knV V s out kn 0 (9 + (s : Int)) = 1 ∧ knV V s out kn 0 (11 + (s : Int)) = (out.length : Int) ∧ (s < 2 → knV V s out kn 0 4 = kn) ∧ (∀ j, j ≠ 4 → j ≠ 9 + (s : Int) → j ≠ 11 + (s : Int) → knV V s out kn 0 j = V 0 j) ∧ (∀ r j, r ≠ 0 → r ≠ 10 + 2 * s → r ≠ 11 + 2 * s → knV V s out kn r j = V r j) := by
  unfold knV
  refine ⟨fun j => if_pos rfl, fun j => ?_, ?_, ?_, fun h => ?_, fun j a b c => ?_, fun r j a b c => ?_⟩
  · rw [if_neg (by omega), if_pos rfl]
  · rw [if_neg (by omega), if_neg (by omega), if_pos ⟨rfl, rfl⟩]
  · rw [if_neg (by omega), if_neg (by omega), if_neg (by omega), if_pos ⟨rfl, rfl⟩]
  · rw [if_neg (by omega), if_neg (by omega), if_neg (by omega), if_neg (by omega), if_pos ⟨rfl, rfl⟩]
  · rw [if_neg (by omega), if_neg (by omega), if_neg (by omega), if_neg (by omega), if_neg (by omega)]
  · rw [if_neg b, if_neg c, if_neg (fun q => a q.1), if_neg (fun q => a q.1), if_neg (fun q => a q.1)]
theorem outR_of {N : Mem} {k0 : Nat} {out : List (Int × Int)} (h : OutM N k0 out) : OutR N k0 (fun j => (out.getD j.toNat (0, 0)).1) (fun j => (out.getD j.toNat (0, 0)).2) (out.length : Int) := by
  refine ⟨h.1, fun j a b => ?_⟩
  have := h.2 j.toNat (by omega)
  rw [Int.toNat_of_nonneg a] at this
  exact this
theorem c_law58 (hT : T ≤ 22) (h : RD M B n (i + 1)) (hC : CP M T V) (hP : POK V) (hk : tK B n i = 7) {s : Nat} (hs : s < 2) (k1 : tK B n (i + 1) = 13 + (s : Int)) : ∃ N g, t_Reader_readLaw_L58 T M (T + 10 + 5 * s) = some (N, g) ∧ Fr (RdW T) M N ∧ CL2 N T B n V i g := by
  have hP' := hP
  obtain ⟨hV, hF, p6⟩ := hP
  have hC' := hC
  obtain ⟨hT0, ⟨f6, f7, f8⟩, ⟨b13, b14⟩, ⟨c7, c8⟩, hCF⟩ := hC
  obtain ⟨a1, a2, a3, a4, a5, a6⟩ := hT0.1
  have hv := hV.1
  have hcl := hV.cells
  have hc : M.1 (T + 10 + 5 * s) 4 = V 0 (9 + (s : Int)) ∧ M.1 (T + 10 + 5 * s) 3 = V 0 (11 + (s : Int)) := by
    have z : s = 0 ∨ s = 1 := by omega
    rcases z with rfl | rfl
    · exact ⟨hCF.1.1, hCF.1.2.1⟩
    · exact ⟨hCF.2.1, hCF.2.2.1⟩
  have hf : (V 0 (9 + (s : Int)) = 0 ∨ V 0 (9 + (s : Int)) = 1) ∧ (V 0 (9 + (s : Int)) = 1 ↔ 0 < V 0 (11 + (s : Int))) ∧ 0 ≤ V 0 (11 + (s : Int)) := by
    obtain ⟨g1, g2, g3, g4, g5, g6⟩ := hF
    have z : s = 0 ∨ s = 1 := by omega
    rcases z with rfl | rfl
    · exact ⟨g3, g5, g1.1⟩
    · exact ⟨g4, g6, g2.1⟩
  have eS : lnS B n V i = lnLaw B n V i := by
    unfold lnS
    rw [if_neg (show ¬ tK B n i = 0 by omega), if_neg (show ¬ tK B n i = 1 by omega), if_neg (show ¬ tK B n i = 2 by omega), if_neg (show ¬ tK B n i = 3 by omega), if_neg (show ¬ tK B n i = 4 by omega), if_neg (show ¬ tK B n i = 5 by omega), if_neg (show ¬ tK B n i = 6 by omega), if_pos hk]
  have eL : lnLaw B n V i = if V 0 (9 + (s : Int)) = 1 then (3, tP B n (i + 1), 0, V) else if ¬ (frS B n (i + 2) (V 0 4)).1 = 0 then ((frS B n (i + 2) (V 0 4)).1, tP B n (frS B n (i + 2) (V 0 4)).2.1, 0, V) else (0, 0, (frS B n (i + 2) (V 0 4)).2.1, knV V s (frS B n (i + 2) (V 0 4)).2.2.2 (frS B n (i + 2) (V 0 4)).2.2.1) := by
    unfold lnLaw
    rw [if_neg (show ¬ ¬ (tK B n (i + 1) = 13 ∨ tK B n (i + 1) = 14) from fun q => q (by omega)), show tK B n (i + 1) - 4 = 9 + (s : Int) by omega, show (tK B n (i + 1) - 13).toNat = s by omega]
  unfold t_Reader_readLaw_L58
  rw [hc.1]
  by_cases told : V 0 (9 + (s : Int)) = 1
  · rw [if_neg (by omega), h.2.2.2.2.2.2]
    obtain ⟨N, g, z1, z2, z3⟩ := c_ref0 (T := T) (B := B) (n := n) M (f := 3) (p := tP B n (i + 1)) (by decide) (a := 0) (U := V)
    refine ⟨N, g, z1, z2, cl2_of ?_⟩
    rw [eS, eL, if_pos told]
    exact z3
  · rw [if_pos (show V 0 (9 + (s : Int)) = 0 by omega), h.2.2.1, if_neg (by decide), if_neg (by decide)]
    have hi := h.2.1.le h.1.1
    have hn := h.1.1
    rw [h.2.2.2.1, w32_id (by unfold InR; omega)]
    have hcast : (((i + 1 : Nat) : Int) + 1) = ((i + 2 : Nat) : Int) := by omega
    rw [hcast]
    obtain ⟨N, f, j, n1, n2, n3, n4, n5, n6, n7⟩ := c_fread (k0 := T + 10 + 5 * s) (k3 := T) (i := i + 2) (c := V 0 4) (by omega) h.1 (h.2.1.succ (by omega)) (by rw [hc.2]; omega) a5 (by omega) (by omega)
    rw [n1, obind_some]
    show ∃ N' g, t_Reader_readLaw_L102 T N (T + 10 + 5 * s) f = some (N', g) ∧ _
    unfold t_Reader_readLaw_L102
    rw [n3]
    have t2 : TBl N B n := h.1.fr n2 (fun k j x y z => by unfold FmW at z; omega)
    obtain ⟨P, p1, p2, p3, p4⟩ := c_goTo t2 n4 (by rw [(n2 46 0 (by unfold FmW; omega)).1]; exact h.2.2.1)
    rw [p1, obind_some]
    have hW : Fr (RdW T) M P := (n2.mono (fun k j z => by unfold FmW at z; unfold RdW; omega)).trans (p2.mono rg_rd)
    have hA : Fr (fun k j => (k = 46 ∧ 1 ≤ j ∧ j ≤ 5) ∨ FmW (T + 10 + 5 * s) T k j) M P := (n2.mono (fun k j z => Or.inr z)).trans (p2.mono (fun k j z => Or.inl z))
    obtain ⟨R, hR⟩ : ∃ R, R = frS B n (i + 2) (V 0 4) := ⟨_, rfl⟩
    rw [← hR] at n5 n6 n7 eL
    rw [if_neg told] at eL
    by_cases f0 : f = 0
    · rw [if_pos f0]
      have r0 : R.1 = 0 ∧ tK B n j = 40 := by
        rw [f0] at n6
        by_cases z : R.1 = 0
        · rw [if_pos z] at n6
          by_cases k : tK B n j = 40
          · exact ⟨z, k⟩
          · rw [if_neg k] at n6; exact absurd n6 (by decide)
        · rw [if_neg z] at n6; exact absurd n6.symm z
      rw [if_neg (fun q => q r0.1)] at eL
      obtain ⟨m1, m2, m3⟩ := n7 f0
      refine ⟨P, 1, rfl, hW, Or.inl ⟨rfl, ?_⟩⟩
      rw [eS, eL]
      refine ⟨rfl, by show RD P B n R.2.1; rw [← n5]; exact p3, ?_⟩
      show CP P T (knV V s R.2.2.2 R.2.2.1)
      obtain ⟨u1, u2, u3, u4, u5, u6, u7⟩ := knV_row (V := V) (s := s) (out := R.2.2.2) (kn := R.2.2.1)
      have u5 := u5 hs
      generalize hU : knV V s R.2.2.2 R.2.2.1 = U at *
      have e46 : ∀ j, 6 ≤ j → P.1 46 j = M.1 46 j := fun j x => (hA 46 j (by unfold FmW; omega)).1
      have eT : ∀ j, j ≠ 16 → P.1 T j = M.1 T j ∧ P.2 T j = M.2 T j := fun j x => hA T j (by unfold FmW; omega)
      have er : ∀ k j, T + 1 ≤ k → k ≤ T + 9 → P.1 k j = M.1 k j := fun k j x y => (hA k j (by unfold FmW; omega)).1
      refine ⟨⟨⟨?_, ?_, ?_, ?_, ?_, ?_⟩, fun w x y => ⟨?_, ?_, ?_⟩, fun t x y => ⟨?_, ?_, ?_⟩, fun c x y => ⟨?_, ?_, ?_⟩⟩, ⟨?_, ?_, ?_⟩, ⟨?_, ?_⟩, ⟨?_, ?_⟩, ?_⟩
      · rw [(eT 11 (by omega)).1, a1, u6 0 (by omega) (by omega) (by omega)]
      · rw [(eT 12 (by omega)).1, a2, u6 1 (by omega) (by omega) (by omega)]
      · rw [(eT 14 (by omega)).1, a3, u6 2 (by omega) (by omega) (by omega)]
      · rw [(eT 15 (by omega)).1, a4, u6 3 (by omega) (by omega) (by omega)]
      · rw [(p2 T 16 (by unfold RgW; omega)).1, m2, u5]
      · rw [(eT 17 (by omega)).1, a6, u6 5 (by omega) (by omega) (by omega)]
      · rw [u6 2 (by omega) (by omega) (by omega)] at y; rw [er _ _ (by omega) (by omega), u7 _ _ (by omega) (by omega) (by omega)]; exact (hT0.2.1 w x y).1
      · rw [u6 2 (by omega) (by omega) (by omega)] at y; rw [er _ _ (by omega) (by omega), u7 _ _ (by omega) (by omega) (by omega)]; exact (hT0.2.1 w x y).2.1
      · rw [u6 2 (by omega) (by omega) (by omega)] at y; rw [er _ _ (by omega) (by omega), u7 _ _ (by omega) (by omega) (by omega)]; exact (hT0.2.1 w x y).2.2
      · rw [u6 3 (by omega) (by omega) (by omega)] at y; rw [er _ _ (by omega) (by omega), u7 _ _ (by omega) (by omega) (by omega)]; exact (hT0.2.2.1 t x y).1
      · rw [u6 3 (by omega) (by omega) (by omega)] at y; rw [er _ _ (by omega) (by omega), u7 _ _ (by omega) (by omega) (by omega)]; exact (hT0.2.2.1 t x y).2.1
      · rw [u6 3 (by omega) (by omega) (by omega)] at y; rw [er _ _ (by omega) (by omega), u7 _ _ (by omega) (by omega) (by omega)]; exact (hT0.2.2.1 t x y).2.2
      · rw [er _ _ (by omega) (by omega), u7 _ _ (by omega) (by omega) (by omega)]; exact (hT0.2.2.2 c x y).1
      · rw [(eT 18 (by omega)).2, u7 _ _ (by omega) (by omega) (by omega)]; exact (hT0.2.2.2 c x y).2.1
      · rw [(eT 19 (by omega)).2, u7 _ _ (by omega) (by omega) (by omega)]; exact (hT0.2.2.2 c x y).2.2
      · rw [e46 6 (by omega), f6, u6 6 (by omega) (by omega) (by omega)]
      · rw [e46 7 (by omega), f7, u6 13 (by omega) (by omega) (by omega)]
      · rw [e46 8 (by omega), f8, u6 14 (by omega) (by omega) (by omega)]
      · rw [u6 13 (by omega) (by omega) (by omega)]; exact b13
      · rw [u6 14 (by omega) (by omega) (by omega)]; exact b14
      · rw [(eT 18 (by omega)).2, c7, u6 7 (by omega) (by omega) (by omega)]
      · rw [(eT 19 (by omega)).2, c8, u6 8 (by omega) (by omega) (by omega)]
      · have o1 : OutR P (T + 10 + 5 * s) (U (10 + 2 * s)) (U (11 + 2 * s)) (U 0 (11 + (s : Int))) := by
          have := (outR_of m1).fr p2 (fun k j z y => by unfold RgW at y; omega)
          rw [u4, show U (10 + 2 * s) = fun j => (R.2.2.2.getD j.toNat (0, 0)).1 from funext u1, show U (11 + 2 * s) = fun j => (R.2.2.2.getD j.toNat (0, 0)).2 from funext u2]
          exact this
        have o2 : P.1 (T + 10 + 5 * s) 4 = U 0 (9 + (s : Int)) := by
          rw [(p2 _ 4 (by unfold RgW; omega)).1, m3, u3]
        have z : s = 0 ∨ s = 1 := by omega
        rcases z with rfl | rfl
        · refine ⟨⟨o2, o1⟩, ?_, ?_⟩
          · rw [(hA (T + 15) 4 (by unfold FmW; omega)).1, u6 10 (by decide) (by decide) (by decide)]; exact hCF.2.1
          · have := hCF.2.2.fr hA (fun k j z y => by unfold FmW at y; omega)
            rw [u6 12 (by decide) (by decide) (by decide), show U 12 = V 12 from funext (fun j => u7 12 j (by decide) (by decide) (by decide)), show U 13 = V 13 from funext (fun j => u7 13 j (by decide) (by decide) (by decide))]
            exact this
        · refine ⟨⟨?_, ?_⟩, o2, o1⟩
          · rw [(hA (T + 10) 4 (by unfold FmW; omega)).1, u6 9 (by decide) (by decide) (by decide)]; exact hCF.1.1
          · have := hCF.1.2.fr hA (fun k j z y => by unfold FmW at y; omega)
            rw [u6 11 (by decide) (by decide) (by decide), show U 10 = V 10 from funext (fun j => u7 10 j (by decide) (by decide) (by decide)), show U 11 = V 11 from funext (fun j => u7 11 j (by decide) (by decide) (by decide))]
            exact this
    · rw [if_neg f0, p3.2.2.2.2.2.2]
      obtain ⟨x1, x2, x3⟩ := c_refuse (M := P) f (tP B n j)
      have hle : (leS B n V i).1 = f ∧ (leS B n V i).2.1 = tP B n j := by
        by_cases z : R.1 = 0
        · rw [if_neg (fun q => q z)] at eL
          rw [if_pos z] at n6
          have k40 : ¬ tK B n j = 40 := fun q => by rw [if_pos q] at n6; exact f0 n6
          rw [if_neg k40] at n6
          have : leS B n V i = (1, tP B n j, 0, V) := by
            unfold leS
            rw [eS, eL, if_neg (fun q => q rfl)]
            rw [← n5]
            rw [if_neg k40]
          rw [this, n6]
          exact ⟨rfl, rfl⟩
        · rw [if_pos z] at eL
          rw [if_neg z] at n6
          have : leS B n V i = (R.1, tP B n R.2.1, 0, V) := by
            rw [leC_bad (by rw [eS, eL]; exact z), eS, eL]
          rw [this, n6, n5]
          exact ⟨rfl, rfl⟩
      refine ⟨(t_Reader_refuse P f (tP B n j)).1, 0, ?_, hW.trans (x1.mono rf_rd), Or.inr ⟨rfl, by rw [hle.1]; exact f0, by rw [hle.1, hle.2]; exact x3⟩⟩
      simp only [qlet]
      rw [x2, if_pos rfl]
theorem c_rLaw (hT : T ≤ 22) (h : RD M B n i) (hk : tK B n i = 7) (hC : CP M T V) (hP : POK V) : ∃ N g, t_Reader_readLaw M T = some (N, g) ∧ Fr (RdW T) M N ∧ CL2 N T B n V i g := by
  unfold t_Reader_readLaw
  obtain ⟨N1, n1, n2, n3, n4⟩ := c_next1 h (by rw [hk]; decide)
  rw [n1, obind_some, n3.2.2.2.2.1, n3.2.2.2.2.2.2]
  have hC1 : CP N1 T V := hC.fr n2 (fun k j z y => by unfold RgW at y; omega)
  have w1 : Fr (RdW T) M N1 := n2.mono rg_rd
  unfold t_Reader_readLaw_L38
  rw [n3.2.2.2.2.1]
  by_cases k13 : tK B n (i + 1) = 13
  · rw [if_pos k13, if_pos k13]
    obtain ⟨N, g, z1, z2, z3⟩ := c_law58 (s := 0) hT n3 hC1 hP hk (by omega) (by omega)
    exact ⟨N, g, z1, w1.trans z2, z3⟩
  · rw [if_neg k13, if_neg k13]
    by_cases k14 : tK B n (i + 1) = 14
    · rw [if_pos k14]
      obtain ⟨N, g, z1, z2, z3⟩ := c_law58 (s := 1) hT n3 hC1 hP hk (by omega) (by omega)
      exact ⟨N, g, z1, w1.trans z2, z3⟩
    · rw [if_neg k14]
      obtain ⟨N, g, z1, z2, z3⟩ := c_ref0 (T := T) (B := B) (n := n) N1 (f := 1) (p := tP B n (i + 1)) (by decide) (a := 0) (U := V)
      refine ⟨N, g, z1, w1.trans z2, cl2_of ?_⟩
      unfold lnS lnLaw
      rw [if_neg (show ¬ tK B n i = 0 by omega), if_neg (show ¬ tK B n i = 1 by omega), if_neg (show ¬ tK B n i = 2 by omega), if_neg (show ¬ tK B n i = 3 by omega), if_neg (show ¬ tK B n i = 4 by omega), if_neg (show ¬ tK B n i = 5 by omega), if_neg (show ¬ tK B n i = 6 by omega), if_pos hk, if_pos (show ¬ (tK B n (i + 1) = 13 ∨ tK B n (i + 1) = 14) by omega)]
      exact z3
/-- any line -/
theorem c_aLine2 (hT : T ≤ 22) (h : RD M B n i) (hC : CP M T V) (hP : POK V) (bk : Mem → Int → Int → Option (Mem × Int)) (l v : Int) (k32 : ¬ tK B n i = 32) : ∃ N g, Fr (RdW T) M N ∧ CL2 N T B n V i g ∧
    (if M.1 46 2 = 0 then obind (t_Reader_readTown M T) fun q8 => t_Reader_read_L167 T bk q8.1 l v q8.2 else if M.1 46 2 = 1 then obind (t_Reader_readWard M T) fun q11 => t_Reader_read_L167 T bk q11.1 l v q11.2 else if M.1 46 2 = 2 then obind (t_Reader_readPart M T) fun q14 => t_Reader_read_L167 T bk q14.1 l v q14.2 else if M.1 46 2 = 3 then obind (t_Reader_readWall M T) fun q17 => t_Reader_read_L167 T bk q17.1 l v q17.2 else if M.1 46 2 = 4 then obind (t_Reader_readStair M T) fun q20 => t_Reader_read_L167 T bk q20.1 l v q20.2 else if M.1 46 2 = 5 then obind (t_Reader_readThing M T) fun q23 => t_Reader_read_L167 T bk q23.1 l v q23.2 else if M.1 46 2 = 6 then obind (t_Reader_readSeed M T) fun q26 => t_Reader_read_L167 T bk q26.1 l v q26.2 else if M.1 46 2 = 7 then obind (t_Reader_readLaw M T) fun q29 => t_Reader_read_L167 T bk q29.1 l v q29.2 else qlet (t_Reader_refuse M 1 (M.1 46 4)) fun q32 => t_Reader_read_L167 T bk q32.1 l v q32.2) = t_Reader_read_L167 T bk N l v g := by
  rw [h.2.2.2.2.1]
  by_cases k0 : tK B n i = 0
  · obtain ⟨N, g, z1, z2, z3⟩ := c_rTown hT h k0 hC hP
    exact ⟨N, g, z2, cl2_of z3, by rw [if_pos k0, z1]; rfl⟩
  rw [if_neg k0]
  by_cases k1 : tK B n i = 1
  · obtain ⟨N, g, z1, z2, z3⟩ := c_rWard hT h k1 hC hP
    exact ⟨N, g, z2, cl2_of z3, by rw [if_pos k1, z1]; rfl⟩
  rw [if_neg k1]
  by_cases k2 : tK B n i = 2
  · obtain ⟨N, g, z1, z2, z3⟩ := c_rPart hT h k2 hC hP
    exact ⟨N, g, z2, cl2_of z3, by rw [if_pos k2, z1]; rfl⟩
  rw [if_neg k2]
  by_cases k3 : tK B n i = 3
  · obtain ⟨N, g, z1, z2, z3⟩ := c_rWall hT h k3 hC hP
    exact ⟨N, g, z2, cl2_of z3, by rw [if_pos k3, z1]; rfl⟩
  rw [if_neg k3]
  by_cases k4 : tK B n i = 4
  · obtain ⟨N, g, z1, z2, z3⟩ := c_rStair hT h k4 hC hP
    exact ⟨N, g, z2, cl2_of z3, by rw [if_pos k4, z1]; rfl⟩
  rw [if_neg k4]
  by_cases k5 : tK B n i = 5
  · obtain ⟨N, g, z1, z2, z3⟩ := c_rThing hT h k5 hC hP
    exact ⟨N, g, z2, cl2_of z3, by rw [if_pos k5, z1]; rfl⟩
  rw [if_neg k5]
  by_cases k6 : tK B n i = 6
  · obtain ⟨N, g, z1, z2, z3⟩ := c_rSeed hT h k6 hC hP
    exact ⟨N, g, z2, cl2_of z3, by rw [if_pos k6, z1]; rfl⟩
  rw [if_neg k6]
  by_cases k7 : tK B n i = 7
  · obtain ⟨N, g, z1, z2, z3⟩ := c_rLaw hT h k7 hC hP
    exact ⟨N, g, z2, z3, by rw [if_pos k7, z1]; rfl⟩
  rw [if_neg k7, h.2.2.2.2.2.2]
  obtain ⟨x1, x2, x3⟩ := c_refuse (M := M) 1 (tP B n i)
  refine ⟨(t_Reader_refuse M 1 (tP B n i)).1, 0, x1.mono rf_rd, cl2_of ?_, ?_⟩
  · unfold lnS
    rw [if_neg k0, if_neg k1, if_neg k2, if_neg k3, if_neg k4, if_neg k5, if_neg k6, if_neg k7]
    exact CLn.bad x3 (by decide)
  · simp only [qlet]
    rw [x2]
/-- a line and its end -/
theorem c_lend (hT : T ≤ 22) {N : Mem} {g : Int} (h : CL2 N T B n V i g) (bk : Mem → Int → Int → Option (Mem × Int)) (l v : Int) (l0 : 0 ≤ l) (l1 : l ≤ 800) (v0 : 0 ≤ v) (v1 : v ≤ 800) : ∃ P, Fr (RdW T) N P ∧ (((leS B n V i).1 = 0 ∧ t_Reader_read_L167 T bk N l v g = bk P (l + 1) (v + 1) ∧ RD P B n (leS B n V i).2.2.1 ∧ CP P T (leS B n V i).2.2.2) ∨ ((leS B n V i).1 ≠ 0 ∧ t_Reader_read_L167 T bk N l v g = some (P, -1) ∧ FT P (leS B n V i).1 (leS B n V i).2.1)) := by
  unfold t_Reader_read_L167
  rcases h with ⟨a, b, c, d⟩ | ⟨a, b, c⟩
  · subst a
    rw [if_neg (show ¬ (1 : Int) = 0 by decide)]
    obtain ⟨P, q, p1, p2, p3⟩ := c_take c (due := 40) (by decide)
    rw [p1, obind_some]
    have hle : leS B n V i = if tK B n (lnS B n V i).2.2.1 = 40 then (0, 0, (lnS B n V i).2.2.1 + 1, (lnS B n V i).2.2.2) else (1, tP B n (lnS B n V i).2.2.1, 0, V) := by
      unfold leS
      rw [if_neg (fun z => z b)]
    rcases p3 with ⟨b1, b2, b3, b4⟩ | ⟨b1, b2, b3⟩
    · subst b2
      rw [if_pos b1] at hle
      rw [if_neg (show ¬ (1 : Int) = 0 by decide), w32_id (x := l + 1) (by unfold InR; omega), w32_id (x := v + 1) (by unfold InR; omega), hle]
      exact ⟨P, p2.mono rf_rd, Or.inl ⟨rfl, rfl, b3, d.fr p2 (fun k j z y => by unfold RfW at y; omega)⟩⟩
    · subst b2
      rw [if_neg b1] at hle
      rw [if_pos rfl, hle]
      exact ⟨P, p2.mono rf_rd, Or.inr ⟨(show (1 : Int) ≠ 0 by decide), rfl, b3⟩⟩
  · subst a
    rw [if_pos rfl]
    exact ⟨N, Fr.rf, Or.inr ⟨b, rfl, c⟩⟩
/-- what a text told leaves -/
def CTx (N : Mem) (T : Nat) (V : TV) : Prop := CT0 N T V ∧ CTs N T V ∧ CFm N T V
theorem c_read_loop (hT : T ≤ 22) : ∀ (m fu fs : Nat) (M : Mem) (V : TV) (i : Nat) (l : Int), n ≤ (i : Int) + (m : Int) → m + 1 < fu → m < fs → RD M B n i → CP M T V → POK V → 0 ≤ l → l ≤ (i : Int) →
    ∃ N r, t_Reader_read_L10 T fu M l l = some (N, r) ∧ Fr (RdW T) M N ∧ (((txS B n fs V i l).1 = 0 ∧ r = (txS B n fs V i l).2.2.1 ∧ 0 ≤ r ∧ CTx N T (txS B n fs V i l).2.2.2) ∨ ((txS B n fs V i l).1 ≠ 0 ∧ r = -1 ∧ FT N (txS B n fs V i l).1 (txS B n fs V i l).2.1)) := by
  have endd : ∀ (fu fs : Nat) (M : Mem) (V : TV) (i : Nat) (l : Int), 0 < fs → RD M B n i → CP M T V → POK V → 0 ≤ l → tK B n i = 32 →
    ∃ N r, t_Reader_read_L192 T M l = some (N, r) ∧ Fr (RdW T) M N ∧ (((txS B n fs V i l).1 = 0 ∧ r = (txS B n fs V i l).2.2.1 ∧ 0 ≤ r ∧ CTx N T (txS B n fs V i l).2.2.2) ∨ ((txS B n fs V i l).1 ≠ 0 ∧ r = -1 ∧ FT N (txS B n fs V i l).1 (txS B n fs V i l).2.1)) := by
    intro fu fs M V i l f1 h hC hP l0 k
    obtain ⟨gs, rfl⟩ : ∃ g, fs = g + 1 := ⟨fs - 1, by omega⟩
    rw [txS, if_pos k]
    unfold t_Reader_read_L192
    obtain ⟨N, n1, n2, n3, n4⟩ := c_settle hT hC.1 hP.1
    rw [n1, obind_some]
    exact ⟨N, l, rfl, n2.mono (fun k j z => by unfold RdW; omega), Or.inl ⟨rfl, rfl, l0, n3, n4, hC.2.2.2.2.fr n2 (fun k j z y => by omega)⟩⟩
  intro m
  induction m with
  | zero =>
    intro fu fs M V i l g0 g1 g2 h hC hP l0 l1
    obtain ⟨g, rfl⟩ : ∃ g, fu = g + 1 := ⟨fu - 1, by omega⟩
    have hn := h.1.1
    have k := tK_end (B := B) hn.1 hn.2 (i := i) (by omega)
    rw [t_Reader_read_L10, h.2.2.2.2.1, if_pos k]
    have := endd g fs M V i l (by omega) h hC hP l0 k
    by_cases q : 700 ≤ l
    · rw [if_pos q]; exact this
    · rw [if_neg q]; exact this
  | succ m ih =>
    intro fu fs M V i l g0 g1 g2 h hC hP l0 l1
    obtain ⟨g, rfl⟩ : ∃ g, fu = g + 1 := ⟨fu - 1, by omega⟩
    obtain ⟨gs, rfl⟩ : ∃ g, fs = g + 1 := ⟨fs - 1, by omega⟩
    have hn := h.1.1
    rw [t_Reader_read_L10]
    by_cases k : tK B n i = 32
    · have := endd g (gs + 1) M V i l (by omega) h hC hP l0 k
      by_cases q : 700 ≤ l
      · rw [if_pos q]; exact this
      · rw [if_neg q, if_pos (h.2.2.2.2.1.trans k)]; exact this
    · have hi : (i : Int) < n := by
        by_cases z : (i : Int) < n
        · exact z
        · exact absurd (tK_end (B := B) hn.1 hn.2 (by omega)) k
      rw [if_neg (show ¬ 700 ≤ l by omega), if_neg (fun z => k (h.2.2.2.2.1.symm.trans z))]
      obtain ⟨N, q, n1, n2, n3⟩ := c_aLine2 hT h hC hP (fun a0_ a1_ a2_ => t_Reader_read_L10 T g a0_ a1_ a2_) l l k
      rw [n3, txS, if_neg k]
      obtain ⟨P, p1, p2⟩ := c_lend hT n2 (fun a0_ a1_ a2_ => t_Reader_read_L10 T g a0_ a1_ a2_) l l l0 (by omega) l0 (by omega)
      rcases p2 with ⟨b1, b2, b3, b4⟩ | ⟨b1, b2, b3⟩
      · rw [b2, if_neg (fun z => z b1)]
        obtain ⟨u1, u2⟩ := pok_le hn hP b1
        obtain ⟨Q, r, v1, v2, v3⟩ := ih g gs P _ _ (l + 1) (by omega) (by omega) (by omega) b3 b4 u1 (by omega) (by omega)
        exact ⟨Q, r, v1, (n1.trans p1).trans v2, v3⟩
      · rw [b2, if_pos b1]
        exact ⟨P, -1, rfl, n1.trans p1, Or.inr ⟨b1, rfl, b3⟩⟩
end RW
/-- a whole text read by the class into a cleared town -/
theorem c_read {B : Int → Int} {n : Int} {M : Mem} {T : Nat} (hT : T ≤ 22) (hB : TBl M B n) (hC : CT0 M T TV0 ∧ (cntT (M.2 T 18) 64 = 0 ∧ cntT (M.2 T 19) 64 = 0) ∧ CFm M T TV0) : ∃ N r, t_Reader_read M T = some (N, r) ∧ Fr (fun k j => (k = 46 ∧ 0 ≤ j ∧ j ≤ 10) ∨ (T ≤ k ∧ k ≤ T + 19)) M N ∧ (((txA B n).1 = 0 ∧ r = (txA B n).2.2.1 ∧ 0 ≤ r ∧ CTx N T (txA B n).2.2.2) ∨ ((txA B n).1 ≠ 0 ∧ r = -1 ∧ FT N (txA B n).1 (txA B n).2.1)) := by
  unfold t_Reader_read t_Reader_begin
  simp (config := { proj := false }) only [qlet]
  have f1 : Fr (fun k j => k = 46 ∧ 0 ≤ j ∧ j ≤ 10) M (setI (setI (setI (setI (setI (setI (setI M 46 0 (42 : Nat)) 46 6 0) 46 7 0) 46 8 0) 46 9 0) 46 10 (-1)) 46 4 (-1)) := ((((((Fr.rf.setI (by omega)).setI (by omega)).setI (by omega)).setI (by omega)).setI (by omega)).setI (by omega)).setI (by omega)
  have e0 : (setI (setI (setI (setI (setI (setI (setI M 46 0 (42 : Nat)) 46 6 0) 46 7 0) 46 8 0) 46 9 0) 46 10 (-1)) 46 4 (-1)).1 46 0 = 42 := by rw [sI_ne (by omega), sI_ne (by omega), sI_ne (by omega), sI_ne (by omega), sI_ne (by omega), sI_ne (by omega), sI_self]; rfl
  have e6 : (setI (setI (setI (setI (setI (setI (setI M 46 0 (42 : Nat)) 46 6 0) 46 7 0) 46 8 0) 46 9 0) 46 10 (-1)) 46 4 (-1)).1 46 6 = 0 := by rw [sI_ne (by omega), sI_ne (by omega), sI_ne (by omega), sI_ne (by omega), sI_ne (by omega), sI_self]
  have e7 : (setI (setI (setI (setI (setI (setI (setI M 46 0 (42 : Nat)) 46 6 0) 46 7 0) 46 8 0) 46 9 0) 46 10 (-1)) 46 4 (-1)).1 46 7 = 0 := by rw [sI_ne (by omega), sI_ne (by omega), sI_ne (by omega), sI_ne (by omega), sI_self]
  have e8 : (setI (setI (setI (setI (setI (setI (setI M 46 0 (42 : Nat)) 46 6 0) 46 7 0) 46 8 0) 46 9 0) 46 10 (-1)) 46 4 (-1)).1 46 8 = 0 := by rw [sI_ne (by omega), sI_ne (by omega), sI_ne (by omega), sI_self]
  generalize setI (setI (setI (setI (setI (setI (setI M 46 0 (42 : Nat)) 46 6 0) 46 7 0) 46 8 0) 46 9 0) 46 10 (-1)) 46 4 (-1) = M1 at *
  obtain ⟨N0, n1, n2, n3, n4⟩ := c_goTo (i := 0) (hB.fr f1 (fun k j x y z => by omega)) Lv.zero e0
  have hz : ((0 : Nat) : Int) = 0 := rfl
  rw [hz] at n1
  rw [n1, obind_some, obind_some]
  have hn := hB.1
  have fA : Fr (fun k j => k = 46 ∧ 0 ≤ j ∧ j ≤ 10) M N0 := f1.trans (n2.mono (fun k j z => by unfold RgW at z; omega))
  have z : ∀ j, ¬ (j = 0 ∨ j = 1) → TV0 0 j = 0 := fun j h => by
    unfold TV0
    rw [if_neg (fun q => h q.2), if_neg (by decide)]
  have hCP : CP N0 T TV0 := by
    refine ⟨hC.1.fr2 fA (fun k j x y => by omega), ⟨?_, ?_, ?_⟩, ⟨Or.inl (z 13 (by omega)), Or.inl (z 14 (by omega))⟩, ⟨?_, ?_⟩, hC.2.2.fr fA (fun k j x y => by omega)⟩
    · rw [(n2 46 6 (by unfold RgW; omega)).1, e6, z 6 (by omega)]
    · rw [(n2 46 7 (by unfold RgW; omega)).1, e7, z 13 (by omega)]
    · rw [(n2 46 8 (by unfold RgW; omega)).1, e8, z 14 (by omega)]
    · rw [(fA T 18 (by omega)).2, hC.2.1.1, z 7 (by omega)]
    · rw [(fA T 19 (by omega)).2, hC.2.1.2, z 8 (by omega)]
  obtain ⟨P, r, p1, p2, p3⟩ := c_read_loop hT n.toNat FU 1000 N0 TV0 0 0 (by omega) (fu_big (by omega)) (by omega) n3 hCP pok0 (by omega) (by omega)
  exact ⟨P, r, p1, (fA.mono (fun k j z => Or.inl z)).trans (p2.mono (fun k j z => by unfold RdW at z; omega)), p3⟩
