section
/-! ===== the class's reader: laws, all lines ===== -/
def CL2 (N : Mem) (T : Nat) (B : Int → Int) (n : Int) (V : TV) (i : Nat) (g : Int) : Prop := (g = 1 ∧ (lnS B n V i).1 = 0 ∧ RD N B n (lnS B n V i).2.2.1 ∧ CP N T (lnS B n V i).2.2.2) ∨ (g = 0 ∧ (leS B n V i).1 ≠ 0 ∧ FT N (leS B n V i).1 (leS B n V i).2.1)
section RW
variable {B : Int → Int} {n : Int} {M : Mem} {i T : Nat} {V : TV}
theorem leC_bad (h : ¬ (lnS B n V i).1 = 0) : leS B n V i = lnS B n V i := by unfold leS; rw [if_pos h]
theorem cl2_of {N : Mem} {g : Int} (h : CLn N T B n (lnS B n V i) g) : CL2 N T B n V i g := by
  rcases h with ⟨a, b, c, d⟩ | ⟨a, b, c⟩
  · exact Or.inl ⟨b, a, c, d⟩
  · refine Or.inr ⟨b, ?_, ?_⟩
    · rw [leC_bad a]; exact a
    · rw [leC_bad a]; exact c
theorem knV_row {s : Nat} {out : List (Int × Int)} {kn : Int} : (∀ j, knV V s out kn (10 + 2 * s) j = (out.getD j.toNat (0, 0)).1) ∧ (∀ j, knV V s out kn (11 + 2 * s) j = (out.getD j.toNat (0, 0)).2) ∧ knV V s out kn 0 (9 + (s : Int)) = 1 ∧ knV V s out kn 0 (11 + (s : Int)) = (out.length : Int) ∧ (s < 2 → knV V s out kn 0 4 = kn) ∧ (∀ j, j ≠ 4 → j ≠ 9 + (s : Int) → j ≠ 11 + (s : Int) → knV V s out kn 0 j = V 0 j) ∧ (∀ r j, r ≠ 0 → r ≠ 10 + 2 * s → r ≠ 11 + 2 * s → knV V s out kn r j = V r j) := by
  unfold knV
  refine ⟨fun j => if_pos rfl, fun j => ?_, ?_, ?_, fun h => ?_, fun j a b c => ?_, fun r j a b c => ?_⟩
  · rw [if_neg (by omega), if_pos rfl]
  · rw [if_neg (by omega), if_neg (by omega), if_pos ⟨rfl, rfl⟩]
  · rw [if_neg (by omega), if_neg (by omega), if_neg (by omega), if_pos ⟨rfl, rfl⟩]
  · rw [if_neg (by omega), if_neg (by omega), if_neg (by omega), if_neg (by omega), if_pos ⟨rfl, rfl⟩]
  · rw [if_neg (by omega), if_neg (by omega), if_neg (by omega), if_neg (by omega), if_neg (by omega)]
  · rw [if_neg b, if_neg c, if_neg (fun q => a q.1), if_neg (fun q => a q.1), if_neg (fun q => a q.1)]
theorem outR_of {N : Mem} {k0 : Nat} {out : List (Int × Int)} (h : OutM N k0 out) : OutR N k0 (fun j => (out.getD j.toNat (0, 0)).1) (fun j => (out.getD j.toNat (0, 0)).2) (out.length : Int) := by
  refine ⟨h.1, fun j a b => ?_⟩
  have := h.2 j.toNat (by omega)
  rw [Int.toNat_of_nonneg a] at this
  exact this
theorem c_law58 (hT : T ≤ 22) (h : RD M B n (i + 1)) (hC : CP M T V) (hP : POK V) (hk : tK B n i = 7) {s : Nat} (hs : s < 2) (k1 : tK B n (i + 1) = 13 + (s : Int)) : ∃ N g, t_Reader_readLaw_L58 T M (T + 10 + 5 * s) = some (N, g) ∧ Fr (RdW T) M N ∧ CL2 N T B n V i g := by
  have hP' := hP
  obtain ⟨hV, hF, p6⟩ := hP
  have hC' := hC
  obtain ⟨hT0, ⟨f6, f7, f8⟩, ⟨b13, b14⟩, ⟨c7, c8⟩, hCF⟩ := hC
  obtain ⟨a1, a2, a3, a4, a5, a6⟩ := hT0.1
  have hv := hV.1
  have hcl := hV.cells
  have hc : M.1 (T + 10 + 5 * s) 4 = V 0 (9 + (s : Int)) ∧ M.1 (T + 10 + 5 * s) 3 = V 0 (11 + (s : Int)) := by
    have z : s = 0 ∨ s = 1 := by omega
    rcases z with rfl | rfl
    · exact ⟨hCF.1.1, hCF.1.2.1⟩
    · exact ⟨hCF.2.1, hCF.2.2.1⟩
  have hf : (V 0 (9 + (s : Int)) = 0 ∨ V 0 (9 + (s : Int)) = 1) ∧ (V 0 (9 + (s : Int)) = 1 ↔ 0 < V 0 (11 + (s : Int))) ∧ 0 ≤ V 0 (11 + (s : Int)) := by
    obtain ⟨g1, g2, g3, g4, g5, g6⟩ := hF
    have z : s = 0 ∨ s = 1 := by omega
    rcases z with rfl | rfl
    · exact ⟨g3, g5, g1.1⟩
    · exact ⟨g4, g6, g2.1⟩
  have eS : lnS B n V i = lnLaw B n V i := by
    unfold lnS
    rw [if_neg (show ¬ tK B n i = 0 by omega), if_neg (show ¬ tK B n i = 1 by omega), if_neg (show ¬ tK B n i = 2 by omega), if_neg (show ¬ tK B n i = 3 by omega), if_neg (show ¬ tK B n i = 4 by omega), if_neg (show ¬ tK B n i = 5 by omega), if_neg (show ¬ tK B n i = 6 by omega), if_pos hk]
  have eL : lnLaw B n V i = if V 0 (9 + (s : Int)) = 1 then (3, tP B n (i + 1), 0, V) else if ¬ (frS B n (i + 2) (V 0 4)).1 = 0 then ((frS B n (i + 2) (V 0 4)).1, tP B n (frS B n (i + 2) (V 0 4)).2.1, 0, V) else (0, 0, (frS B n (i + 2) (V 0 4)).2.1, knV V s (frS B n (i + 2) (V 0 4)).2.2.2 (frS B n (i + 2) (V 0 4)).2.2.1) := by
    unfold lnLaw
    rw [if_neg (show ¬ ¬ (tK B n (i + 1) = 13 ∨ tK B n (i + 1) = 14) from fun q => q (by omega)), show tK B n (i + 1) - 4 = 9 + (s : Int) by omega, show (tK B n (i + 1) - 13).toNat = s by omega]
  unfold t_Reader_readLaw_L58
  rw [hc.1]
  by_cases told : V 0 (9 + (s : Int)) = 1
  · rw [if_neg (by omega), h.2.2.2.2.2.2]
    obtain ⟨N, g, z1, z2, z3⟩ := c_ref0 (T := T) (B := B) (n := n) M (f := 3) (p := tP B n (i + 1)) (by decide) (a := 0) (U := V)
    refine ⟨N, g, z1, z2, cl2_of ?_⟩
    rw [eS, eL, if_pos told]
    exact z3
  · rw [if_pos (show V 0 (9 + (s : Int)) = 0 by omega), h.2.2.1, if_neg (by decide), if_neg (by decide)]
    have hi := h.2.1.le h.1.1
    have hn := h.1.1
    rw [h.2.2.2.1, w32_id (by unfold InR; omega)]
    have hcast : (((i + 1 : Nat) : Int) + 1) = ((i + 2 : Nat) : Int) := by omega
    rw [hcast]
    obtain ⟨N, f, j, n1, n2, n3, n4, n5, n6, n7⟩ := c_fread (k0 := T + 10 + 5 * s) (k3 := T) (i := i + 2) (c := V 0 4) (by omega) h.1 (h.2.1.succ (by omega)) (by rw [hc.2]; omega) a5 (by omega) (by omega)
    rw [n1, obind_some]
    show ∃ N' g, t_Reader_readLaw_L102 T N (T + 10 + 5 * s) f = some (N', g) ∧ _
    unfold t_Reader_readLaw_L102
    rw [n3]
    have t2 : TBl N B n := h.1.fr n2 (fun k j x y z => by unfold FmW at z; omega)
    obtain ⟨P, p1, p2, p3, p4⟩ := c_goTo t2 n4 (by rw [(n2 46 0 (by unfold FmW; omega)).1]; exact h.2.2.1)
    rw [p1, obind_some]
    have hW : Fr (RdW T) M P := (n2.mono (fun k j z => by unfold FmW at z; unfold RdW; omega)).trans (p2.mono rg_rd)
    have hA : Fr (fun k j => (k = 46 ∧ 1 ≤ j ∧ j ≤ 5) ∨ FmW (T + 10 + 5 * s) T k j) M P := (n2.mono (fun k j z => Or.inr z)).trans (p2.mono (fun k j z => Or.inl z))
    obtain ⟨R, hR⟩ : ∃ R, R = frS B n (i + 2) (V 0 4) := ⟨_, rfl⟩
    rw [← hR] at n5 n6 n7 eL
    rw [if_neg told] at eL
    by_cases f0 : f = 0
    · rw [if_pos f0]
      have r0 : R.1 = 0 ∧ tK B n j = 40 := by
        rw [f0] at n6
        by_cases z : R.1 = 0
        · rw [if_pos z] at n6
          by_cases k : tK B n j = 40
          · exact ⟨z, k⟩
          · rw [if_neg k] at n6; exact absurd n6 (by decide)
        · rw [if_neg z] at n6; exact absurd n6.symm z
      rw [if_neg (fun q => q r0.1)] at eL
      obtain ⟨m1, m2, m3⟩ := n7 f0
      refine ⟨P, 1, rfl, hW, Or.inl ⟨rfl, ?_⟩⟩
      rw [eS, eL]
      refine ⟨rfl, by show RD P B n R.2.1; rw [← n5]; exact p3, ?_⟩
      show CP P T (knV V s R.2.2.2 R.2.2.1)
      obtain ⟨u1, u2, u3, u4, u5, u6, u7⟩ := knV_row (V := V) (s := s) (out := R.2.2.2) (kn := R.2.2.1)
      have u5 := u5 hs
      generalize hU : knV V s R.2.2.2 R.2.2.1 = U at *
      have e46 : ∀ j, 6 ≤ j → P.1 46 j = M.1 46 j := fun j x => (hA 46 j (by unfold FmW; omega)).1
      have eT : ∀ j, j ≠ 16 → P.1 T j = M.1 T j ∧ P.2 T j = M.2 T j := fun j x => hA T j (by unfold FmW; omega)
      have er : ∀ k j, T + 1 ≤ k → k ≤ T + 9 → P.1 k j = M.1 k j := fun k j x y => (hA k j (by unfold FmW; omega)).1
      refine ⟨⟨⟨?_, ?_, ?_, ?_, ?_, ?_⟩, fun w x y => ⟨?_, ?_, ?_⟩, fun t x y => ⟨?_, ?_, ?_⟩, fun c x y => ⟨?_, ?_, ?_⟩⟩, ⟨?_, ?_, ?_⟩, ⟨?_, ?_⟩, ⟨?_, ?_⟩, ?_⟩
      · rw [(eT 11 (by omega)).1, a1, u6 0 (by omega) (by omega) (by omega)]
      · rw [(eT 12 (by omega)).1, a2, u6 1 (by omega) (by omega) (by omega)]
      · rw [(eT 14 (by omega)).1, a3, u6 2 (by omega) (by omega) (by omega)]
      · rw [(eT 15 (by omega)).1, a4, u6 3 (by omega) (by omega) (by omega)]
      · rw [(p2 T 16 (by unfold RgW; omega)).1, m2, u5]
      · rw [(eT 17 (by omega)).1, a6, u6 5 (by omega) (by omega) (by omega)]
      · rw [u6 2 (by omega) (by omega) (by omega)] at y; rw [er _ _ (by omega) (by omega), u7 _ _ (by omega) (by omega) (by omega)]; exact (hT0.2.1 w x y).1
      · rw [u6 2 (by omega) (by omega) (by omega)] at y; rw [er _ _ (by omega) (by omega), u7 _ _ (by omega) (by omega) (by omega)]; exact (hT0.2.1 w x y).2.1
      · rw [u6 2 (by omega) (by omega) (by omega)] at y; rw [er _ _ (by omega) (by omega), u7 _ _ (by omega) (by omega) (by omega)]; exact (hT0.2.1 w x y).2.2
      · rw [u6 3 (by omega) (by omega) (by omega)] at y; rw [er _ _ (by omega) (by omega), u7 _ _ (by omega) (by omega) (by omega)]; exact (hT0.2.2.1 t x y).1
      · rw [u6 3 (by omega) (by omega) (by omega)] at y; rw [er _ _ (by omega) (by omega), u7 _ _ (by omega) (by omega) (by omega)]; exact (hT0.2.2.1 t x y).2.1
      · rw [u6 3 (by omega) (by omega) (by omega)] at y; rw [er _ _ (by omega) (by omega), u7 _ _ (by omega) (by omega) (by omega)]; exact (hT0.2.2.1 t x y).2.2
      · rw [er _ _ (by omega) (by omega), u7 _ _ (by omega) (by omega) (by omega)]; exact (hT0.2.2.2 c x y).1
      · rw [(eT 18 (by omega)).2, u7 _ _ (by omega) (by omega) (by omega)]; exact (hT0.2.2.2 c x y).2.1
      · rw [(eT 19 (by omega)).2, u7 _ _ (by omega) (by omega) (by omega)]; exact (hT0.2.2.2 c x y).2.2
      · rw [e46 6 (by omega), f6, u6 6 (by omega) (by omega) (by omega)]
      · rw [e46 7 (by omega), f7, u6 13 (by omega) (by omega) (by omega)]
      · rw [e46 8 (by omega), f8, u6 14 (by omega) (by omega) (by omega)]
      · rw [u6 13 (by omega) (by omega) (by omega)]; exact b13
      · rw [u6 14 (by omega) (by omega) (by omega)]; exact b14
      · rw [(eT 18 (by omega)).2, c7, u6 7 (by omega) (by omega) (by omega)]
      · rw [(eT 19 (by omega)).2, c8, u6 8 (by omega) (by omega) (by omega)]
      · have o1 : OutR P (T + 10 + 5 * s) (U (10 + 2 * s)) (U (11 + 2 * s)) (U 0 (11 + (s : Int))) := by
          have := (outR_of m1).fr p2 (fun k j z y => by unfold RgW at y; omega)
          rw [u4, show U (10 + 2 * s) = fun j => (R.2.2.2.getD j.toNat (0, 0)).1 from funext u1, show U (11 + 2 * s) = fun j => (R.2.2.2.getD j.toNat (0, 0)).2 from funext u2]
          exact this
        have o2 : P.1 (T + 10 + 5 * s) 4 = U 0 (9 + (s : Int)) := by
          rw [(p2 _ 4 (by unfold RgW; omega)).1, m3, u3]
        have z : s = 0 ∨ s = 1 := by omega
        rcases z with rfl | rfl
        · refine ⟨⟨o2, o1⟩, ?_, ?_⟩
          · rw [(hA (T + 15) 4 (by unfold FmW; omega)).1, u6 10 (by decide) (by decide) (by decide)]; exact hCF.2.1
          · have := hCF.2.2.fr hA (fun k j z y => by unfold FmW at y; omega)
            rw [u6 12 (by decide) (by decide) (by decide), show U 12 = V 12 from funext (fun j => u7 12 j (by decide) (by decide) (by decide)), show U 13 = V 13 from funext (fun j => u7 13 j (by decide) (by decide) (by decide))]
            exact this
        · refine ⟨⟨?_, ?_⟩, o2, o1⟩
          · rw [(hA (T + 10) 4 (by unfold FmW; omega)).1, u6 9 (by decide) (by decide) (by decide)]; exact hCF.1.1
          · have := hCF.1.2.fr hA (fun k j z y => by unfold FmW at y; omega)
            rw [u6 11 (by decide) (by decide) (by decide), show U 10 = V 10 from funext (fun j => u7 10 j (by decide) (by decide) (by decide)), show U 11 = V 11 from funext (fun j => u7 11 j (by decide) (by decide) (by decide))]
            exact this
    · rw [if_neg f0, p3.2.2.2.2.2.2]
      obtain ⟨x1, x2, x3⟩ := c_refuse (M := P) f (tP B n j)
      have hle : (leS B n V i).1 = f ∧ (leS B n V i).2.1 = tP B n j := by
        by_cases z : R.1 = 0
        · rw [if_neg (fun q => q z)] at eL
          rw [if_pos z] at n6
          have k40 : ¬ tK B n j = 40 := fun q => by rw [if_pos q] at n6; exact f0 n6
          rw [if_neg k40] at n6
          have : leS B n V i = (1, tP B n j, 0, V) := by
            unfold leS
            rw [eS, eL, if_neg (fun q => q rfl)]
            rw [← n5]
            rw [if_neg k40]
          rw [this, n6]
          exact ⟨rfl, rfl⟩
        · rw [if_pos z] at eL
          rw [if_neg z] at n6
          have : leS B n V i = (R.1, tP B n R.2.1, 0, V) := by
            rw [leC_bad (by rw [eS, eL]; exact z), eS, eL]
          rw [this, n6, n5]
          exact ⟨rfl, rfl⟩
      refine ⟨(t_Reader_refuse P f (tP B n j)).1, 0, ?_, hW.trans (x1.mono rf_rd), Or.inr ⟨rfl, by rw [hle.1]; exact f0, by rw [hle.1, hle.2]; exact x3⟩⟩
      simp only [qlet]
      rw [x2, if_pos rfl]
theorem c_rLaw (hT : T ≤ 22) (h : RD M B n i) (hk : tK B n i = 7) (hC : CP M T V) (hP : POK V) : ∃ N g, t_Reader_readLaw M T = some (N, g) ∧ Fr (RdW T) M N ∧ CL2 N T B n V i g := by
  unfold t_Reader_readLaw
  obtain ⟨N1, n1, n2, n3, n4⟩ := c_next1 h (by rw [hk]; decide)
  rw [n1, obind_some, n3.2.2.2.2.1, n3.2.2.2.2.2.2]
  have hC1 : CP N1 T V := hC.fr n2 (fun k j z y => by unfold RgW at y; omega)
  have w1 : Fr (RdW T) M N1 := n2.mono rg_rd
  unfold t_Reader_readLaw_L38
  rw [n3.2.2.2.2.1]
  by_cases k13 : tK B n (i + 1) = 13
  · rw [if_pos k13, if_pos k13]
    obtain ⟨N, g, z1, z2, z3⟩ := c_law58 (s := 0) hT n3 hC1 hP hk (by omega) (by omega)
    exact ⟨N, g, z1, w1.trans z2, z3⟩
  · rw [if_neg k13, if_neg k13]
    by_cases k14 : tK B n (i + 1) = 14
    · rw [if_pos k14]
      obtain ⟨N, g, z1, z2, z3⟩ := c_law58 (s := 1) hT n3 hC1 hP hk (by omega) (by omega)
      exact ⟨N, g, z1, w1.trans z2, z3⟩
    · rw [if_neg k14]
      obtain ⟨N, g, z1, z2, z3⟩ := c_ref0 (T := T) (B := B) (n := n) N1 (f := 1) (p := tP B n (i + 1)) (by decide) (a := 0) (U := V)
      refine ⟨N, g, z1, w1.trans z2, cl2_of ?_⟩
      unfold lnS lnLaw
      rw [if_neg (show ¬ tK B n i = 0 by omega), if_neg (show ¬ tK B n i = 1 by omega), if_neg (show ¬ tK B n i = 2 by omega), if_neg (show ¬ tK B n i = 3 by omega), if_neg (show ¬ tK B n i = 4 by omega), if_neg (show ¬ tK B n i = 5 by omega), if_neg (show ¬ tK B n i = 6 by omega), if_pos hk, if_pos (show ¬ (tK B n (i + 1) = 13 ∨ tK B n (i + 1) = 14) by omega)]
      exact z3
/-- any line -/
theorem c_aLine2 (hT : T ≤ 22) (h : RD M B n i) (hC : CP M T V) (hP : POK V) (bk : Mem → Int → Int → Option (Mem × Int)) (l v : Int) (k32 : ¬ tK B n i = 32) : ∃ N g, Fr (RdW T) M N ∧ CL2 N T B n V i g ∧
    (if M.1 46 2 = 0 then obind (t_Reader_readTown M T) fun q8 => t_Reader_read_L167 T bk q8.1 l v q8.2 else if M.1 46 2 = 1 then obind (t_Reader_readWard M T) fun q11 => t_Reader_read_L167 T bk q11.1 l v q11.2 else if M.1 46 2 = 2 then obind (t_Reader_readPart M T) fun q14 => t_Reader_read_L167 T bk q14.1 l v q14.2 else if M.1 46 2 = 3 then obind (t_Reader_readWall M T) fun q17 => t_Reader_read_L167 T bk q17.1 l v q17.2 else if M.1 46 2 = 4 then obind (t_Reader_readStair M T) fun q20 => t_Reader_read_L167 T bk q20.1 l v q20.2 else if M.1 46 2 = 5 then obind (t_Reader_readThing M T) fun q23 => t_Reader_read_L167 T bk q23.1 l v q23.2 else if M.1 46 2 = 6 then obind (t_Reader_readSeed M T) fun q26 => t_Reader_read_L167 T bk q26.1 l v q26.2 else if M.1 46 2 = 7 then obind (t_Reader_readLaw M T) fun q29 => t_Reader_read_L167 T bk q29.1 l v q29.2 else qlet (t_Reader_refuse M 1 (M.1 46 4)) fun q32 => t_Reader_read_L167 T bk q32.1 l v q32.2) = t_Reader_read_L167 T bk N l v g := by
  rw [h.2.2.2.2.1]
  by_cases k0 : tK B n i = 0
  · obtain ⟨N, g, z1, z2, z3⟩ := c_rTown hT h k0 hC hP
    exact ⟨N, g, z2, cl2_of z3, by rw [if_pos k0, z1]; rfl⟩
  rw [if_neg k0]
  by_cases k1 : tK B n i = 1
  · obtain ⟨N, g, z1, z2, z3⟩ := c_rWard hT h k1 hC hP
    exact ⟨N, g, z2, cl2_of z3, by rw [if_pos k1, z1]; rfl⟩
  rw [if_neg k1]
  by_cases k2 : tK B n i = 2
  · obtain ⟨N, g, z1, z2, z3⟩ := c_rPart hT h k2 hC hP
    exact ⟨N, g, z2, cl2_of z3, by rw [if_pos k2, z1]; rfl⟩
  rw [if_neg k2]
  by_cases k3 : tK B n i = 3
  · obtain ⟨N, g, z1, z2, z3⟩ := c_rWall hT h k3 hC hP
    exact ⟨N, g, z2, cl2_of z3, by rw [if_pos k3, z1]; rfl⟩
  rw [if_neg k3]
  by_cases k4 : tK B n i = 4
  · obtain ⟨N, g, z1, z2, z3⟩ := c_rStair hT h k4 hC hP
    exact ⟨N, g, z2, cl2_of z3, by rw [if_pos k4, z1]; rfl⟩
  rw [if_neg k4]
  by_cases k5 : tK B n i = 5
  · obtain ⟨N, g, z1, z2, z3⟩ := c_rThing hT h k5 hC hP
    exact ⟨N, g, z2, cl2_of z3, by rw [if_pos k5, z1]; rfl⟩
  rw [if_neg k5]
  by_cases k6 : tK B n i = 6
  · obtain ⟨N, g, z1, z2, z3⟩ := c_rSeed hT h k6 hC hP
    exact ⟨N, g, z2, cl2_of z3, by rw [if_pos k6, z1]; rfl⟩
  rw [if_neg k6]
  by_cases k7 : tK B n i = 7
  · obtain ⟨N, g, z1, z2, z3⟩ := c_rLaw hT h k7 hC hP
    exact ⟨N, g, z2, z3, by rw [if_pos k7, z1]; rfl⟩
  rw [if_neg k7, h.2.2.2.2.2.2]
  obtain ⟨x1, x2, x3⟩ := c_refuse (M := M) 1 (tP B n i)
  refine ⟨(t_Reader_refuse M 1 (tP B n i)).1, 0, x1.mono rf_rd, cl2_of ?_, ?_⟩
  · unfold lnS
    rw [if_neg k0, if_neg k1, if_neg k2, if_neg k3, if_neg k4, if_neg k5, if_neg k6, if_neg k7]
    exact CLn.bad x3 (by decide)
  · simp only [qlet]
    rw [x2]
/-- a line and its end -/
theorem c_lend (hT : T ≤ 22) {N : Mem} {g : Int} (h : CL2 N T B n V i g) (bk : Mem → Int → Int → Option (Mem × Int)) (l v : Int) (l0 : 0 ≤ l) (l1 : l ≤ 800) (v0 : 0 ≤ v) (v1 : v ≤ 800) : ∃ P, Fr (RdW T) N P ∧ (((leS B n V i).1 = 0 ∧ t_Reader_read_L167 T bk N l v g = bk P (l + 1) (v + 1) ∧ RD P B n (leS B n V i).2.2.1 ∧ CP P T (leS B n V i).2.2.2) ∨ ((leS B n V i).1 ≠ 0 ∧ t_Reader_read_L167 T bk N l v g = some (P, -1) ∧ FT P (leS B n V i).1 (leS B n V i).2.1)) := by
  unfold t_Reader_read_L167
  rcases h with ⟨a, b, c, d⟩ | ⟨a, b, c⟩
  · subst a
    rw [if_neg (show ¬ (1 : Int) = 0 by decide)]
    obtain ⟨P, q, p1, p2, p3⟩ := c_take c (due := 40) (by decide)
    rw [p1, obind_some]
    have hle : leS B n V i = if tK B n (lnS B n V i).2.2.1 = 40 then (0, 0, (lnS B n V i).2.2.1 + 1, (lnS B n V i).2.2.2) else (1, tP B n (lnS B n V i).2.2.1, 0, V) := by
      unfold leS
      rw [if_neg (fun z => z b)]
    rcases p3 with ⟨b1, b2, b3, b4⟩ | ⟨b1, b2, b3⟩
    · subst b2
      rw [if_pos b1] at hle
      rw [if_neg (show ¬ (1 : Int) = 0 by decide), w32_id (x := l + 1) (by unfold InR; omega), w32_id (x := v + 1) (by unfold InR; omega), hle]
      exact ⟨P, p2.mono rf_rd, Or.inl ⟨rfl, rfl, b3, d.fr p2 (fun k j z y => by unfold RfW at y; omega)⟩⟩
    · subst b2
      rw [if_neg b1] at hle
      rw [if_pos rfl, hle]
      exact ⟨P, p2.mono rf_rd, Or.inr ⟨(show (1 : Int) ≠ 0 by decide), rfl, b3⟩⟩
  · subst a
    rw [if_pos rfl]
    exact ⟨N, Fr.rf, Or.inr ⟨b, rfl, c⟩⟩
/-- what a text told leaves -/
def CTx (N : Mem) (T : Nat) (V : TV) : Prop := CT0 N T V ∧ CTs N T V ∧ CFm N T V
theorem c_read_loop (hT : T ≤ 22) : ∀ (m fu fs : Nat) (M : Mem) (V : TV) (i : Nat) (l : Int), n ≤ (i : Int) + (m : Int) → m + 1 < fu → m < fs → RD M B n i → CP M T V → POK V → 0 ≤ l → l ≤ (i : Int) →
    ∃ N r, t_Reader_read_L10 T fu M l l = some (N, r) ∧ Fr (RdW T) M N ∧ (((txS B n fs V i l).1 = 0 ∧ r = (txS B n fs V i l).2.2.1 ∧ 0 ≤ r ∧ CTx N T (txS B n fs V i l).2.2.2) ∨ ((txS B n fs V i l).1 ≠ 0 ∧ r = -1 ∧ FT N (txS B n fs V i l).1 (txS B n fs V i l).2.1)) := by
  have endd : ∀ (fu fs : Nat) (M : Mem) (V : TV) (i : Nat) (l : Int), 0 < fs → RD M B n i → CP M T V → POK V → 0 ≤ l → tK B n i = 32 →
    ∃ N r, t_Reader_read_L192 T M l = some (N, r) ∧ Fr (RdW T) M N ∧ (((txS B n fs V i l).1 = 0 ∧ r = (txS B n fs V i l).2.2.1 ∧ 0 ≤ r ∧ CTx N T (txS B n fs V i l).2.2.2) ∨ ((txS B n fs V i l).1 ≠ 0 ∧ r = -1 ∧ FT N (txS B n fs V i l).1 (txS B n fs V i l).2.1)) := by
    intro fu fs M V i l f1 h hC hP l0 k
    obtain ⟨gs, rfl⟩ : ∃ g, fs = g + 1 := ⟨fs - 1, by omega⟩
    rw [txS, if_pos k]
    unfold t_Reader_read_L192
    obtain ⟨N, n1, n2, n3, n4⟩ := c_settle hT hC.1 hP.1
    rw [n1, obind_some]
    exact ⟨N, l, rfl, n2.mono (fun k j z => by unfold RdW; omega), Or.inl ⟨rfl, rfl, l0, n3, n4, hC.2.2.2.2.fr n2 (fun k j z y => by omega)⟩⟩
  intro m
  induction m with
  | zero =>
    intro fu fs M V i l g0 g1 g2 h hC hP l0 l1
    obtain ⟨g, rfl⟩ : ∃ g, fu = g + 1 := ⟨fu - 1, by omega⟩
    have hn := h.1.1
    have k := tK_end (B := B) hn.1 hn.2 (i := i) (by omega)
    rw [t_Reader_read_L10, h.2.2.2.2.1, if_pos k]
    have := endd g fs M V i l (by omega) h hC hP l0 k
    by_cases q : 700 ≤ l
    · rw [if_pos q]; exact this
    · rw [if_neg q]; exact this
  | succ m ih =>
    intro fu fs M V i l g0 g1 g2 h hC hP l0 l1
    obtain ⟨g, rfl⟩ : ∃ g, fu = g + 1 := ⟨fu - 1, by omega⟩
    obtain ⟨gs, rfl⟩ : ∃ g, fs = g + 1 := ⟨fs - 1, by omega⟩
    have hn := h.1.1
    rw [t_Reader_read_L10]
    by_cases k : tK B n i = 32
    · have := endd g (gs + 1) M V i l (by omega) h hC hP l0 k
      by_cases q : 700 ≤ l
      · rw [if_pos q]; exact this
      · rw [if_neg q, if_pos (h.2.2.2.2.1.trans k)]; exact this
    · have hi : (i : Int) < n := by
        by_cases z : (i : Int) < n
        · exact z
        · exact absurd (tK_end (B := B) hn.1 hn.2 (by omega)) k
      rw [if_neg (show ¬ 700 ≤ l by omega), if_neg (fun z => k (h.2.2.2.2.1.symm.trans z))]
      obtain ⟨N, q, n1, n2, n3⟩ := c_aLine2 hT h hC hP (fun a0_ a1_ a2_ => t_Reader_read_L10 T g a0_ a1_ a2_) l l k
      rw [n3, txS, if_neg k]
      obtain ⟨P, p1, p2⟩ := c_lend hT n2 (fun a0_ a1_ a2_ => t_Reader_read_L10 T g a0_ a1_ a2_) l l l0 (by omega) l0 (by omega)
      rcases p2 with ⟨b1, b2, b3, b4⟩ | ⟨b1, b2, b3⟩
      · rw [b2, if_neg (fun z => z b1)]
        obtain ⟨u1, u2⟩ := pok_le hn hP b1
        obtain ⟨Q, r, v1, v2, v3⟩ := ih g gs P _ _ (l + 1) (by omega) (by omega) (by omega) b3 b4 u1 (by omega) (by omega)
        exact ⟨Q, r, v1, (n1.trans p1).trans v2, v3⟩
      · rw [b2, if_pos b1]
        exact ⟨P, -1, rfl, n1.trans p1, Or.inr ⟨b1, rfl, b3⟩⟩
end RW
/-- a whole text read by the class into a cleared town -/
theorem c_read {B : Int → Int} {n : Int} {M : Mem} {T : Nat} (hT : T ≤ 22) (hB : TBl M B n) (hC : CT0 M T TV0 ∧ (cntT (M.2 T 18) 64 = 0 ∧ cntT (M.2 T 19) 64 = 0) ∧ CFm M T TV0) : ∃ N r, t_Reader_read M T = some (N, r) ∧ Fr (fun k j => (k = 46 ∧ 0 ≤ j ∧ j ≤ 10) ∨ (T ≤ k ∧ k ≤ T + 19)) M N ∧ (((txA B n).1 = 0 ∧ r = (txA B n).2.2.1 ∧ 0 ≤ r ∧ CTx N T (txA B n).2.2.2) ∨ ((txA B n).1 ≠ 0 ∧ r = -1 ∧ FT N (txA B n).1 (txA B n).2.1)) := by
  unfold t_Reader_read t_Reader_begin
  simp (config := { proj := false }) only [qlet]
  have f1 : Fr (fun k j => k = 46 ∧ 0 ≤ j ∧ j ≤ 10) M (setI (setI (setI (setI (setI (setI (setI M 46 0 (42 : Nat)) 46 6 0) 46 7 0) 46 8 0) 46 9 0) 46 10 (-1)) 46 4 (-1)) := ((((((Fr.rf.setI (by omega)).setI (by omega)).setI (by omega)).setI (by omega)).setI (by omega)).setI (by omega)).setI (by omega)
  have e0 : (setI (setI (setI (setI (setI (setI (setI M 46 0 (42 : Nat)) 46 6 0) 46 7 0) 46 8 0) 46 9 0) 46 10 (-1)) 46 4 (-1)).1 46 0 = 42 := by rw [sI_ne (by omega), sI_ne (by omega), sI_ne (by omega), sI_ne (by omega), sI_ne (by omega), sI_ne (by omega), sI_self]; rfl
  have e6 : (setI (setI (setI (setI (setI (setI (setI M 46 0 (42 : Nat)) 46 6 0) 46 7 0) 46 8 0) 46 9 0) 46 10 (-1)) 46 4 (-1)).1 46 6 = 0 := by rw [sI_ne (by omega), sI_ne (by omega), sI_ne (by omega), sI_ne (by omega), sI_ne (by omega), sI_self]
  have e7 : (setI (setI (setI (setI (setI (setI (setI M 46 0 (42 : Nat)) 46 6 0) 46 7 0) 46 8 0) 46 9 0) 46 10 (-1)) 46 4 (-1)).1 46 7 = 0 := by rw [sI_ne (by omega), sI_ne (by omega), sI_ne (by omega), sI_ne (by omega), sI_self]
  have e8 : (setI (setI (setI (setI (setI (setI (setI M 46 0 (42 : Nat)) 46 6 0) 46 7 0) 46 8 0) 46 9 0) 46 10 (-1)) 46 4 (-1)).1 46 8 = 0 := by rw [sI_ne (by omega), sI_ne (by omega), sI_ne (by omega), sI_self]
  generalize setI (setI (setI (setI (setI (setI (setI M 46 0 (42 : Nat)) 46 6 0) 46 7 0) 46 8 0) 46 9 0) 46 10 (-1)) 46 4 (-1) = M1 at *
  obtain ⟨N0, n1, n2, n3, n4⟩ := c_goTo (i := 0) (hB.fr f1 (fun k j x y z => by omega)) Lv.zero e0
  have hz : ((0 : Nat) : Int) = 0 := rfl
  rw [hz] at n1
  rw [n1, obind_some, obind_some]
  have hn := hB.1
  have fA : Fr (fun k j => k = 46 ∧ 0 ≤ j ∧ j ≤ 10) M N0 := f1.trans (n2.mono (fun k j z => by unfold RgW at z; omega))
  have z : ∀ j, ¬ (j = 0 ∨ j = 1) → TV0 0 j = 0 := fun j h => by
    unfold TV0
    rw [if_neg (fun q => h q.2), if_neg (by decide)]
  have hCP : CP N0 T TV0 := by
    refine ⟨hC.1.fr2 fA (fun k j x y => by omega), ⟨?_, ?_, ?_⟩, ⟨Or.inl (z 13 (by omega)), Or.inl (z 14 (by omega))⟩, ⟨?_, ?_⟩, hC.2.2.fr fA (fun k j x y => by omega)⟩
    · rw [(n2 46 6 (by unfold RgW; omega)).1, e6, z 6 (by omega)]
    · rw [(n2 46 7 (by unfold RgW; omega)).1, e7, z 13 (by omega)]
    · rw [(n2 46 8 (by unfold RgW; omega)).1, e8, z 14 (by omega)]
    · rw [(fA T 18 (by omega)).2, hC.2.1.1, z 7 (by omega)]
    · rw [(fA T 19 (by omega)).2, hC.2.1.2, z 8 (by omega)]
  obtain ⟨P, r, p1, p2, p3⟩ := c_read_loop hT n.toNat FU 1000 N0 TV0 0 0 (by omega) (fu_big (by omega)) (by omega) n3 hCP pok0 (by omega) (by omega)
  exact ⟨P, r, p1, (fA.mono (fun k j z => Or.inl z)).trans (p2.mono (fun k j z => by unfold RdW at z; omega)), p3⟩
end
section
theorem post_letX {α β : Type} {P : β → Prop} {x : α} {f : α → Option β} (h : ∀ v, v = x → Post P (f v)) : Post P (qlet x f) := h x rfl
/-! ===== the class's reader: no fault is told where a line goes well ===== -/
def KpW : Nat → Int → Prop := fun k j => ¬ (k = 46 ∧ (j = 9 ∨ j = 10))
section KP
variable {M0 M : Mem} {T : Nat}
theorem kp_goTo (h : Fr KpW M0 M) (x : Int) : Post (fun r => Fr KpW M0 r) (t_Reader_goTo M x) := fr_Reader_goTo (fun k j z => by unfold W_Reader_goTo at z; unfold KpW; omega) h
theorem kp_put (h : Fr KpW M0 M) {r : Nat} (hr : r < 46) (N : Nat) (i x : Int) : Fr KpW M0 (t_WF_put M r N i x) := fr_WF_put (fun k j z => by unfold W_WF_put at z; unfold KpW; omega) h
theorem kp_bad {P : Prop} : (0 : Int) ≤ -1 → P := fun z => absurd z (by decide)
theorem kp_bad0 {P : Prop} : (0 : Int) ≠ 0 → P := fun z => absurd rfl z
theorem kp_take (h : Fr KpW M0 M) (due : Int) : Post (fun r => r.2 ≠ 0 → Fr KpW M0 r.1) (t_Reader_take M due) := by
  unfold t_Reader_take
  exact post_ite (fun _ => post_bind (kp_goTo h _) (fun q hq => post_some (fun _ => hq))) (fun _ => post_letX (fun v e => post_some (by rw [e]; exact kp_bad0)))
theorem kp_num (h : Fr KpW M0 M) (lo hi : Int) : Post (fun r => 0 ≤ r.2 → Fr KpW M0 r.1) (t_Reader_takeNumber M lo hi) := by
  have a : Post (fun r => 0 ≤ r.2 → Fr KpW M0 r.1) (t_Reader_takeNumber_L24 lo hi M) := by
    unfold t_Reader_takeNumber_L24
    exact post_letX (fun v e => post_some kp_bad)
  have b : ∀ v, Post (fun r => 0 ≤ r.2 → Fr KpW M0 r.1) (t_Reader_takeNumber_L36 lo hi M v) := fun v => by
    unfold t_Reader_takeNumber_L36
    exact post_bind (kp_take h _) (fun q hq => post_ite (fun _ => post_some kp_bad) (fun c => post_some (fun _ => hq c)))
  unfold t_Reader_takeNumber
  exact post_ite (fun _ => post_ite (fun _ => a) (fun _ => post_ite (fun _ => b _) (fun _ => a))) (fun _ => b _)
theorem kp_name (h : Fr KpW M0 M) (r N : Nat) (len : Int) : Post (fun r => 0 ≤ r.2 → Fr KpW M0 r.1) (t_Reader_takeNewName M r N len) := by
  unfold t_Reader_takeNewName
  exact post_bind (kp_take h _) (fun q hq => post_ite (fun _ => post_some kp_bad) (fun c => post_bindv (fun v => post_ite (fun _ => post_some (fun _ => hq c)) (fun _ => post_letX (fun v e => post_some kp_bad)))))
theorem kp_cell (h : Fr KpW M0 M) (T : Nat) : Post (fun r => 0 ≤ r.2 → Fr KpW M0 r.1) (t_Reader_takeCell M T) := by
  unfold t_Reader_takeCell t_Reader_takeCell_L31
  refine post_bind (kp_num h _ _) (fun q hq => post_ite (fun c => post_bind (kp_num (hq c) _ _) (fun p hp => post_ite (fun d => post_some (fun _ => hp d)) (fun _ => post_some kp_bad))) (fun _ => ?_))
  rw [if_neg (by decide)]
  exact post_some kp_bad
theorem kp_town (hT : T ≤ 22) (h : Fr KpW M0 M) : Post (fun r => r.2 ≠ 0 → Fr KpW M0 r.1) (t_Reader_readTown M T) := by
  have a : Post (fun r => r.2 ≠ 0 → Fr KpW M0 r.1) (t_Reader_readTown_L49 T M) := by
    unfold t_Reader_readTown_L49
    exact post_letX (fun v e => post_some (by rw [e]; exact kp_bad0))
  unfold t_Reader_readTown t_Reader_readTown_L97
  refine post_ite (fun _ => post_ite (fun _ => a) (fun _ => post_ite (fun _ => post_ite (fun _ => post_ite (fun _ => ?_) (fun _ => a)) (fun _ => a)) (fun _ => a))) (fun _ => post_letX (fun v e => post_some (by rw [e]; exact kp_bad0)))
  refine post_letX (fun v e => post_bind (kp_goTo (M0 := M0) (M := v) (by rw [e]; exact h.setI (by unfold KpW; omega)) _) (fun q hq => post_bind (kp_num hq _ _) (fun p hp => post_ite (fun c => post_bind (kp_num (hp c) _ _) (fun s hs => post_ite (fun d => ?_) (fun _ => post_some kp_bad0))) (fun _ => ?_))))
  · exact post_letX (fun v e => post_letX (fun w e2 => post_some (fun _ => by rw [e2, e]; exact ((hs d).setI (by unfold KpW; omega)).setI (by unfold KpW; omega))))
  · rw [if_neg (by decide)]
    exact post_some kp_bad0
theorem kp_ward (hT : T ≤ 22) (h : Fr KpW M0 M) : Post (fun r => r.2 ≠ 0 → Fr KpW M0 r.1) (t_Reader_readWard M T) := by
  unfold t_Reader_readWard
  refine post_ite (fun _ => post_bind (kp_goTo h _) (fun q hq => post_bind (kp_name hq _ _ _) (fun p hp => post_ite (fun c => post_letX (fun v e => post_ite (fun _ => post_letX (fun v e => post_some (by rw [e]; exact kp_bad0))) (fun _ => post_bind (kp_goTo (hp c) _) (fun s hs => post_bind (kp_num hs _ _) (fun t ht => post_ite (fun d => ?_) (fun _ => post_some kp_bad0)))))) (fun _ => post_some kp_bad0)))) (fun _ => post_letX (fun v e => post_some (by rw [e]; exact kp_bad0)))
  refine post_letX (fun a ea => post_letX (fun b eb => post_letX (fun c' ec => post_letX (fun d' ed => post_some (fun _ => ?_)))))
  rw [ed, ec, eb, ea]
  exact (kp_put (kp_put (kp_put (ht d) (by omega) _ _ _) (by omega) _ _ _) (by omega) _ _ _).setI (by unfold KpW; omega)
theorem kp_part175 (hT : T ≤ 22) {bk : Mem → Int → Int → Int → Int → Int → Option (Mem × Int)} (hbk : ∀ N a b c d e, Fr KpW M0 N → Post (fun r => r.2 ≠ 0 → Fr KpW M0 r.1) (bk N a b c d e)) : ∀ (fu : Nat) (M : Mem) (a b c d e f : Int), Fr KpW M0 M → Post (fun r => r.2 ≠ 0 → Fr KpW M0 r.1) (t_Reader_readPart_L175 T bk fu M a b c d e f) := by
  intro fu
  induction fu with
  | zero => intro M a b c d e f h; rw [t_Reader_readPart_L175]; exact post_none
  | succ fu ih =>
    intro M a b c d e f h
    rw [t_Reader_readPart_L175]
    exact post_ite (fun _ => hbk _ _ _ _ _ _ h) (fun _ => post_letX (fun v ev => ih _ _ _ _ _ _ _ (by rw [ev]; exact kp_put h (by omega) _ _ _)))
theorem kp_part164 (hT : T ≤ 22) : ∀ (fu : Nat) (M : Mem) (a b c d e : Int), Fr KpW M0 M → Post (fun r => r.2 ≠ 0 → Fr KpW M0 r.1) (t_Reader_readPart_L164 T fu M a b c d e) := by
  intro fu
  induction fu with
  | zero => intro M a b c d e h; rw [t_Reader_readPart_L164]; exact post_none
  | succ fu ih =>
    intro M a b c d e h
    rw [t_Reader_readPart_L164]
    exact post_ite (fun _ => post_letX (fun v ev => post_some (fun _ => by rw [ev]; exact h.setI (by unfold KpW; omega)))) (fun _ => kp_part175 hT (fun N a b c d e hN => ih N a b c d e hN) _ _ _ _ _ _ _ _ h)
theorem kp_part (hT : T ≤ 22) (h : Fr KpW M0 M) : Post (fun r => r.2 ≠ 0 → Fr KpW M0 r.1) (t_Reader_readPart M T) := by
  have a1 : ∀ (N : Mem) (a b c d e : Int), (0 ≤ e → Fr KpW M0 N) → Post (fun r => r.2 ≠ 0 → Fr KpW M0 r.1) (t_Reader_readPart_L151 T N a b c d e) := fun N a b c d e hN => by
    unfold t_Reader_readPart_L151
    exact post_ite (fun q => kp_part164 hT _ _ _ _ _ _ _ (hN q)) (fun _ => post_some kp_bad0)
  have a2 : ∀ (N : Mem) (a b c d : Int), (0 ≤ d → Fr KpW M0 N) → Post (fun r => r.2 ≠ 0 → Fr KpW M0 r.1) (t_Reader_readPart_L128 T N a b c d) := fun N a b c d hN => by
    unfold t_Reader_readPart_L128
    exact post_ite (fun q => post_bind (kp_num (hN q) _ _) (fun p hp => a1 _ _ _ _ _ _ hp)) (fun _ => a1 _ _ _ _ _ _ kp_bad)
  have a3 : ∀ (N : Mem) (a b c : Int), (0 ≤ c → Fr KpW M0 N) → Post (fun r => r.2 ≠ 0 → Fr KpW M0 r.1) (t_Reader_readPart_L105 T N a b c) := fun N a b c hN => by
    unfold t_Reader_readPart_L105
    exact post_ite (fun q => post_bind (kp_num (hN q) _ _) (fun p hp => a2 _ _ _ _ _ hp)) (fun _ => a2 _ _ _ _ _ kp_bad)
  unfold t_Reader_readPart
  exact post_ite (fun _ => post_bind (kp_goTo h _) (fun q hq => post_bind (kp_take hq _) (fun p hp => post_ite (fun _ => post_some kp_bad0) (fun c => post_bindv (fun v => post_ite (fun _ => post_bind (kp_num (hp c) _ _) (fun s hs => post_ite (fun d => post_bind (kp_num (hs d) _ _) (fun t ht => a3 _ _ _ _ ht)) (fun _ => a3 _ _ _ _ kp_bad))) (fun _ => post_letX (fun v e => post_some (by rw [e]; exact kp_bad0)))))))) (fun _ => post_letX (fun v e => post_some (by rw [e]; exact kp_bad0)))
theorem kp_wall (hT : T ≤ 22) (h : Fr KpW M0 M) : Post (fun r => r.2 ≠ 0 → Fr KpW M0 r.1) (t_Reader_readWall M T) := by
  have a : ∀ N : Mem, Post (fun r => r.2 ≠ 0 → Fr KpW M0 r.1) (t_Reader_readWall_L93 T N) := fun N => by
    unfold t_Reader_readWall_L93
    exact post_letX (fun v e => post_some (by rw [e]; exact kp_bad0))
  unfold t_Reader_readWall
  exact post_letX (fun _ _ => post_ite (fun _ => post_bind (kp_goTo h _) (fun q hq => post_bind (kp_cell hq _) (fun p hp => post_ite (fun c => post_letX (fun _ _ => post_ite (fun _ => post_letX (fun v e => post_some (by rw [e]; exact kp_bad0))) (fun _ => post_letX (fun _ _ => post_ite (fun _ => a _) (fun _ => post_bindv (fun v => post_ite (fun _ => post_letX (fun w e => post_some (fun _ => by rw [e]; exact (hp c).setL (by unfold KpW; omega)))) (fun _ => a _))))))) (fun _ => post_some kp_bad0)))) (fun _ => post_letX (fun v e => post_some (by rw [e]; exact kp_bad0))))
theorem kp_stair (hT : T ≤ 22) (h : Fr KpW M0 M) : Post (fun r => r.2 ≠ 0 → Fr KpW M0 r.1) (t_Reader_readStair M T) := by
  unfold t_Reader_readStair
  exact post_letX (fun _ _ => post_ite (fun _ => post_bind (kp_goTo h _) (fun q hq => post_bind (kp_cell hq _) (fun p hp => post_ite (fun c => post_letX (fun _ _ => post_ite (fun _ => post_letX (fun v e => post_some (by rw [e]; exact kp_bad0))) (fun _ => post_letX (fun _ _ => post_ite (fun _ => post_letX (fun v e => post_some (by rw [e]; exact kp_bad0))) (fun _ => post_letX (fun w e => post_some (fun _ => by rw [e]; exact (hp c).setL (by unfold KpW; omega)))))))) (fun _ => post_some kp_bad0)))) (fun _ => post_letX (fun v e => post_some (by rw [e]; exact kp_bad0))))
theorem kp_thing (hT : T ≤ 22) (h : Fr KpW M0 M) : Post (fun r => r.2 ≠ 0 → Fr KpW M0 r.1) (t_Reader_readThing M T) := by
  have a0 : ∀ N : Mem, Post (fun r => r.2 ≠ 0 → Fr KpW M0 r.1) (t_Reader_readThing_L109 T N) := fun N => by
    unfold t_Reader_readThing_L109
    exact post_letX (fun v e => post_some (by rw [e]; exact kp_bad0))
  have a1 : ∀ (N : Mem) (a b c : Int), (0 ≤ c → Fr KpW M0 N) → Post (fun r => r.2 ≠ 0 → Fr KpW M0 r.1) (t_Reader_readThing_L71 T N a b c) := fun N a b c hN => by
    unfold t_Reader_readThing_L71
    refine post_ite (fun q => post_letX (fun _ _ => post_ite (fun _ => a0 _) (fun _ => post_bindv (fun v => post_ite (fun _ => ?_) (fun _ => a0 _))))) (fun _ => post_some kp_bad0)
    refine post_letX (fun a ea => post_letX (fun b eb => post_letX (fun c' ec => post_letX (fun d' ed => post_some (fun _ => ?_)))))
    rw [ed, ec, eb, ea]
    exact (kp_put (kp_put (kp_put (hN q) (by omega) _ _ _) (by omega) _ _ _) (by omega) _ _ _).setI (by unfold KpW; omega)
  have a2 : ∀ (N : Mem) (a b : Int), (0 ≤ b → Fr KpW M0 N) → Post (fun r => r.2 ≠ 0 → Fr KpW M0 r.1) (t_Reader_readThing_L57 T N a b) := fun N a b hN => by
    unfold t_Reader_readThing_L57
    exact post_ite (fun q => post_bind (kp_cell (hN q) _) (fun p hp => a1 _ _ _ _ hp)) (fun _ => a1 _ _ _ _ kp_bad)
  unfold t_Reader_readThing
  exact post_ite (fun _ => post_bind (kp_goTo h _) (fun q hq => post_bind (kp_name hq _ _ _) (fun p hp => post_ite (fun c => post_bind (kp_num (hp c) _ _) (fun s hs => a2 _ _ _ hs)) (fun _ => a2 _ _ _ kp_bad)))) (fun _ => post_letX (fun v e => post_some (by rw [e]; exact kp_bad0)))
theorem kp_seed (hT : T ≤ 22) (h : Fr KpW M0 M) : Post (fun r => r.2 ≠ 0 → Fr KpW M0 r.1) (t_Reader_readSeed M T) := by
  unfold t_Reader_readSeed
  exact post_ite (fun _ => post_letX (fun v e => post_bind (kp_goTo (M0 := M0) (M := v) (by rw [e]; exact h.setI (by unfold KpW; omega)) _) (fun q hq => post_bind (kp_num hq _ _) (fun p hp => post_letX (fun w e2 => post_ite (fun _ => post_some kp_bad0) (fun c => post_some (fun _ => by rw [e2]; exact (hp (by omega)).setI (by unfold KpW; omega)))))))) (fun _ => post_letX (fun v e => post_some (by rw [e]; exact kp_bad0)))
theorem kp_law (hT : T ≤ 22) (h : Fr KpW M0 M) : Post (fun r => r.2 ≠ 0 → Fr KpW M0 r.1) (t_Reader_readLaw M T) := by
  have a1 : ∀ (N : Mem) (u : Nat) (v : Int), Fr KpW M0 N → Post (fun r => r.2 ≠ 0 → Fr KpW M0 r.1) (t_Reader_readLaw_L102 T N u v) := fun N u v hN => by
    unfold t_Reader_readLaw_L102
    exact post_bind (kp_goTo hN _) (fun q hq => post_ite (fun _ => post_some (fun _ => hq)) (fun _ => post_letX (fun w e => post_ite (fun _ => post_some kp_bad0) (fun c => absurd (show w.2 = 0 by rw [e]; rfl) c))))
  have a2 : ∀ (N : Mem) (u : Nat), u ≤ 37 → Fr KpW M0 N → Post (fun r => r.2 ≠ 0 → Fr KpW M0 r.1) (t_Reader_readLaw_L58 T N u) := fun N u hu hN => by
    unfold t_Reader_readLaw_L58
    exact post_ite (fun _ => post_ite (fun _ => a1 _ _ _ hN) (fun _ => post_ite (fun _ => post_none) (fun _ => post_bind (fr_Formula_read (W := KpW) (M0 := M0) (fun k j z => by unfold W_Formula_read at z; unfold KpW; omega) hN) (fun q hq => a1 _ _ _ hq)))) (fun _ => post_letX (fun v e => post_some (by rw [e]; exact kp_bad0)))
  unfold t_Reader_readLaw t_Reader_readLaw_L38
  exact post_bind (kp_goTo h _) (fun q hq => post_ite (fun _ => post_ite (fun _ => a2 _ _ (by omega) hq) (fun _ => a2 _ _ (by omega) hq)) (fun _ => post_ite (fun _ => post_ite (fun _ => a2 _ _ (by omega) hq) (fun _ => a2 _ _ (by omega) hq)) (fun _ => post_letX (fun v e => post_some (by rw [e]; exact kp_bad0)))))
theorem kp_loop (hT : T ≤ 22) : ∀ (fu : Nat) (M : Mem) (a b : Int), Fr KpW M0 M → Post (fun r => 0 ≤ r.2 → Fr KpW M0 r.1) (t_Reader_read_L10 T fu M a b) := by
  intro fu
  induction fu with
  | zero => intro M a b h; rw [t_Reader_read_L10]; exact post_none
  | succ fu ih =>
    intro M a b h
    have a1 : ∀ N c, Fr KpW M0 N → Post (fun r => 0 ≤ r.2 → Fr KpW M0 r.1) (t_Reader_read_L192 T N c) := fun N c hN => by
      unfold t_Reader_read_L192
      exact post_bind (fr_Town_settle (W := KpW) (M0 := M0) (fun k j z => by unfold W_Town_settle at z; unfold KpW; omega) hN) (fun q hq => post_some (fun _ => hq))
    have a2 : ∀ (N : Mem) (g : Int), (g ≠ 0 → Fr KpW M0 N) → Post (fun r => 0 ≤ r.2 → Fr KpW M0 r.1) (t_Reader_read_L167 T (fun a0_ a1_ a2_ => t_Reader_read_L10 T fu a0_ a1_ a2_) N a b g) := fun N g hN => by
      unfold t_Reader_read_L167
      exact post_ite (fun _ => post_some kp_bad) (fun c => post_bind (kp_take (hN c) _) (fun q hq => post_ite (fun _ => post_some kp_bad) (fun d => ih _ _ _ (hq d))))
    rw [t_Reader_read_L10]
    exact post_ite (fun _ => a1 _ _ h) (fun _ => post_ite (fun _ => a1 _ _ h) (fun _ => post_ite (fun _ => post_bind (kp_town hT h) (fun q hq => a2 _ _ hq)) (fun _ => post_ite (fun _ => post_bind (kp_ward hT h) (fun q hq => a2 _ _ hq)) (fun _ => post_ite (fun _ => post_bind (kp_part hT h) (fun q hq => a2 _ _ hq)) (fun _ => post_ite (fun _ => post_bind (kp_wall hT h) (fun q hq => a2 _ _ hq)) (fun _ => post_ite (fun _ => post_bind (kp_stair hT h) (fun q hq => a2 _ _ hq)) (fun _ => post_ite (fun _ => post_bind (kp_thing hT h) (fun q hq => a2 _ _ hq)) (fun _ => post_ite (fun _ => post_bind (kp_seed hT h) (fun q hq => a2 _ _ hq)) (fun _ => post_ite (fun _ => post_bind (kp_law hT h) (fun q hq => a2 _ _ hq)) (fun _ => post_letX (fun v e => a2 _ _ (by rw [e]; exact kp_bad0))))))))))))
theorem kp_read (hT : T ≤ 22) : Post (fun r => 0 ≤ r.2 → FT r.1 0 (-1)) (t_Reader_read M T) := by
  unfold t_Reader_read t_Reader_begin
  refine post_bind (Q := fun r => FT r 0 (-1)) ?_ (fun q hq => ?_)
  · refine post_letX (fun a1 e1 => post_letX (fun a2 e2 => post_letX (fun a3 e3 => post_letX (fun a4 e4 => post_letX (fun a5 e5 => post_letX (fun a6 e6 => post_letX (fun a7 e7 => ?_)))))))
    refine post_bind (kp_goTo (M0 := a7) Fr.rf _) (fun q hq => post_some ⟨?_, ?_⟩)
    · rw [(hq 46 9 (by unfold KpW; omega)).1, e7, sI_ne (by omega), e6, sI_ne (by omega), e5, sI_self]
    · rw [(hq 46 10 (by unfold KpW; omega)).1, e7, sI_ne (by omega), e6, sI_self]
  · intro r e h0
    have := kp_loop (M0 := q) hT FU q 0 0 Fr.rf r e h0
    exact ⟨((this 46 9 (by unfold KpW; omega)).1).trans hq.1, ((this 46 10 (by unfold KpW; omega)).1).trans hq.2⟩
end KP
end
section
/-! ===== feeding: the bytes, both sides ===== -/
theorem sh_am32u : ∀ k : Nat, k < 32 → (((Int32.ofInt (k : Int)).toUInt32 &&& Int32.toUInt32 31).toBitVec % 32).toNat = k := by decide +kernel
theorem ushr_bv {x i : Int} (h0 : 0 ≤ i) (h1 : i < 32) : (Int32.ofInt (q_ushr x i)).toBitVec = (Int32.ofInt x).toBitVec >>> i.toNat := by
  have a := sh_am32u i.toNat (by omega)
  rw [Int.toNat_of_nonneg h0] at a
  unfold q_ushr
  rw [q_of_toInt]
  show ((Int32.ofInt x).toUInt32 >>> ((Int32.ofInt i).toUInt32 &&& Int32.toUInt32 31)).toBitVec = _
  rw [UInt32.toBitVec_shiftRight]
  show (Int32.ofInt x).toBitVec >>> (((Int32.ofInt i).toUInt32 &&& Int32.toUInt32 31).toBitVec % 32).toNat = _
  rw [a]
def byF (x s : Int) : Int := q_and (q_ushr x s) 255
theorem by_eq (x : Int) {s : Int} (h0 : 0 ≤ s) (h1 : s ≤ 24) : q_and (q_shr x s) 255 = byF x s := by
  have e : ∀ y : Int, q_and y 255 = ((Int32.ofInt y).toBitVec &&& 255#32).toInt := fun y => by
    unfold q_and
    rw [← Int32.toInt_toBitVec, Int32.toBitVec_and]
    rfl
  unfold byF
  rw [e, e, shr_bv h0 (by omega), ushr_bv h0 (by omega)]
  congr 1
  apply BitVec.eq_of_getLsbD_eq
  intro i hi
  rw [BitVec.getLsbD_and, BitVec.getLsbD_and, BitVec.getLsbD_sshiftRight, BitVec.getLsbD_ushiftRight]
  have m : (255#32).getLsbD i = decide (i < 8) := by
    have : ∀ j : Nat, j < 32 → (255#32).getLsbD j = decide (j < 8) := by decide +kernel
    exact this i hi
  rw [m]
  by_cases c : i < 8
  · have h2 : s.toNat + i < 32 := by omega
    have h3 : ¬ 32 ≤ i := by omega
    simp [h2, h3]
  · simp [c]
def fdX (x1 x2 x3 x4 x5 j : Int) : Int := if j < 4 then x1 else if j < 8 then x2 else if j < 12 then x3 else if j < 16 then x4 else x5
def fdB (x1 x2 x3 x4 x5 j : Int) : Int := byF (fdX x1 x2 x3 x4 x5 j) (24 - 8 * (j % 4))
section FD
variable {x1 x2 x3 x4 x5 : Int}
theorem m_fd_loop {M0 : Mem} {l : Int} (l0 : 0 ≤ l) (l1 : l ≤ 680) : ∀ (fu : Nat) (M : Mem) (v : Int), 0 ≤ v → v ≤ 20 → M.1 191 2 = l → (∀ j, 0 ≤ j → j < v → M.1 192 (l + j) = fdB x1 x2 x3 x4 x5 j) → (∀ j, j < l → M.1 192 j = M0.1 192 j) → Post (fun r => (∀ j, 0 ≤ j → j < 20 → r.1.1 192 (l + j) = fdB x1 x2 x3 x4 x5 j) ∧ (∀ j, j < l → r.1.1 192 j = M0.1 192 j)) (t_MO_feed_L20 x1 x2 x3 x4 x5 fu M v) := by
  intro fu
  induction fu with
  | zero => intro M v a b c d e; rw [t_MO_feed_L20]; exact post_none
  | succ g ih =>
    intro M v g0 g1 h2 hb ho
    rw [t_MO_feed_L20]
    have step : ∀ x, x = fdX x1 x2 x3 x4 x5 v → v < 20 → Post (fun r => (∀ j, 0 ≤ j → j < 20 → r.1.1 192 (l + j) = fdB x1 x2 x3 x4 x5 j) ∧ (∀ j, j < l → r.1.1 192 j = M0.1 192 j)) (t_MO_feed_L73 x1 x2 x3 x4 x5 (fun a0_ a1_ => t_MO_feed_L20 x1 x2 x3 x4 x5 g a0_ a1_) M v x) := by
      intro x hx hv
      unfold t_MO_feed_L73
      rw [h2, w32_id (x := l + v) (by unfold InR; omega), w32_id (x := v + 1) (by unfold InR; omega), q_rem_nn (by unfold InR; omega) (by unfold InR; omega) g0 (by omega), w32_id (x := 8 * (v % 4)) (by unfold InR; omega), w32_id (x := 24 - 8 * (v % 4)) (by unfold InR; omega), by_eq _ (by omega) (by omega)]
      refine post_guard (fun _ => post_letX (fun N eN => ih N (v + 1) (by omega) (by omega) ?_ (fun j a b => ?_) (fun j a => ?_)))
      · rw [eN, sI_ne (by omega)]; exact h2
      · rw [eN]
        by_cases q : j = v
        · rw [q, sI_self, hx]; rfl
        · rw [sI_ne (by omega)]; exact hb j a (by omega)
      · rw [eN, sI_ne (by omega)]; exact ho j a
    refine post_ite (fun a => ?_) (fun c20 => post_ite (fun _ => post_ite (fun _ => post_ite (fun _ => post_ite (fun _ => step _ ?_ (by omega)) (fun _ => step _ ?_ (by omega))) (fun _ => step _ ?_ (by omega))) (fun _ => step _ ?_ (by omega))) (fun _ => step _ ?_ (by omega)))
    · refine post_letX (fun N eN => post_some ⟨fun j p q => ?_, fun j p => ?_⟩)
      · show N.1 192 (l + j) = _
        rw [eN, sI_ne (by omega)]; exact hb j p (by omega)
      · show N.1 192 j = _
        rw [eN, sI_ne (by omega)]; exact ho j p
    · unfold fdX; rw [if_neg (by omega), if_neg (by omega), if_neg (by omega), if_neg (by omega)]
    · unfold fdX; rw [if_neg (by omega), if_neg (by omega), if_neg (by omega), if_pos (by omega)]
    · unfold fdX; rw [if_neg (by omega), if_neg (by omega), if_pos (by omega)]
    · unfold fdX; rw [if_neg (by omega), if_pos (by omega)]
    · unfold fdX; rw [if_pos (by omega)]
theorem m_fd {M : Mem} (l0 : 0 ≤ M.1 191 2) (l1 : M.1 191 2 ≤ 680) : Post (fun r => (∀ j, 0 ≤ j → j < 20 → r.1.1 192 (M.1 191 2 + j) = fdB x1 x2 x3 x4 x5 j) ∧ (∀ j, j < M.1 191 2 → r.1.1 192 j = M.1 192 j)) (t_MO_feed M x1 x2 x3 x4 x5) := by
  unfold t_MO_feed
  refine post_letX (fun N eN => ?_)
  have h2 : N.1 191 2 = M.1 191 2 := by rw [eN, sI_ne (by omega)]
  rw [if_pos (by omega)]
  exact m_fd_loop l0 l1 FU N 0 (by omega) (by omega) h2 (fun j a b => by omega) (fun j a => by rw [eN, sI_ne (by omega)])
theorem m_fd_no {M : Mem} (l1 : ¬ M.1 191 2 ≤ 680) : Post (fun r => ∀ j, r.1.1 192 j = M.1 192 j) (t_MO_feed M x1 x2 x3 x4 x5) := by
  unfold t_MO_feed
  refine post_letX (fun N eN => ?_)
  have h2 : N.1 191 2 = M.1 191 2 := by rw [eN, sI_ne (by omega)]
  rw [if_neg (by omega)]
  exact post_some (fun j => by show N.1 192 j = _; rw [eN, sI_ne (by omega)])
/-- the class: four bytes -/
theorem c_fd4 {x l : Int} {M0 : Mem} (l0 : 0 ≤ l) (l1 : l ≤ 696) : ∀ (fu : Nat) (M : Mem) (k : Int), 0 ≤ k → k ≤ 4 → M.1 0 1 = l + k → (∀ j, 0 ≤ j → j < k → M.1 1 (l + j) = byF x (24 - 8 * j)) → (∀ j, j < l → M.1 1 j = M0.1 1 j) → Post (fun r => r.1 0 1 = l + 4 ∧ (∀ j, 0 ≤ j → j < 4 → r.1 1 (l + j) = byF x (24 - 8 * j)) ∧ (∀ j, j < l → r.1 1 j = M0.1 1 j)) (t_WF_feedFour_L3 x fu M (24 - 8 * k)) := by
  intro fu
  induction fu with
  | zero => intro M k a b c d e; rw [t_WF_feedFour_L3]; exact post_none
  | succ g ih =>
    intro M k g0 g1 h2 hb ho
    rw [t_WF_feedFour_L3]
    refine post_ite (fun a => post_some ⟨by rw [h2]; omega, fun j p q => hb j p (by omega), ho⟩) (fun c => ?_)
    rw [h2, put_in (by omega) (by omega), w32_id (x := 24 - 8 * k + -8) (by unfold InR; omega)]
    refine post_letX (fun N eN => ?_)
    have n1 : N.1 0 1 = l + k := by rw [eN, sI_ne (by omega)]; exact h2
    rw [n1, w32_id (x := l + k + 1) (by unfold InR; omega), show 24 - 8 * k + -8 = 24 - 8 * (k + 1) by omega]
    refine post_letX (fun P eP => ih P (k + 1) (by omega) (by omega) (by rw [eP, sI_self]; omega) (fun j p q => ?_) (fun j p => ?_))
    · rw [eP, sI_ne (by omega), eN]
      by_cases z : j = k
      · rw [z, sI_self]; rfl
      · rw [sI_ne (by omega)]; exact hb j p (by omega)
    · rw [eP, sI_ne (by omega), eN, sI_ne (by omega)]; exact ho j p
theorem c_fd1 {x : Int} {M : Mem} (l0 : 0 ≤ M.1 0 1) (l1 : M.1 0 1 ≤ 696) : Post (fun r => r.1 0 1 = M.1 0 1 + 4 ∧ (∀ j, 0 ≤ j → j < 4 → r.1 1 (M.1 0 1 + j) = byF x (24 - 8 * j)) ∧ (∀ j, j < M.1 0 1 → r.1 1 j = M.1 1 j)) (t_WF_feedFour M x) := by
  unfold t_WF_feedFour
  have := c_fd4 (x := x) (M0 := M) l0 l1 FU M 0 (by omega) (by omega) (by omega) (fun j a b => by omega) (fun j a => rfl)
  rw [show (24 : Int) - 8 * 0 = 24 by omega] at this
  exact this
theorem c_fd {M : Mem} (l0 : 0 ≤ M.1 0 1) (l1 : M.1 0 1 ≤ 680) : Post (fun r => (∀ j, 0 ≤ j → j < 20 → r.1.1 1 (M.1 0 1 + j) = fdB x1 x2 x3 x4 x5 j) ∧ (∀ j, j < M.1 0 1 → r.1.1 1 j = M.1 1 j)) (t_WF_feed M x1 x2 x3 x4 x5) := by
  unfold t_WF_feed
  rw [w32_id (x := M.1 0 1 + 20) (by unfold InR; omega), if_pos (by omega)]
  refine post_bind (c_fd1 l0 (by omega)) (fun a ha => post_bind (c_fd1 (by omega) (by omega)) (fun b hb => post_bind (c_fd1 (by omega) (by omega)) (fun c hc => post_bind (c_fd1 (by omega) (by omega)) (fun d hd => post_bind (c_fd1 (by omega) (by omega)) (fun e he => post_some ?_)))))
  obtain ⟨a1, a2, a3⟩ := ha
  obtain ⟨b1, b2, b3⟩ := hb
  obtain ⟨c1, c2, c3⟩ := hc
  obtain ⟨d1, d2, d3⟩ := hd
  obtain ⟨e1, e2, e3⟩ := he
  refine ⟨fun j p q => ?_, fun j p => ?_⟩
  · show e.1 1 (M.1 0 1 + j) = _
    unfold fdB fdX
    by_cases j1 : j < 4
    · rw [if_pos j1, e3 _ (by omega), d3 _ (by omega), c3 _ (by omega), b3 _ (by omega), a2 j p j1, show j % 4 = j by omega]
    · rw [if_neg j1]
      by_cases j2 : j < 8
      · have := b2 (j - 4) (by omega) (by omega)
        rw [show a.1 0 1 + (j - 4) = M.1 0 1 + j by omega] at this
        rw [if_pos j2, e3 _ (by omega), d3 _ (by omega), c3 _ (by omega), this, show j % 4 = j - 4 by omega]
      · rw [if_neg j2]
        by_cases j3 : j < 12
        · have := c2 (j - 8) (by omega) (by omega)
          rw [show b.1 0 1 + (j - 8) = M.1 0 1 + j by omega] at this
          rw [if_pos j3, e3 _ (by omega), d3 _ (by omega), this, show j % 4 = j - 8 by omega]
        · rw [if_neg j3]
          by_cases j4 : j < 16
          · have := d2 (j - 12) (by omega) (by omega)
            rw [show c.1 0 1 + (j - 12) = M.1 0 1 + j by omega] at this
            rw [if_pos j4, e3 _ (by omega), this, show j % 4 = j - 12 by omega]
          · have := e2 (j - 16) (by omega) (by omega)
            rw [show d.1 0 1 + (j - 16) = M.1 0 1 + j by omega] at this
            rw [if_neg j4, this, show j % 4 = j - 16 by omega]
  · show e.1 1 j = _
    rw [e3 j (by omega), d3 j (by omega), c3 j (by omega), b3 j (by omega), a3 j p]
theorem c_fd_no {M : Mem} (l0 : M.1 0 1 ≤ 1000) (l1 : ¬ M.1 0 1 ≤ 680) : Post (fun r => r.1 = M) (t_WF_feed M x1 x2 x3 x4 x5) := by
  unfold t_WF_feed
  rw [w32_id (x := M.1 0 1 + 20) (by unfold InR; omega), if_neg (by omega)]
  exact post_some rfl
end FD
/-! a cleared town -/
theorem c_clear {M : Mem} {T : Nat} (hT : T ≤ 22) : ∃ N, t_Town_clear M T = some N ∧ Fr (W_Town_clear T) M N ∧ CT0 N T TV0 ∧ (cntT (N.2 T 18) 64 = 0 ∧ cntT (N.2 T 19) 64 = 0) ∧ CFm N T TV0 := by
  have z : ∀ j, ¬ (j = 0 ∨ j = 1) → TV0 0 j = 0 := fun j h => by
    unfold TV0
    rw [if_neg (fun q => h q.2), if_neg (by decide)]
  have hfr := fr_Town_clear (k0 := T) (W := W_Town_clear T) (M0 := M) (fun k j a => a) (M := M) Fr.rf
  unfold t_Town_clear t_Formula_clear at *
  simp (config := { proj := false }) only [qlet] at *
  obtain ⟨M1, e1⟩ : ∃ M1, M1 = setI (setI (setI (setI (setI (setI M T 11 4) T 12 4) T 14 0) T 15 0) T 16 0) T 17 0 := ⟨_, rfl⟩
  rw [← e1] at hfr ⊢
  have a11 : M1.1 T 11 = 4 := by rw [e1, sI_ne (by omega), sI_ne (by omega), sI_ne (by omega), sI_ne (by omega), sI_ne (by omega), sI_self]
  have a12 : M1.1 T 12 = 4 := by rw [e1, sI_ne (by omega), sI_ne (by omega), sI_ne (by omega), sI_ne (by omega), sI_self]
  have a14 : M1.1 T 14 = 0 := by rw [e1, sI_ne (by omega), sI_ne (by omega), sI_ne (by omega), sI_self]
  have a15 : M1.1 T 15 = 0 := by rw [e1, sI_ne (by omega), sI_ne (by omega), sI_self]
  have a16 : M1.1 T 16 = 0 := by rw [e1, sI_ne (by omega), sI_self]
  have a17 : M1.1 T 17 = 0 := by rw [e1, sI_self]
  obtain ⟨M2, e2⟩ : ∃ M2, M2 = setL (setL M1 T 18 0) T 19 0 := ⟨_, rfl⟩
  rw [← e2] at hfr ⊢
  have b18 : M2.2 T 18 = 0 := by rw [e2, sL_ne (by omega), sL_self]
  have b19 : M2.2 T 19 = 0 := by rw [e2, sL_self]
  have bI : ∀ k j, M2.1 k j = M1.1 k j := fun k j => by rw [e2, sL_fst, sL_fst]
  obtain ⟨M3, e3⟩ : ∃ M3, M3 = setI (setI (setI (setI M2 (T + 10) 3 0) (T + 10) 4 0) (T + 15) 3 0) (T + 15) 4 0 := ⟨_, rfl⟩
  rw [← e3] at hfr ⊢
  have c1 : M3.1 (T + 10) 3 = 0 := by rw [e3, sI_ne (by omega), sI_ne (by omega), sI_ne (by omega), sI_self]
  have c2 : M3.1 (T + 10) 4 = 0 := by rw [e3, sI_ne (by omega), sI_ne (by omega), sI_self]
  have c3 : M3.1 (T + 15) 3 = 0 := by rw [e3, sI_ne (by omega), sI_self]
  have c4 : M3.1 (T + 15) 4 = 0 := by rw [e3, sI_self]
  have f3 : Fr (fun k j => (k = T + 10 ∨ k = T + 15) ∧ (j = 3 ∨ j = 4)) M2 M3 := by rw [e3]; exact (((Fr.rf.setI (by omega)).setI (by omega)).setI (by omega)).setI (by omega)
  obtain ⟨N, n1, n2, n3⟩ := c_fill (M := M3) (r := T + 8) (N1 := 48) (x := -1) (by omega)
  rw [n1, obind_some] at hfr ⊢
  have g : ∀ j, N.1 T j = M1.1 T j := fun j => by rw [(n2 T j (by omega)).1, (f3 T j (by omega)).1, bI]
  have gL : ∀ j, N.2 T j = M2.2 T j := fun j => by rw [(n2 T j (by omega)).2, (f3 T j (by omega)).2]
  have r : ∀ k j, k ≠ T + 8 → N.1 k j = M3.1 k j := fun k j q => (n2 k j (by omega)).1
  refine ⟨N, rfl, hfr _ rfl, ⟨⟨?_, ?_, ?_, ?_, ?_, ?_⟩, fun w x y => ?_, fun t x y => ?_, fun c x y => ⟨?_, ?_, ?_⟩⟩, ⟨?_, ?_⟩, ⟨?_, ?_, fun j x y => ?_⟩, ?_, ?_, fun j x y => ?_⟩
  · rw [g, a11]; rfl
  · rw [g, a12]; rfl
  · rw [g, a14, z 2 (by omega)]
  · rw [g, a15, z 3 (by omega)]
  · rw [g, a16, z 4 (by omega)]
  · rw [g, a17, z 5 (by omega)]
  · rw [z 2 (by omega)] at y; omega
  · rw [z 3 (by omega)] at y; omega
  · rw [n3 c x y]; unfold TV0; rw [if_neg (fun q => absurd q.1 (by decide)), if_pos rfl]
  · rw [gL, b18, tb_zero]; exact (decide_eq_false (by unfold TV0; rw [if_neg (fun q => absurd q.1 (by decide)), if_neg (by decide)]; decide)).symm
  · rw [gL, b19, tb_zero]; exact (decide_eq_false (by unfold TV0; rw [if_neg (fun q => absurd q.1 (by decide)), if_neg (by decide)]; decide)).symm
  · rw [gL, b18]; exact cnt_zero 64
  · rw [gL, b19]; exact cnt_zero 64
  · rw [r _ _ (by omega), c2, z 9 (by omega)]
  · rw [r _ _ (by omega), c1, z 11 (by omega)]
  · rw [z 11 (by omega)] at y; omega
  · rw [r _ _ (by omega), c4, z 10 (by omega)]
  · rw [r _ _ (by omega), c3, z 12 (by omega)]
  · rw [z 12 (by omega)] at y; omega
/-! a new start -/
theorem cpy_get {M : Mem} {r1 r2 : Nat} {n j : Int} (h0 : 0 ≤ j) (h1 : j < n) : (cpyM M r1 r2 n).1 r2 j = M.1 r1 j := by
  unfold cpyM
  exact if_pos ⟨rfl, h0, h1⟩
def BgC (N : Mem) (T : Nat) : Prop := (∀ w, 0 ≤ w → w < 4 → N.1 48 w = N.1 (T + 2) w) ∧ (∀ t, 0 ≤ t → t < 8 → N.1 49 t = N.1 (T + 7) t ∧ N.1 50 t = 0 ∧ N.1 51 t = 0) ∧ (N.2 47 4 = N.2 T 18 ∧ N.2 47 5 = 0 ∧ N.2 47 6 = 0) ∧ (N.1 62 3 = 0 ∧ N.1 62 4 = 0 ∧ N.2 62 5 = q_i2l (N.1 T 17)) ∧ N.1 0 13 = 0 ∧ N.1 70 2 = 0 ∧ N.1 172 5 = 0 ∧ N.1 172 6 = -1 ∧ N.1 177 8 = 0
theorem c_anew {M : Mem} {T : Nat} (hT : T ≤ 22) (hT2 : 2 ≤ T) (h4 : M.1 0 4 = (T : Int)) : ∃ N, t_WF_startAnew M = some N ∧ Fr W_WF_startAnew M N ∧ BgC N T := by
  suffices hs : ∃ N, t_WF_startAnew M = some N ∧ BgC N T by
    obtain ⟨N, n1, n2⟩ := hs
    exact ⟨N, n1, fr_WF_startAnew (W := W_WF_startAnew) (M0 := M) (fun k j a => a) (M := M) Fr.rf N n1, n2⟩
  unfold t_WF_startAnew
  rw [h4, Int.toNat_natCast]
  unfold t_Scene_begin
  have q4 : q_min ((4 : Nat) : Int) ((4 : Nat) : Int) = 4 := rfl
  have q8 : q_min ((8 : Nat) : Int) ((8 : Nat) : Int) = 8 := rfl
  unfold t_WF_copyRow
  rw [q4, q8]
  simp (config := { proj := false }) only [qlet]
  obtain ⟨M1, e1⟩ : ∃ M1, M1 = cpyM (cpyM M (T + 2) (47 + 1) 4) (T + 7) (47 + 2) 8 := ⟨_, rfl⟩
  rw [← e1]
  have f1 : Fr (fun k j => k = 48 ∨ k = 49) M M1 := by rw [e1]; exact (Fr.rf.cpy (fun j => by omega)).cpy (fun j => by omega)
  have d48 : ∀ w, 0 ≤ w → w < 4 → M1.1 48 w = M.1 (T + 2) w := fun w a b => by
    have z : Fr (fun k _ => k = 49) (cpyM M (T + 2) (47 + 1) 4) M1 := by rw [e1]; exact Fr.rf.cpy (fun j => rfl)
    rw [(z 48 w (by omega)).1]
    exact cpy_get a b
  have d49 : ∀ t, 0 ≤ t → t < 8 → M1.1 49 t = M.1 (T + 7) t := fun t a b => by
    have z : Fr (fun k _ => k = 48) M (cpyM M (T + 2) (47 + 1) 4) := Fr.rf.cpy (fun j => rfl)
    rw [e1, cpy_get a b, (z (T + 7) t (by omega)).1]
  obtain ⟨M2, a1, a2, a3⟩ := c_fill (M := M1) (r := 50) (N1 := 8) (x := 0) (by omega)
  obtain ⟨M3, b1, b2, b3⟩ := c_fill (M := M2) (r := 51) (N1 := 8) (x := 0) (by omega)
  show ∃ N, obind (obind (t_Arrays_fill M1 50 8 0) _) _ = some N ∧ _
  rw [a1, obind_some]
  show ∃ N, obind (obind (t_Arrays_fill M2 51 8 0) _) _ = some N ∧ _
  rw [b1, obind_some, obind_some]
  unfold t_Chronicle_begin t_Past_clear t_Notes_clear
  simp (config := { proj := false }) only [qlet]
  have f3 : Fr (fun k j => 48 ≤ k ∧ k ≤ 51) M M3 := ((f1.mono (fun k j z => by omega)).trans (a2.mono (fun k j z => by omega))).trans (b2.mono (fun k j z => by omega))
  obtain ⟨M4, e4⟩ : ∃ M4, M4 = setL (setL (setL M3 47 4 (M3.2 T 18)) 47 5 0) 47 6 0 := ⟨_, rfl⟩
  rw [← e4]
  have m44 : M4.2 47 4 = M3.2 T 18 := by rw [e4, sL_ne (by omega), sL_ne (by omega), sL_self]
  have m45 : M4.2 47 5 = 0 := by rw [e4, sL_ne (by omega), sL_self]
  have m46 : M4.2 47 6 = 0 := by rw [e4, sL_self]
  have mI : ∀ k j, M4.1 k j = M3.1 k j := fun k j => by rw [e4, sL_fst, sL_fst, sL_fst]
  have h44 : M4.1 0 4 = (T : Int) := by rw [mI, (f3 0 4 (by omega)).1]; exact h4
  rw [h44, Int.toNat_natCast]
  obtain ⟨N, eN⟩ : ∃ N, N = setI (setI (setI (setI (setI (setL (setI (setI M4 62 3 0) 62 4 0) 62 5 (q_i2l ((setI (setI M4 62 3 0) 62 4 0).1 T 17))) 0 13 0) 70 2 0) 172 5 0) 172 6 (-1)) 177 8 0 := ⟨_, rfl⟩
  rw [← eN]
  have fN : Fr (fun k j => k = 62 ∨ k = 0 ∨ k = 70 ∨ k = 172 ∨ k = 177) M4 N := by rw [eN]; exact ((((((((Fr.rf.setI (by omega)).setI (by omega)).setL (by omega)).setI (by omega)).setI (by omega)).setI (by omega)).setI (by omega)).setI (by omega))
  have r : ∀ k j, (1 ≤ k ∧ k ≤ 47) → N.1 k j = M.1 k j := fun k j a => by rw [(fN k j (by omega)).1, mI, (f3 k j (by omega)).1]
  refine ⟨N, rfl, fun w a b => ?_, fun t a b => ⟨?_, ?_, ?_⟩, ⟨?_, ?_, ?_⟩, ⟨?_, ?_, ?_⟩, ?_, ?_, ?_, ?_, ?_⟩
  · rw [r (T + 2) w (by omega), (fN 48 w (by omega)).1, mI, (b2 48 w (by omega)).1, (a2 48 w (by omega)).1, d48 w a b]
  · rw [r (T + 7) t (by omega), (fN 49 t (by omega)).1, mI, (b2 49 t (by omega)).1, (a2 49 t (by omega)).1, d49 t a b]
  · rw [(fN 50 t (by omega)).1, mI, (b2 50 t (by omega)).1, a3 t a b]
  · rw [(fN 51 t (by omega)).1, mI, b3 t a b]
  · rw [(fN 47 4 (by omega)).2, m44, (fN T 18 (by omega)).2, e4, sL_ne (by omega), sL_ne (by omega), sL_ne (by omega)]
  · rw [(fN 47 5 (by omega)).2, m45]
  · rw [(fN 47 6 (by omega)).2, m46]
  · rw [eN, sI_ne (by omega), sI_ne (by omega), sI_ne (by omega), sI_ne (by omega), sI_ne (by omega), sL_fst, sI_ne (by omega), sI_self]
  · rw [eN, sI_ne (by omega), sI_ne (by omega), sI_ne (by omega), sI_ne (by omega), sI_ne (by omega), sL_fst, sI_self]
  · have : N.2 62 5 = q_i2l ((setI (setI M4 62 3 0) 62 4 0).1 T 17) := by
      rw [eN, sI_snd, sI_snd, sI_snd, sI_snd, sI_snd, sL_self]
    rw [this, r T 17 (by omega), sI_ne (by omega), sI_ne (by omega), mI, (f3 T 17 (by omega)).1]
  · rw [eN, sI_ne (by omega), sI_ne (by omega), sI_ne (by omega), sI_ne (by omega), sI_self]
  · rw [eN, sI_ne (by omega), sI_ne (by omega), sI_ne (by omega), sI_self]
  · rw [eN, sI_ne (by omega), sI_ne (by omega), sI_self]
  · rw [eN, sI_ne (by omega), sI_self]
  · rw [eN, sI_self]
end
