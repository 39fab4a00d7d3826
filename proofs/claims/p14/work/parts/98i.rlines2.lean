/-! ===== the class's reader: walls, stairs, things, parts, laws ===== -/
section RM
variable {B : Int → Int} {n : Int} {M : Mem} {i T : Nat} {V : TV}
theorem c_thAt {N : Mem} (hT0 : CT0 N T V) (hv : 0 ≤ V 0 3 ∧ V 0 3 ≤ 8) (c : Int) : t_WF_indexOf N (T + 7) 8 (N.1 T 15) c = some (match fnd (fun a => V 6 (a : Int)) c (V 0 3).toNat with | some b => (b : Int) | none => -1) := by
  have ix := indexOf_eq (M := N) (r := T + 7) (N := 8) (p := fun a => V 6 (a : Int)) (v := c) (len := (V 0 3).toNat) (by omega) (by omega) (fun a ha => (hT0.2.2.1 a (by omega) (by omega)).2.2)
  rw [Int.toNat_of_nonneg hv.1] at ix
  rw [hT0.1.2.2.2.1]
  exact ix
theorem bit_if {b : Bool} : (if b = true then (1 : Int) else 0) = 1 ↔ b = true := by cases b <;> decide
theorem c_rWall (hT : T ≤ 22) (h : RD M B n i) (hk : tK B n i = 3) (hC : CP M T V) (hP : POK V) : ∃ N g, t_Reader_readWall M T = some (N, g) ∧ Fr (RdW T) M N ∧ CLn N T B n (lnS B n V i) g := by
  obtain ⟨hV, hF, p6⟩ := hP
  have hC' := hC
  obtain ⟨hT0, ⟨f6, f7, f8⟩, ⟨b13, b14⟩, ⟨c7, c8⟩, hCF⟩ := hC
  obtain ⟨a1, a2, a3, a4, a5, a6⟩ := hT0.1
  have hv := hV.1
  have hcl := hV.cells
  unfold t_Reader_readWall t_Reader_readWall_L93 lnS
  rw [if_neg (show ¬ tK B n i = 0 by omega), if_neg (show ¬ tK B n i = 1 by omega), if_neg (show ¬ tK B n i = 2 by omega), if_pos hk, bitCount_eq, c7, h.2.2.2.2.2.2]
  simp only [qlet]
  by_cases t12 : V 0 7 = 12
  · rw [if_pos t12, if_neg (show ¬ V 0 7 < 12 by omega)]
    exact c_ref0 M (by decide)
  · rw [if_neg t12, if_pos (show V 0 7 < 12 by omega)]
    obtain ⟨N1, n1, n2, n3, n4⟩ := c_next1 h (by rw [hk]; decide)
    rw [n1, obind_some]
    have e1 : ∀ j, N1.1 T j = M.1 T j := fun j => (n2 T j (by unfold RgW; omega)).1
    obtain ⟨N2, r2, s1, s2, s3⟩ := c_cell n3 (T := T) hV ((e1 11).trans a1) ((e1 12).trans a2) (by omega)
    rw [s1, obind_some]
    unfold lnWall
    have g2 : Fr (RdW T) M N2 := (n2.mono rg_rd).trans (s2.mono rf_rd)
    have fR : Fr (fun k j => k = 46 ∧ (j ≤ 5 ∨ 9 ≤ j)) M N2 := (n2.mono (fun k j z => by unfold RgW at z; omega)).trans (s2.mono (fun k j z => by unfold RfW at z; omega))
    rcases s3 with ⟨c, b1, b2, b3, b4, b5, b6, b7⟩ | ⟨f, p, b1, b2, b3, b4⟩
    · subst b2
      rw [b7, if_pos (show 0 ≤ r2 from b3), b6]
      have hT2 : CT0 N2 T V := hT0.fr2 fR (fun k j x z => by omega)
      have w8 := (hV.2.2.2 r2 b3 (by omega)).2.2.1
      have w9 := (hV.2.2.2 r2 b3 (by omega)).2.2.2
      have q8 := (hT2.2.2.2 r2 b3 (by omega)).2.1
      have q9 := (hT2.2.2.2 r2 b3 (by omega)).2.2
      rw [bitOf_tb N2 _ b3 (by omega), bitOf_tb N2 _ b3 (by omega), q8, q9, c_thAt hT2 (by omega)]
      by_cases y8 : V 8 r2 = 0
      · rw [if_neg (show ¬ ¬ V 8 r2 = 0 from fun z => z y8), if_neg (show ¬ (if decide (V 8 r2 = 1) = true then (1 : Int) else 0) = 1 by rw [bit_if, decide_eq_true_iff]; omega)]
        have r5 := c_ref0 (T := T) (B := B) (n := n) N2 (f := 5) (p := tP B n (i + 2)) (by decide) (a := 0) (U := V)
        have r5' : ∃ N g, (some ((t_Reader_refuse N2 5 (tP B n (i + 2))).1, (t_Reader_refuse N2 5 (tP B n (i + 2))).2) : Option (Mem × Int)) = some (N, g) ∧ Fr (RdW T) M N ∧ CLn N T B n (5, tP B n (i + 2), 0, V) g := by
          obtain ⟨N, g, z1, z2, z3⟩ := r5
          exact ⟨N, g, z1, g2.trans z2, z3⟩
        by_cases y9 : V 9 r2 = 0
        · rw [if_neg (show ¬ (if decide (V 9 r2 = 1) = true then (1 : Int) else 0) = 1 by rw [bit_if, decide_eq_true_iff]; omega)]
          cases e : fnd (fun a => V 6 (a : Int)) r2 (V 0 3).toNat with
          | some b =>
            rw [obind_some, if_neg (show ¬ ((b : Nat) : Int) < 0 by omega)]
            rw [if_pos (show ¬ V 9 r2 = 0 ∨ some b ≠ none from Or.inr (by simp))]
            exact r5'
          | none =>
            rw [obind_some, if_pos (show (-1 : Int) < 0 by decide)]
            rw [if_neg (show ¬ (¬ V 9 r2 = 0 ∨ (none : Option Nat) ≠ none) from fun z => by rcases z with z | z; exact z y9; exact z rfl)]
            have fN : Fr (fun k j => k = T ∧ j = 18) N2 (setL N2 T 18 ((N2.2 T 18) ||| (q_lshl 1 r2))) := Fr.rf.setL ⟨rfl, rfl⟩
            have y18 : (setL N2 T 18 ((N2.2 T 18) ||| (q_lshl 1 r2))).2 T 18 = (N2.2 T 18) ||| (q_lshl 1 r2) := sL_self _ _ _ _
            generalize setL N2 T 18 ((N2.2 T 18) ||| (q_lshl 1 r2)) = N3 at *
            have m18 : N2.2 T 18 = M.2 T 18 := (fR T 18 (by omega)).2
            rw [m18] at y18 q8
            have tb0 : tb (M.2 T 18) r2 = false := by rw [q8]; exact decide_eq_false (by omega)
            have fA : Fr (fun k j => (k = 46 ∧ (j ≤ 5 ∨ 9 ≤ j)) ∨ (k = T ∧ j = 18)) M N3 := (fR.mono (fun k j z => Or.inl z)).trans (fN.mono (fun k j z => Or.inr z))
            have sv : ∀ j, j ≠ 7 → setV (setV V 8 r2 1) 0 7 (V 0 7 + 1) 0 j = V 0 j := fun j x => by rw [setV_ne _ _ (by omega), setV_ne _ _ (by omega)]
            have sr : ∀ r j, r ≠ 0 → (r ≠ 8 ∨ j ≠ r2) → setV (setV V 8 r2 1) 0 7 (V 0 7 + 1) r j = V r j := fun r j x y => by rw [setV_ne _ _ (by omega), setV_ne _ _ (by omega)]
            have s7 : setV (setV V 8 r2 1) 0 7 (V 0 7 + 1) 0 7 = V 0 7 + 1 := setV_self _ _ _ _
            have s8 : setV (setV V 8 r2 1) 0 7 (V 0 7 + 1) 8 r2 = 1 := by rw [setV_ne _ _ (by omega), setV_self]
            generalize setV (setV V 8 r2 1) 0 7 (V 0 7 + 1) = U at *
            refine ⟨_, 1, rfl, g2.trans (fN.mono (fun k j z => by unfold RdW; omega)), Or.inl ⟨rfl, rfl, b5.fr fN (fun k j x z => by omega), ?_⟩⟩
            show CP _ T U
            refine CP.of hC' ⟨?_, ?_, ?_⟩ ⟨by rw [sv 13 (by omega)]; exact b13, by rw [sv 14 (by omega)]; exact b14⟩ ⟨?_, ?_⟩ ?_ fA (fun k j x z => by omega) (fun j x y => sv j (by omega)) (fun r j x => sr r j (by omega) (by omega))
            · rw [(fA 46 6 (by omega)).1, f6, sv 6 (by omega)]
            · rw [(fA 46 7 (by omega)).1, f7, sv 13 (by omega)]
            · rw [(fA 46 8 (by omega)).1, f8, sv 14 (by omega)]
            · rw [y18, cnt_set b3 (by omega) tb0 64 (Nat.le_refl _), c7, s7, if_pos (by omega)]
            · rw [(fA T 19 (by omega)).2, c8, sv 8 (by omega)]
            · obtain ⟨-, w1, w2, w3⟩ := hT0
              have e : ∀ k j, k ≠ 46 → k ≠ T → N3.1 k j = M.1 k j := fun k j x y => (fA k j (by omega)).1
              have eT : ∀ j, j ≠ 18 → N3.1 T j = M.1 T j := fun j z => (fA T j (by omega)).1
              refine ⟨⟨?_, ?_, ?_, ?_, ?_, ?_⟩, fun w x y => ⟨?_, ?_, ?_⟩, fun t x y => ⟨?_, ?_, ?_⟩, fun c x y => ⟨?_, ?_, ?_⟩⟩
              · rw [eT 11 (by omega), a1, sv 0 (by omega)]
              · rw [eT 12 (by omega), a2, sv 1 (by omega)]
              · rw [eT 14 (by omega), a3, sv 2 (by omega)]
              · rw [eT 15 (by omega), a4, sv 3 (by omega)]
              · rw [eT 16 (by omega), a5, sv 4 (by omega)]
              · rw [eT 17 (by omega), a6, sv 5 (by omega)]
              · rw [sv 2 (by omega)] at y; rw [e _ _ (by omega) (by omega), sr _ _ (by omega) (by omega)]; exact (w1 w x y).1
              · rw [sv 2 (by omega)] at y; rw [e _ _ (by omega) (by omega), sr _ _ (by omega) (by omega)]; exact (w1 w x y).2.1
              · rw [sv 2 (by omega)] at y; rw [e _ _ (by omega) (by omega), sr _ _ (by omega) (by omega)]; exact (w1 w x y).2.2
              · rw [sv 3 (by omega)] at y; rw [e _ _ (by omega) (by omega), sr _ _ (by omega) (by omega)]; exact (w2 t x y).1
              · rw [sv 3 (by omega)] at y; rw [e _ _ (by omega) (by omega), sr _ _ (by omega) (by omega)]; exact (w2 t x y).2.1
              · rw [sv 3 (by omega)] at y; rw [e _ _ (by omega) (by omega), sr _ _ (by omega) (by omega)]; exact (w2 t x y).2.2
              · rw [e _ _ (by omega) (by omega), sr _ _ (by omega) (by omega)]; exact (w3 c x y).1
              · rw [y18, tb_or _ b3 (by omega) x (by omega), (w3 c x y).2.1]
                by_cases z : c = r2
                · rw [z, s8, decide_eq_true (show r2 = r2 from rfl), Bool.or_true]; rfl
                · rw [sr _ _ (by omega) (Or.inr z), decide_eq_false z, Bool.or_false]
              · rw [(fA T 19 (by omega)).2, sr _ _ (by omega) (by omega)]; exact (w3 c x y).2.2
        · rw [if_pos (show (if decide (V 9 r2 = 1) = true then (1 : Int) else 0) = 1 by rw [bit_if, decide_eq_true_iff]; omega)]
          rw [if_pos (show ¬ V 9 r2 = 0 ∨ _ from Or.inl y9)]
          exact r5'
      · rw [if_pos (show ¬ V 8 r2 = 0 from y8), if_pos (show (if decide (V 8 r2 = 1) = true then (1 : Int) else 0) = 1 by rw [bit_if, decide_eq_true_iff]; omega)]
        obtain ⟨N, g, z1, z2, z3⟩ := c_ref0 (T := T) (B := B) (n := n) N2 (f := 3) (p := tP B n (i + 2)) (by decide) (a := 0) (U := V)
        exact ⟨N, g, z1, g2.trans z2, z3⟩
    · rw [b4, if_neg (show ¬ 0 ≤ r2 by omega)]
      exact ⟨_, 0, rfl, g2, CLn.bad b3 b2⟩
theorem c_rStair (hT : T ≤ 22) (h : RD M B n i) (hk : tK B n i = 4) (hC : CP M T V) (hP : POK V) : ∃ N g, t_Reader_readStair M T = some (N, g) ∧ Fr (RdW T) M N ∧ CLn N T B n (lnS B n V i) g := by
  obtain ⟨hV, hF, p6⟩ := hP
  have hC' := hC
  obtain ⟨hT0, ⟨f6, f7, f8⟩, ⟨b13, b14⟩, ⟨c7, c8⟩, hCF⟩ := hC
  obtain ⟨a1, a2, a3, a4, a5, a6⟩ := hT0.1
  have hv := hV.1
  have hcl := hV.cells
  unfold t_Reader_readStair lnS
  rw [if_neg (show ¬ tK B n i = 0 by omega), if_neg (show ¬ tK B n i = 1 by omega), if_neg (show ¬ tK B n i = 2 by omega), if_neg (show ¬ tK B n i = 3 by omega), if_pos hk, bitCount_eq, c8, h.2.2.2.2.2.2]
  simp only [qlet]
  by_cases t12 : V 0 8 = 8
  · rw [if_pos t12, if_neg (show ¬ V 0 8 < 8 by omega)]
    exact c_ref0 M (by decide)
  · rw [if_neg t12, if_pos (show V 0 8 < 8 by omega)]
    obtain ⟨N1, n1, n2, n3, n4⟩ := c_next1 h (by rw [hk]; decide)
    rw [n1, obind_some]
    have e1 : ∀ j, N1.1 T j = M.1 T j := fun j => (n2 T j (by unfold RgW; omega)).1
    obtain ⟨N2, r2, s1, s2, s3⟩ := c_cell n3 (T := T) hV ((e1 11).trans a1) ((e1 12).trans a2) (by omega)
    rw [s1, obind_some]
    unfold lnStair
    have g2 : Fr (RdW T) M N2 := (n2.mono rg_rd).trans (s2.mono rf_rd)
    have fR : Fr (fun k j => k = 46 ∧ (j ≤ 5 ∨ 9 ≤ j)) M N2 := (n2.mono (fun k j z => by unfold RgW at z; omega)).trans (s2.mono (fun k j z => by unfold RfW at z; omega))
    rcases s3 with ⟨c, b1, b2, b3, b4, b5, b6, b7⟩ | ⟨f, p, b1, b2, b3, b4⟩
    · subst b2
      rw [b7, if_pos (show 0 ≤ r2 from b3), b6]
      have hT2 : CT0 N2 T V := hT0.fr2 fR (fun k j x z => by omega)
      have w8 := (hV.2.2.2 r2 b3 (by omega)).2.2.1
      have w9 := (hV.2.2.2 r2 b3 (by omega)).2.2.2
      have q8 := (hT2.2.2.2 r2 b3 (by omega)).2.1
      have q9 := (hT2.2.2.2 r2 b3 (by omega)).2.2
      rw [bitOf_tb N2 _ b3 (by omega), bitOf_tb N2 _ b3 (by omega), q8, q9]
      by_cases y8 : V 9 r2 = 0
      · rw [if_neg (show ¬ ¬ V 9 r2 = 0 from fun z => z y8), if_neg (show ¬ (if decide (V 9 r2 = 1) = true then (1 : Int) else 0) = 1 by rw [bit_if, decide_eq_true_iff]; omega)]
        by_cases y9 : V 8 r2 = 0
        · rw [if_neg (show ¬ (if decide (V 8 r2 = 1) = true then (1 : Int) else 0) = 1 by rw [bit_if, decide_eq_true_iff]; omega), if_neg (show ¬ ¬ V 8 r2 = 0 from fun z => z y9)]
          have fN : Fr (fun k j => k = T ∧ j = 19) N2 (setL N2 T 19 ((N2.2 T 19) ||| (q_lshl 1 r2))) := Fr.rf.setL ⟨rfl, rfl⟩
          have y18 : (setL N2 T 19 ((N2.2 T 19) ||| (q_lshl 1 r2))).2 T 19 = (N2.2 T 19) ||| (q_lshl 1 r2) := sL_self _ _ _ _
          generalize setL N2 T 19 ((N2.2 T 19) ||| (q_lshl 1 r2)) = N3 at *
          have m18 : N2.2 T 19 = M.2 T 19 := (fR T 19 (by omega)).2
          rw [m18] at y18 q9
          have tb0 : tb (M.2 T 19) r2 = false := by rw [q9]; exact decide_eq_false (by omega)
          have fA : Fr (fun k j => (k = 46 ∧ (j ≤ 5 ∨ 9 ≤ j)) ∨ (k = T ∧ j = 19)) M N3 := (fR.mono (fun k j z => Or.inl z)).trans (fN.mono (fun k j z => Or.inr z))
          have sv : ∀ j, j ≠ 8 → setV (setV V 9 r2 1) 0 8 (V 0 8 + 1) 0 j = V 0 j := fun j x => by rw [setV_ne _ _ (by omega), setV_ne _ _ (by omega)]
          have sr : ∀ r j, r ≠ 0 → (r ≠ 9 ∨ j ≠ r2) → setV (setV V 9 r2 1) 0 8 (V 0 8 + 1) r j = V r j := fun r j x y => by rw [setV_ne _ _ (by omega), setV_ne _ _ (by omega)]
          have s7 : setV (setV V 9 r2 1) 0 8 (V 0 8 + 1) 0 8 = V 0 8 + 1 := setV_self _ _ _ _
          have s8 : setV (setV V 9 r2 1) 0 8 (V 0 8 + 1) 9 r2 = 1 := by rw [setV_ne _ _ (by omega), setV_self]
          generalize setV (setV V 9 r2 1) 0 8 (V 0 8 + 1) = U at *
          refine ⟨_, 1, rfl, g2.trans (fN.mono (fun k j z => by unfold RdW; omega)), Or.inl ⟨rfl, rfl, b5.fr fN (fun k j x z => by omega), ?_⟩⟩
          show CP _ T U
          refine CP.of hC' ⟨?_, ?_, ?_⟩ ⟨by rw [sv 13 (by omega)]; exact b13, by rw [sv 14 (by omega)]; exact b14⟩ ⟨?_, ?_⟩ ?_ fA (fun k j x z => by omega) (fun j x y => sv j (by omega)) (fun r j x => sr r j (by omega) (by omega))
          · rw [(fA 46 6 (by omega)).1, f6, sv 6 (by omega)]
          · rw [(fA 46 7 (by omega)).1, f7, sv 13 (by omega)]
          · rw [(fA 46 8 (by omega)).1, f8, sv 14 (by omega)]
          · rw [(fA T 18 (by omega)).2, c7, sv 7 (by omega)]
          · rw [y18, cnt_set b3 (by omega) tb0 64 (Nat.le_refl _), c8, s7, if_pos (by omega)]
          · obtain ⟨-, w1, w2, w3⟩ := hT0
            have e : ∀ k j, k ≠ 46 → k ≠ T → N3.1 k j = M.1 k j := fun k j x y => (fA k j (by omega)).1
            have eT : ∀ j, j ≠ 19 → N3.1 T j = M.1 T j := fun j z => (fA T j (by omega)).1
            refine ⟨⟨?_, ?_, ?_, ?_, ?_, ?_⟩, fun w x y => ⟨?_, ?_, ?_⟩, fun t x y => ⟨?_, ?_, ?_⟩, fun c x y => ⟨?_, ?_, ?_⟩⟩
            · rw [eT 11 (by omega), a1, sv 0 (by omega)]
            · rw [eT 12 (by omega), a2, sv 1 (by omega)]
            · rw [eT 14 (by omega), a3, sv 2 (by omega)]
            · rw [eT 15 (by omega), a4, sv 3 (by omega)]
            · rw [eT 16 (by omega), a5, sv 4 (by omega)]
            · rw [eT 17 (by omega), a6, sv 5 (by omega)]
            · rw [sv 2 (by omega)] at y; rw [e _ _ (by omega) (by omega), sr _ _ (by omega) (by omega)]; exact (w1 w x y).1
            · rw [sv 2 (by omega)] at y; rw [e _ _ (by omega) (by omega), sr _ _ (by omega) (by omega)]; exact (w1 w x y).2.1
            · rw [sv 2 (by omega)] at y; rw [e _ _ (by omega) (by omega), sr _ _ (by omega) (by omega)]; exact (w1 w x y).2.2
            · rw [sv 3 (by omega)] at y; rw [e _ _ (by omega) (by omega), sr _ _ (by omega) (by omega)]; exact (w2 t x y).1
            · rw [sv 3 (by omega)] at y; rw [e _ _ (by omega) (by omega), sr _ _ (by omega) (by omega)]; exact (w2 t x y).2.1
            · rw [sv 3 (by omega)] at y; rw [e _ _ (by omega) (by omega), sr _ _ (by omega) (by omega)]; exact (w2 t x y).2.2
            · rw [e _ _ (by omega) (by omega), sr _ _ (by omega) (by omega)]; exact (w3 c x y).1
            · rw [(fA T 18 (by omega)).2, sr _ _ (by omega) (by omega)]; exact (w3 c x y).2.1
            · rw [y18, tb_or _ b3 (by omega) x (by omega), (w3 c x y).2.2]
              by_cases z : c = r2
              · rw [z, s8, decide_eq_true (show r2 = r2 from rfl), Bool.or_true]; rfl
              · rw [sr _ _ (by omega) (Or.inr z), decide_eq_false z, Bool.or_false]
        · rw [if_pos (show (if decide (V 8 r2 = 1) = true then (1 : Int) else 0) = 1 by rw [bit_if, decide_eq_true_iff]; omega), if_pos (show ¬ V 8 r2 = 0 from y9)]
          obtain ⟨N, g, z1, z2, z3⟩ := c_ref0 (T := T) (B := B) (n := n) N2 (f := 5) (p := tP B n (i + 2)) (by decide) (a := 0) (U := V)
          exact ⟨N, g, z1, g2.trans z2, z3⟩
      · rw [if_pos (show ¬ V 9 r2 = 0 from y8), if_pos (show (if decide (V 9 r2 = 1) = true then (1 : Int) else 0) = 1 by rw [bit_if, decide_eq_true_iff]; omega)]
        obtain ⟨N, g, z1, z2, z3⟩ := c_ref0 (T := T) (B := B) (n := n) N2 (f := 3) (p := tP B n (i + 2)) (by decide) (a := 0) (U := V)
        exact ⟨N, g, z1, g2.trans z2, z3⟩
    · rw [b4, if_neg (show ¬ 0 ≤ r2 by omega)]
      exact ⟨_, 0, rfl, g2, CLn.bad b3 b2⟩
theorem c_rThing (hT : T ≤ 22) (h : RD M B n i) (hk : tK B n i = 5) (hC : CP M T V) (hP : POK V) : ∃ N g, t_Reader_readThing M T = some (N, g) ∧ Fr (RdW T) M N ∧ CLn N T B n (lnS B n V i) g := by
  obtain ⟨hV, hF, p6⟩ := hP
  have hC' := hC
  obtain ⟨hT0, ⟨f6, f7, f8⟩, ⟨b13, b14⟩, ⟨c7, c8⟩, hCF⟩ := hC
  obtain ⟨a1, a2, a3, a4, a5, a6⟩ := hT0.1
  have hv := hV.1
  have hcl := hV.cells
  unfold t_Reader_readThing lnS
  rw [if_neg (show ¬ tK B n i = 0 by omega), if_neg (show ¬ tK B n i = 1 by omega), if_neg (show ¬ tK B n i = 2 by omega), if_neg (show ¬ tK B n i = 3 by omega), if_neg (show ¬ tK B n i = 4 by omega), if_pos hk, a4, h.2.2.2.2.2.2]
  simp only [qlet]
  by_cases v4 : V 0 3 = 8
  · rw [if_pos v4, if_neg (show ¬ V 0 3 < 8 by omega)]
    exact c_ref0 M (by decide)
  · rw [if_neg v4, if_pos (show V 0 3 < 8 by omega)]
    obtain ⟨N1, n1, n2, n3, n4⟩ := c_next1 h (by rw [hk]; decide)
    rw [n1, obind_some, (n2 T 15 (by unfold RgW; omega)).1, a4]
    obtain ⟨N2, g2, s1, s2, s3⟩ := c_name n3 (V := V) (rowV := 4) (r := T + 5) (N1 := 8) (len := V 0 3) (by omega) (by omega) (by omega) (fun a x y => by rw [(n2 (T + 5) a (by unfold RgW; omega)).1]; exact (hT0.2.2.1 a x y).1) (by omega)
    rw [s1, obind_some]
    unfold lnThing
    have h2 : Fr (RdW T) M N2 := (n2.mono rg_rd).trans (s2.mono rf_rd)
    have l71 : ∀ (N : Mem) (x y : Int), t_Reader_readThing_L71 T N x y (-1) = some (N, 0) := fun N x y => by
      unfold t_Reader_readThing_L71
      rw [if_neg (by decide)]
    rcases s3 with ⟨b1, b2, b3, b4, b5⟩ | ⟨b1, b2, b3⟩
    · rw [if_neg (show ¬ ¬ nmS B n V 4 (V 0 3) (i + 1) = 0 from fun z => z b1)]
      rw [if_pos (show 0 ≤ g2 from b3)]
      obtain ⟨N3, r3, u1, u2, u3⟩ := c_num b4 0 99
      rw [u1, obind_some]
      have h3 : Fr (RdW T) M N3 := h2.trans (u2.mono rf_rd)
      unfold t_Reader_readThing_L57
      rcases u3 with ⟨d1, d2, d3, d4, d5, d6⟩ | ⟨d1, d2, d3⟩
      · rw [if_neg (show ¬ ¬ nuS B n (i + 2) 0 99 = 0 from fun z => z d1)]
        rw [if_pos (show 0 ≤ r3 from d3)]
        have fR3 : Fr (fun k j => k = 46 ∧ (j ≤ 5 ∨ 9 ≤ j)) M N3 := ((n2.mono (fun k j z => by unfold RgW at z; omega)).trans (s2.mono (fun k j z => by unfold RfW at z; omega))).trans (u2.mono (fun k j z => by unfold RfW at z; omega))
        obtain ⟨N4, r4, w1, w2, w3⟩ := c_cell d5 (T := T) hV (((fR3 T 11 (by omega)).1).trans a1) (((fR3 T 12 (by omega)).1).trans a2) (by omega)
        rw [w1, obind_some]
        have h4 : Fr (RdW T) M N4 := h3.trans (w2.mono rf_rd)
        have fR : Fr (fun k j => k = 46 ∧ (j ≤ 5 ∨ 9 ≤ j)) M N4 := fR3.trans (w2.mono (fun k j z => by unfold RfW at z; omega))
        rcases w3 with ⟨c, x1, x2, x3, x4, x5, x6, x7⟩ | ⟨f, p, x1, x2, x3, x4⟩
        · subst x2
          rw [x7]
          show ∃ N g, t_Reader_readThing_L71 T N4 g2 r3 r4 = some (N, g) ∧ _
          unfold t_Reader_readThing_L71 t_Reader_readThing_L109
          rw [if_pos (show 0 ≤ r4 from x3)]
          simp only [qlet]
          have hT4 : CT0 N4 T V := hT0.fr2 fR (fun k j x z => by omega)
          have w8 := (hV.2.2.2 r4 x3 (by omega)).2.2.1
          have q8 := (hT4.2.2.2 r4 x3 (by omega)).2.1
          rw [bitOf_tb N4 _ x3 (by omega), q8, c_thAt hT4 (by omega), x6]
          have r5 : ∃ N g, (some ((t_Reader_refuse N4 5 (tP B n (i + 4))).1, (t_Reader_refuse N4 5 (tP B n (i + 4))).2) : Option (Mem × Int)) = some (N, g) ∧ Fr (RdW T) M N ∧ CLn N T B n (5, tP B n (i + 4), 0, V) g := by
            obtain ⟨N, g, z1, z2, z3⟩ := c_ref0 (T := T) (B := B) (n := n) N4 (f := 5) (p := tP B n (i + 4)) (by decide) (a := 0) (U := V)
            exact ⟨N, g, z1, h4.trans z2, z3⟩
          by_cases y8 : V 8 r4 = 0
          · rw [if_neg (show ¬ (if decide (V 8 r4 = 1) = true then (1 : Int) else 0) = 1 by rw [bit_if, decide_eq_true_iff]; omega)]
            cases e : fnd (fun a => V 6 (a : Int)) r4 (V 0 3).toNat with
            | some b =>
              rw [obind_some, if_neg (show ¬ ((b : Nat) : Int) < 0 by omega)]
              rw [if_pos (show ¬ V 8 r4 = 0 ∨ some b ≠ none from Or.inr (by simp))]
              exact r5
            | none =>
              rw [obind_some, if_pos (show (-1 : Int) < 0 by decide)]
              rw [if_neg (show ¬ (¬ V 8 r4 = 0 ∨ (none : Option Nat) ≠ none) from fun z => by rcases z with z | z; exact z y8; exact z rfl)]
              have t15 : N4.1 T 15 = V 0 3 := ((fR T 15 (by omega)).1).trans a4
              obtain ⟨v, hv2⟩ : ∃ v, v = V 0 3 := ⟨_, rfl⟩
              have ep : setI (t_WF_put (t_WF_put (t_WF_put N4 (T + 5) 8 (N4.1 T 15) g2) (T + 6) 8 ((t_WF_put N4 (T + 5) 8 (N4.1 T 15) g2).1 T 15) r3) (T + 7) 8 ((t_WF_put (t_WF_put N4 (T + 5) 8 (N4.1 T 15) g2) (T + 6) 8 ((t_WF_put N4 (T + 5) 8 (N4.1 T 15) g2).1 T 15) r3).1 T 15) r4) T 15 (w32 ((t_WF_put (t_WF_put (t_WF_put N4 (T + 5) 8 (N4.1 T 15) g2) (T + 6) 8 ((t_WF_put N4 (T + 5) 8 (N4.1 T 15) g2).1 T 15) r3) (T + 7) 8 ((t_WF_put (t_WF_put N4 (T + 5) 8 (N4.1 T 15) g2) (T + 6) 8 ((t_WF_put N4 (T + 5) 8 (N4.1 T 15) g2).1 T 15) r3).1 T 15) r4).1 T 15 + 1)) = setI (setI (setI (setI N4 (T + 5) v g2) (T + 6) v r3) (T + 7) v r4) T 15 (v + 1) := by
                have p1 : t_WF_put N4 (T + 5) 8 v g2 = setI N4 (T + 5) v g2 := put_in (by omega) (by omega)
                rw [t15, ← hv2, p1]
                have z1 : (setI N4 (T + 5) v g2).1 T 15 = v := (sI_ne (by omega)).trans (t15.trans hv2.symm)
                have p2 : t_WF_put (setI N4 (T + 5) v g2) (T + 6) 8 v r3 = setI (setI N4 (T + 5) v g2) (T + 6) v r3 := put_in (by omega) (by omega)
                rw [z1, p2]
                have z2 : (setI (setI N4 (T + 5) v g2) (T + 6) v r3).1 T 15 = v := (sI_ne (by omega)).trans z1
                have p3 : t_WF_put (setI (setI N4 (T + 5) v g2) (T + 6) v r3) (T + 7) 8 v r4 = setI (setI (setI N4 (T + 5) v g2) (T + 6) v r3) (T + 7) v r4 := put_in (by omega) (by omega)
                rw [z2, p3]
                have z3 : (setI (setI (setI N4 (T + 5) v g2) (T + 6) v r3) (T + 7) v r4).1 T 15 = v := (sI_ne (by omega)).trans z2
                rw [z3, w32_id (by unfold InR; omega)]
              change ∃ N g, some (setI (t_WF_put (t_WF_put (t_WF_put N4 (T + 5) 8 (N4.1 T 15) g2) (T + 6) 8 ((t_WF_put N4 (T + 5) 8 (N4.1 T 15) g2).1 T 15) r3) (T + 7) 8 ((t_WF_put (t_WF_put N4 (T + 5) 8 (N4.1 T 15) g2) (T + 6) 8 ((t_WF_put N4 (T + 5) 8 (N4.1 T 15) g2).1 T 15) r3).1 T 15) r4) T 15 (w32 ((t_WF_put (t_WF_put (t_WF_put N4 (T + 5) 8 (N4.1 T 15) g2) (T + 6) 8 ((t_WF_put N4 (T + 5) 8 (N4.1 T 15) g2).1 T 15) r3) (T + 7) 8 ((t_WF_put (t_WF_put N4 (T + 5) 8 (N4.1 T 15) g2) (T + 6) 8 ((t_WF_put N4 (T + 5) 8 (N4.1 T 15) g2).1 T 15) r3).1 T 15) r4).1 T 15 + 1)), (1 : Int)) = some (N, g) ∧ _
              rw [ep]
              have fN : Fr (fun k j => (k = T ∧ j = 15) ∨ (T + 5 ≤ k ∧ k ≤ T + 7 ∧ j = v)) N4 (setI (setI (setI (setI N4 (T + 5) v g2) (T + 6) v r3) (T + 7) v r4) T 15 (v + 1)) := (((Fr.rf.setI (by omega)).setI (by omega)).setI (by omega)).setI (by omega)
              have y15 : (setI (setI (setI (setI N4 (T + 5) v g2) (T + 6) v r3) (T + 7) v r4) T 15 (v + 1)).1 T 15 = v + 1 := sI_self _ _ _ _
              have y1 : (setI (setI (setI (setI N4 (T + 5) v g2) (T + 6) v r3) (T + 7) v r4) T 15 (v + 1)).1 (T + 5) v = g2 := by rw [sI_ne (by omega), sI_ne (by omega), sI_ne (by omega), sI_self]
              have y2 : (setI (setI (setI (setI N4 (T + 5) v g2) (T + 6) v r3) (T + 7) v r4) T 15 (v + 1)).1 (T + 6) v = r3 := by rw [sI_ne (by omega), sI_ne (by omega), sI_self]
              have y3 : (setI (setI (setI (setI N4 (T + 5) v g2) (T + 6) v r3) (T + 7) v r4) T 15 (v + 1)).1 (T + 7) v = r4 := by rw [sI_ne (by omega), sI_self]
              clear ep
              generalize setI (setI (setI (setI N4 (T + 5) v g2) (T + 6) v r3) (T + 7) v r4) T 15 (v + 1) = N5 at *
              rw [← hv2]
              have sv : ∀ j, j ≠ 3 → setV (setV (setV (setV V 4 v (tW B n (i + 1))) 5 v (tW B n (i + 2))) 6 v r4) 0 3 (v + 1) 0 j = V 0 j := fun j x => by rw [setV_ne _ _ (by omega), setV_ne _ _ (by omega), setV_ne _ _ (by omega), setV_ne _ _ (by omega)]
              have sr : ∀ r j, r ≠ 0 → (6 < r ∨ r < 4 ∨ j ≠ v) → setV (setV (setV (setV V 4 v (tW B n (i + 1))) 5 v (tW B n (i + 2))) 6 v r4) 0 3 (v + 1) r j = V r j := fun r j x z => by rw [setV_ne _ _ (by omega), setV_ne _ _ (by omega), setV_ne _ _ (by omega), setV_ne _ _ (by omega)]
              have s3' : setV (setV (setV (setV V 4 v (tW B n (i + 1))) 5 v (tW B n (i + 2))) 6 v r4) 0 3 (v + 1) 0 3 = v + 1 := setV_self _ _ _ _
              have z1 : setV (setV (setV (setV V 4 v (tW B n (i + 1))) 5 v (tW B n (i + 2))) 6 v r4) 0 3 (v + 1) 4 v = tW B n (i + 1) := by rw [setV_ne _ _ (by omega), setV_ne _ _ (by omega), setV_ne _ _ (by omega), setV_self]
              have z2 : setV (setV (setV (setV V 4 v (tW B n (i + 1))) 5 v (tW B n (i + 2))) 6 v r4) 0 3 (v + 1) 5 v = tW B n (i + 2) := by rw [setV_ne _ _ (by omega), setV_ne _ _ (by omega), setV_self]
              have z3 : setV (setV (setV (setV V 4 v (tW B n (i + 1))) 5 v (tW B n (i + 2))) 6 v r4) 0 3 (v + 1) 6 v = r4 := by rw [setV_ne _ _ (by omega), setV_self]
              generalize setV (setV (setV (setV V 4 v (tW B n (i + 1))) 5 v (tW B n (i + 2))) 6 v r4) 0 3 (v + 1) = U at *
              have fA : Fr (fun k j => (k = 46 ∧ (j ≤ 5 ∨ 9 ≤ j)) ∨ (k = T ∧ j = 15) ∨ (T + 5 ≤ k ∧ k ≤ T + 7 ∧ j = v)) M N5 := (fR.mono (fun k j z => Or.inl z)).trans (fN.mono (fun k j z => Or.inr z))
              refine ⟨_, 1, rfl, h4.trans (fN.mono (fun k j z => by unfold RdW; omega)), Or.inl ⟨rfl, rfl, x5.fr fN (fun k j x z => by omega), ?_⟩⟩
              show CP _ T U
              refine CP.of hC' ⟨?_, ?_, ?_⟩ ⟨by rw [sv 13 (by omega)]; exact b13, by rw [sv 14 (by omega)]; exact b14⟩ ⟨?_, ?_⟩ ?_ fA (fun k j x z => by omega) (fun j x y => sv j (by omega)) (fun r j x => sr r j (by omega) (by omega))
              · rw [(fA 46 6 (by omega)).1, f6, sv 6 (by omega)]
              · rw [(fA 46 7 (by omega)).1, f7, sv 13 (by omega)]
              · rw [(fA 46 8 (by omega)).1, f8, sv 14 (by omega)]
              · rw [(fA T 18 (by omega)).2, c7, sv 7 (by omega)]
              · rw [(fA T 19 (by omega)).2, c8, sv 8 (by omega)]
              · obtain ⟨-, w1, w2, w3⟩ := hT0
                have e : ∀ k j, k ≠ 46 → k ≠ T → (T + 7 < k ∨ k < T + 5 ∨ j ≠ v) → N5.1 k j = M.1 k j := fun k j x y z => (fA k j (by omega)).1
                have eT : ∀ j, j ≠ 15 → N5.1 T j = M.1 T j := fun j x => (fA T j (by omega)).1
                refine ⟨⟨?_, ?_, ?_, ?_, ?_, ?_⟩, fun w x y => ⟨?_, ?_, ?_⟩, fun t x y => ?_, fun c x y => ⟨?_, ?_, ?_⟩⟩
                · rw [eT 11 (by omega), a1, sv 0 (by omega)]
                · rw [eT 12 (by omega), a2, sv 1 (by omega)]
                · rw [eT 14 (by omega), a3, sv 2 (by omega)]
                · rw [y15, s3']
                · rw [eT 16 (by omega), a5, sv 4 (by omega)]
                · rw [eT 17 (by omega), a6, sv 5 (by omega)]
                · rw [sv 2 (by omega)] at y; rw [e _ _ (by omega) (by omega) (by omega), sr _ _ (by omega) (by omega)]; exact (w1 w x y).1
                · rw [sv 2 (by omega)] at y; rw [e _ _ (by omega) (by omega) (by omega), sr _ _ (by omega) (by omega)]; exact (w1 w x y).2.1
                · rw [sv 2 (by omega)] at y; rw [e _ _ (by omega) (by omega) (by omega), sr _ _ (by omega) (by omega)]; exact (w1 w x y).2.2
                · rw [s3'] at y
                  by_cases q : t = v
                  · rw [q, y1, y2, y3, z1, z2, z3]; exact ⟨b2, d2, rfl⟩
                  · rw [e _ _ (by omega) (by omega) (by omega), e _ _ (by omega) (by omega) (by omega), e _ _ (by omega) (by omega) (by omega), sr _ _ (by omega) (by omega), sr _ _ (by omega) (by omega), sr _ _ (by omega) (by omega)]
                    exact w2 t x (by omega)
                · rw [e _ _ (by omega) (by omega) (by omega), sr _ _ (by omega) (by omega)]; exact (w3 c x y).1
                · rw [(fA T 18 (by omega)).2, sr _ _ (by omega) (by omega)]; exact (w3 c x y).2.1
                · rw [(fA T 19 (by omega)).2, sr _ _ (by omega) (by omega)]; exact (w3 c x y).2.2
          · rw [if_pos (show (if decide (V 8 r4 = 1) = true then (1 : Int) else 0) = 1 by rw [bit_if, decide_eq_true_iff]; omega)]
            rw [if_pos (show ¬ V 8 r4 = 0 ∨ _ from Or.inl y8)]
            exact r5
        · rw [x4]
          show ∃ N g, t_Reader_readThing_L71 T N4 g2 r3 r4 = some (N, g) ∧ _
          rw [x1, l71]
          exact ⟨_, 0, rfl, h4, CLn.bad x3 x2⟩
      · rw [if_pos d1]
        rw [if_neg (show ¬ 0 ≤ r3 by omega), l71]
        exact ⟨_, 0, rfl, h3, CLn.bad d3 d1⟩
    · rw [if_pos b1]
      rw [if_neg (show ¬ 0 ≤ g2 by omega)]
      unfold t_Reader_readThing_L57
      rw [if_neg (show ¬ (0 : Int) ≤ -1 by decide), l71]
      exact ⟨_, 0, rfl, h2, CLn.bad b3 b1⟩
end RM
