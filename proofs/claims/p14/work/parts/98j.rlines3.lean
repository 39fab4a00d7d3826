/-! ===== the class's reader: parts ===== -/
section RP
variable {B : Int → Int} {n : Int} {M : Mem} {i T : Nat} {V : TV}
theorem c_part_in {M0 : Mem} {w x x2 y y2 : Int} {bk : Mem → Int → Int → Int → Int → Int → Option (Mem × Int)} (e11 : M0.1 T 11 = V 0 0) (hV : VOK V) (x0 : 0 ≤ x) (xx : x ≤ x2) (x2w : x2 ≤ V 0 0 - 1) (y0 : 0 ≤ y) {j : Int} (yj : y ≤ j) (jg : j < V 0 1) : ∀ (m : Nat) (fu : Nat) (M : Mem) (k : Int), k + (m : Int) = x2 + 1 → x ≤ k → m < fu → Fr (fun k _ => k = T + 8) M0 M → (∀ c, 0 ≤ c → c < 48 → M.1 (T + 8) c = if pnt (V 0 0) x x2 y j k c then w else M0.1 (T + 8) c) →
    ∃ N, t_Reader_readPart_L175 T bk fu M w x x2 y2 j k = bk N w x x2 y2 (j + 1) ∧ Fr (fun k _ => k = T + 8) M0 N ∧ ∀ c, 0 ≤ c → c < 48 → N.1 (T + 8) c = if pnt (V 0 0) x x2 y (j + 1) x c then w else M0.1 (T + 8) c := by
  have hv := hV.1
  intro m
  induction m with
  | zero =>
    intro fu M k g0 g1 g2 hF hc
    obtain ⟨g, rfl⟩ : ∃ g, fu = g + 1 := ⟨fu - 1, by omega⟩
    rw [t_Reader_readPart_L175, if_pos (by omega), w32_id (x := j + 1) (by unfold InR; omega)]
    refine ⟨M, rfl, hF, fun c a b => ?_⟩
    rw [hc c a b, show k = x2 + 1 by omega]
    by_cases q : pnt (V 0 0) x x2 y (j + 1) x c
    · rw [if_pos q, if_pos ((pnt_row (by omega) (by omega) x0 xx y0 yj a).mpr q)]
    · rw [if_neg q, if_neg (fun z => q ((pnt_row (by omega) (by omega) x0 xx y0 yj a).mp z))]
  | succ m ih =>
    intro fu M k g0 g1 g2 hF hc
    obtain ⟨g, rfl⟩ : ∃ g, fu = g + 1 := ⟨fu - 1, by omega⟩
    have ix := pnt_idx (w := V 0 0) (g := V 0 1) (x := k) (j := j) (by omega) (by omega) (by omega) (by omega) (by omega) (by omega) jg
    have e1 : M.1 T 11 = V 0 0 := ((hF T 11 (by omega)).1).trans e11
    rw [t_Reader_readPart_L175, if_neg (by omega), e1, w32_id (x := j * V 0 0) (by unfold InR; omega), w32_id (x := j * V 0 0 + k) (by unfold InR; omega), w32_id (x := k + 1) (by unfold InR; omega), put_in (by omega) (by omega)]
    simp (config := { proj := false }) only [qlet]
    refine ih g _ (k + 1) (by omega) (by omega) (by omega) (hF.setI rfl) (fun c a b => ?_)
    have st := pnt_step (w := V 0 0) (x := x) (x2 := x2) (y := y) (j := j) (i := k) (c := c) (by omega) (by omega) x0 g1 (by omega) (by omega) y0 yj a
    by_cases q : c = j * V 0 0 + k
    · rw [if_pos (st.mpr (Or.inr q)), q, sI_self]
    · rw [sI_ne (by omega), hc c a b]
      by_cases z : pnt (V 0 0) x x2 y j k c
      · rw [if_pos z, if_pos (st.mpr (Or.inl z))]
      · rw [if_neg z, if_neg (fun u => (st.mp u).elim z q)]
theorem c_part_out {M0 : Mem} {w x x2 y y2 : Int} (e11 : M0.1 T 11 = V 0 0) (e6 : M0.1 46 6 = V 0 6) (h6 : 0 ≤ V 0 6 ∧ V 0 6 < 12) (hT : T ≤ 22) (hV : VOK V) (x0 : 0 ≤ x) (xx : x ≤ x2) (x2w : x2 ≤ V 0 0 - 1) (y0 : 0 ≤ y) (yy : y ≤ y2) (y2g : y2 ≤ V 0 1 - 1) : ∀ (m : Nat) (fu : Nat) (M : Mem) (j : Int), j + (m : Int) = y2 + 1 → y ≤ j → m < fu → Fr (fun k _ => k = T + 8) M0 M → (∀ c, 0 ≤ c → c < 48 → M.1 (T + 8) c = if pnt (V 0 0) x x2 y j x c then w else M0.1 (T + 8) c) →
    ∃ N, t_Reader_readPart_L164 T fu M w x x2 y2 j = some (N, 1) ∧ Fr (fun k j => k = T + 8 ∨ (k = 46 ∧ j = 6)) M0 N ∧ N.1 46 6 = V 0 6 + 1 ∧ ∀ c, 0 ≤ c → c < 48 → N.1 (T + 8) c = if (x ≤ c % V 0 0 ∧ c % V 0 0 ≤ x2 ∧ y ≤ c / V 0 0 ∧ c / V 0 0 ≤ y2) then w else M0.1 (T + 8) c := by
  have hv := hV.1
  intro m
  induction m with
  | zero =>
    intro fu M j g0 g1 g2 hF hc
    obtain ⟨g, rfl⟩ : ∃ g, fu = g + 1 := ⟨fu - 1, by omega⟩
    have e1 : M.1 46 6 = V 0 6 := ((hF 46 6 (by omega)).1).trans e6
    rw [t_Reader_readPart_L164, if_pos (by omega), e1, w32_id (x := V 0 6 + 1) (by unfold InR; omega)]
    refine ⟨setI M 46 6 (V 0 6 + 1), rfl, (hF.mono (fun k j z => Or.inl z)).setI (Or.inr ⟨rfl, rfl⟩), sI_self _ _ _ _, fun c a b => ?_⟩
    rw [sI_ne (by omega), hc c a b, show j = y2 + 1 by omega]
    by_cases q : (x ≤ c % V 0 0 ∧ c % V 0 0 ≤ x2 ∧ y ≤ c / V 0 0 ∧ c / V 0 0 ≤ y2)
    · rw [if_pos q, if_pos (Or.inl ⟨q.2.2.1, by omega, q.1, q.2.1⟩)]
    · rw [if_neg q, if_neg (fun z => q (by rcases z with z | z; · exact ⟨z.2.2.1, z.2.2.2, z.1, by omega⟩
                                           · omega))]
  | succ m ih =>
    intro fu M j g0 g1 g2 hF hc
    obtain ⟨g, rfl⟩ : ∃ g, fu = g + 1 := ⟨fu - 1, by omega⟩
    rw [t_Reader_readPart_L164, if_neg (by omega)]
    obtain ⟨N, n1, n2, n3⟩ := c_part_in (T := T) (V := V) (w := w) (bk := fun a0_ a1_ a2_ a3_ a4_ a5_ => t_Reader_readPart_L164 T g a0_ a1_ a2_ a3_ a4_ a5_) (y2 := y2) e11 hV x0 xx x2w y0 g1 (by omega) (x2 + 1 - x).toNat FU M x (by omega) (Int.le_refl _) (fu_big (by omega)) hF hc
    rw [n1]
    exact ih g N (j + 1) (by omega) (by omega) (by omega) n2 n3
theorem c_rPart (hT : T ≤ 22) (h : RD M B n i) (hk : tK B n i = 2) (hC : CP M T V) (hP : POK V) : ∃ N g, t_Reader_readPart M T = some (N, g) ∧ Fr (RdW T) M N ∧ CLn N T B n (lnS B n V i) g := by
  obtain ⟨hV, hF, p6⟩ := hP
  have hC' := hC
  obtain ⟨hT0, ⟨f6, f7, f8⟩, ⟨b13, b14⟩, ⟨c7, c8⟩, hCF⟩ := hC
  obtain ⟨a1, a2, a3, a4, a5, a6⟩ := hT0.1
  have hv := hV.1
  have hcl := hV.cells
  unfold t_Reader_readPart lnS
  rw [if_neg (show ¬ tK B n i = 0 by omega), if_neg (show ¬ tK B n i = 1 by omega), if_pos hk, f6, h.2.2.2.2.2.2]
  simp only [qlet]
  by_cases v12 : V 0 6 = 12
  · rw [if_pos v12, if_neg (show ¬ V 0 6 < 12 by omega)]
    exact c_ref0 M (by decide)
  · rw [if_neg v12, if_pos (show V 0 6 < 12 by omega)]
    obtain ⟨N1, n1, n2, n3, n4⟩ := c_next1 h (by rw [hk]; decide)
    rw [n1, obind_some]
    obtain ⟨N2, g2, s1, s2, s3⟩ := c_take n3 (due := 30) (by decide)
    rw [s1, obind_some]
    have h2 : Fr (RdW T) M N2 := (n2.mono rg_rd).trans (s2.mono rf_rd)
    have fR2 : Fr (fun k j => k = 46 ∧ (j ≤ 5 ∨ 9 ≤ j)) M N2 := (n2.mono (fun k j z => by unfold RgW at z; omega)).trans (s2.mono (fun k j z => by unfold RfW at z; omega))
    have l151 : ∀ (N : Mem) (w x x2 y : Int), t_Reader_readPart_L151 T N w x y x2 (-1) = some (N, 0) := fun N w x x2 y => by
      unfold t_Reader_readPart_L151
      rw [if_neg (by decide)]
    have l128 : ∀ (N : Mem) (w x y : Int), t_Reader_readPart_L128 T N w x y (-1) = some (N, 0) := fun N w x y => by
      unfold t_Reader_readPart_L128
      rw [if_neg (by decide), l151]
    have l105 : ∀ (N : Mem) (w x : Int), t_Reader_readPart_L105 T N w x (-1) = some (N, 0) := fun N w x => by
      unfold t_Reader_readPart_L105
      rw [if_neg (by decide), l128]
    unfold lnPart
    rcases s3 with ⟨b1, b2, b3, b4⟩ | ⟨b1, b2, b3⟩
    · subst b2
      rw [if_neg (show ¬ (1 : Int) = 0 by decide)]
      rw [if_neg (show ¬ ¬ tK B n (i + 1) = 30 from fun z => z b1)]
      have hw : N1.1 46 3 = tW B n (i + 1) := n3.2.2.2.2.2.1 (by omega)
      have hT2 : CT0 N2 T V := hT0.fr2 fR2 (fun k j x z => by omega)
      have ix := indexOf_eq (M := N2) (r := T + 1) (N := 4) (p := fun a => V 1 (a : Int)) (v := tW B n (i + 1)) (len := (V 0 2).toNat) (by omega) (by omega) (fun a ha => (hT2.2.1 a (by omega) (by omega)).1)
      rw [Int.toNat_of_nonneg (by omega)] at ix
      rw [hw]
      change ∃ N g, obind (t_WF_indexOf N2 (T + 1) 4 (N2.1 T 14) (tW B n (i + 1))) _ = some (N, g) ∧ _
      rw [hT2.1.2.2.1, ix, obind_some]
      cases e : fnd (fun a => V 1 (a : Int)) (tW B n (i + 1)) (V 0 2).toNat with
      | none =>
        rw [if_neg (show ¬ (0 : Int) ≤ -1 by decide)]
        change ∃ N g, (some ((t_Reader_refuse N2 4 (N2.1 46 5)).1, (t_Reader_refuse N2 4 (N2.1 46 5)).2) : Option (Mem × Int)) = some (N, g) ∧ _
        rw [b4]
        obtain ⟨N, g, z1, z2, z3⟩ := c_ref0 (T := T) (B := B) (n := n) N2 (f := 4) (p := tP B n (i + 1)) (by decide) (a := 0) (U := V)
        exact ⟨N, g, z1, h2.trans z2, z3⟩
      | some wd =>
        have hwd := (fnd_some e).1
        rw [if_pos (show 0 ≤ ((wd : Nat) : Int) by omega)]
        dsimp only
        have e11 : ∀ N, Fr (fun k j => k = 46 ∧ (j ≤ 5 ∨ 9 ≤ j)) M N → N.1 T 11 = V 0 0 ∧ N.1 T 12 = V 0 1 := fun N q => ⟨((q T 11 (by omega)).1).trans a1, ((q T 12 (by omega)).1).trans a2⟩
        change ∃ N g, obind (t_Reader_takeNumber N2 0 (w32 (N2.1 T 11 - 1))) _ = some (N, g) ∧ _
        obtain ⟨N3, r3, u1, u2, u3⟩ := c_num b3 0 (V 0 0 - 1)
        have fR3 := fR2.trans (u2.mono (fun k j z => by unfold RfW at z; omega))
        have h3 : Fr (RdW T) M N3 := h2.trans (u2.mono rf_rd)
        rw [(e11 N2 fR2).1, w32_id (x := V 0 0 - 1) (by unfold InR; omega), u1, obind_some]
        rcases u3 with ⟨d1, d2, d3, d4, d5, d6⟩ | ⟨d1, d2, d3⟩
        · rw [if_neg (show ¬ ¬ nuS B n (i + 2) 0 (V 0 0 - 1) = 0 from fun z => z d1)]
          rw [if_pos (show 0 ≤ r3 from d3)]
          change ∃ N g, obind (t_Reader_takeNumber N3 0 (w32 (N3.1 T 12 - 1))) _ = some (N, g) ∧ _
          obtain ⟨N4, r4, t1, t2, t3⟩ := c_num d5 0 (V 0 1 - 1)
          have fR4 := fR3.trans (t2.mono (fun k j z => by unfold RfW at z; omega))
          have h4 : Fr (RdW T) M N4 := h3.trans (t2.mono rf_rd)
          rw [(e11 N3 fR3).2, w32_id (x := V 0 1 - 1) (by unfold InR; omega), t1, obind_some]
          change ∃ N g, t_Reader_readPart_L105 T N4 (wd : Int) r3 r4 = some (N, g) ∧ _
          rcases t3 with ⟨x1, x2, x3, x4, x5, x6⟩ | ⟨x1, x2, x3⟩
          · rw [if_neg (show ¬ ¬ nuS B n (i + 3) 0 (V 0 1 - 1) = 0 from fun z => z x1)]
            unfold t_Reader_readPart_L105
            obtain ⟨N5, r5, y1, y2, y3⟩ := c_num x5 r3 (V 0 0 - 1)
            have fR5 := fR4.trans (y2.mono (fun k j z => by unfold RfW at z; omega))
            have h5 : Fr (RdW T) M N5 := h4.trans (y2.mono rf_rd)
            rw [if_pos (show 0 ≤ r4 from x3), (e11 N4 fR4).1, w32_id (x := V 0 0 - 1) (by unfold InR; omega), y1, obind_some]
            change ∃ N g, t_Reader_readPart_L128 T N5 (wd : Int) r3 r4 r5 = some (N, g) ∧ _
            rw [← d2]
            rcases y3 with ⟨p1, p2, p3, p4, p5, p6⟩ | ⟨p1, p2, p3⟩
            · rw [if_neg (show ¬ ¬ nuS B n (i + 4) r3 (V 0 0 - 1) = 0 from fun z => z p1)]
              unfold t_Reader_readPart_L128
              obtain ⟨N6, r6, z1, z2, z3⟩ := c_num p5 r4 (V 0 1 - 1)
              have fR6 := fR5.trans (z2.mono (fun k j z => by unfold RfW at z; omega))
              have h6 : Fr (RdW T) M N6 := h5.trans (z2.mono rf_rd)
              rw [if_pos (show 0 ≤ r5 by omega), (e11 N5 fR5).2, w32_id (x := V 0 1 - 1) (by unfold InR; omega), z1, obind_some]
              change ∃ N g, t_Reader_readPart_L151 T N6 (wd : Int) r3 r4 r5 r6 = some (N, g) ∧ _
              rw [← x2]
              unfold t_Reader_readPart_L151
              rcases z3 with ⟨k1, k2, k3, k4, k5, k6⟩ | ⟨k1, k2, k3⟩
              · rw [if_neg (show ¬ ¬ nuS B n (i + 5) r4 (V 0 1 - 1) = 0 from fun z => z k1)]
                rw [if_pos (show 0 ≤ r6 by omega), ← p2, ← k2]
                obtain ⟨N7, o1, o2, o3, o4⟩ := c_part_out (T := T) (V := V) (M0 := N6) (w := (wd : Int)) (x := r3) (x2 := r5) (y := r4) (y2 := r6) (e11 N6 fR6).1 (((fR6 46 6 (by omega)).1).trans f6) (by omega) hT hV d3 p3 p4 x3 k3 k4 (r6 + 1 - r4).toNat FU N6 r4 (by omega) (Int.le_refl _) (fu_big (by omega)) Fr.rf (fun c a b => by
                  rw [if_neg]
                  intro z
                  rcases z with z | z <;> omega)
                rw [o1]
                have fA : Fr (fun k j => k = 46 ∨ k = T + 8) M N7 := (fR6.mono (fun k j z => Or.inl z.1)).trans (o2.mono (fun k j z => by omega))
                obtain ⟨U, hU⟩ : ∃ U, U = setV (ptV V r3 r4 r5 r6 (wd : Int)) 0 6 (V 0 6 + 1) := ⟨_, rfl⟩
                rw [← hU]
                have sv : ∀ j, j ≠ 6 → U 0 j = V 0 j := fun j x => by
                  rw [hU, setV_ne _ _ (by omega)]
                  exact if_neg (fun q => absurd q.1 (by decide))
                have sr : ∀ r j, r ≠ 0 → r ≠ 7 → U r j = V r j := fun r j x y => by
                  rw [hU, setV_ne _ _ (by omega)]
                  exact if_neg (fun q => y q.1)
                have s6 : U 0 6 = V 0 6 + 1 := by rw [hU]; exact setV_self _ _ _ _
                have s7 : ∀ c, U 7 c = if (r3 ≤ c % V 0 0 ∧ c % V 0 0 ≤ r5 ∧ r4 ≤ c / V 0 0 ∧ c / V 0 0 ≤ r6) then (wd : Int) else V 7 c := fun c => by
                  rw [hU, setV_ne _ _ (by omega)]
                  unfold ptV
                  by_cases q : (r3 ≤ c % V 0 0 ∧ c % V 0 0 ≤ r5 ∧ r4 ≤ c / V 0 0 ∧ c / V 0 0 ≤ r6)
                  · rw [if_pos q, if_pos ⟨rfl, q⟩]
                  · rw [if_neg q, if_neg (fun z => q z.2)]
                clear hU
                refine ⟨_, 1, rfl, h6.trans (o2.mono (fun k j z => by unfold RdW; omega)), Or.inl ⟨rfl, rfl, k5.fr o2 (fun k j x z => by omega), ?_⟩⟩
                show CP _ T U
                refine CP.of hC' ⟨?_, ?_, ?_⟩ ⟨by rw [sv 13 (by omega)]; exact b13, by rw [sv 14 (by omega)]; exact b14⟩ ⟨?_, ?_⟩ ?_ fA (fun k j x z => by omega) (fun j x y => sv j (by omega)) (fun r j x => sr r j (by omega) (by omega))
                · rw [o3, s6]
                · rw [(o2 46 7 (by omega)).1, (fR6 46 7 (by omega)).1, f7, sv 13 (by omega)]
                · rw [(o2 46 8 (by omega)).1, (fR6 46 8 (by omega)).1, f8, sv 14 (by omega)]
                · rw [(fA T 18 (by omega)).2, c7, sv 7 (by omega)]
                · rw [(fA T 19 (by omega)).2, c8, sv 8 (by omega)]
                · obtain ⟨-, w1, w2, w3⟩ := hT0
                  have e : ∀ k j, k ≠ 46 → k ≠ T + 8 → N7.1 k j = M.1 k j := fun k j x y => (fA k j (by omega)).1
                  refine ⟨⟨?_, ?_, ?_, ?_, ?_, ?_⟩, fun w x y => ⟨?_, ?_, ?_⟩, fun t x y => ⟨?_, ?_, ?_⟩, fun c x y => ⟨?_, ?_, ?_⟩⟩
                  · rw [e T 11 (by omega) (by omega), a1, sv 0 (by omega)]
                  · rw [e T 12 (by omega) (by omega), a2, sv 1 (by omega)]
                  · rw [e T 14 (by omega) (by omega), a3, sv 2 (by omega)]
                  · rw [e T 15 (by omega) (by omega), a4, sv 3 (by omega)]
                  · rw [e T 16 (by omega) (by omega), a5, sv 4 (by omega)]
                  · rw [e T 17 (by omega) (by omega), a6, sv 5 (by omega)]
                  · rw [sv 2 (by omega)] at y; rw [e _ _ (by omega) (by omega), sr _ _ (by omega) (by omega)]; exact (w1 w x y).1
                  · rw [sv 2 (by omega)] at y; rw [e _ _ (by omega) (by omega), sr _ _ (by omega) (by omega)]; exact (w1 w x y).2.1
                  · rw [sv 2 (by omega)] at y; rw [e _ _ (by omega) (by omega), sr _ _ (by omega) (by omega)]; exact (w1 w x y).2.2
                  · rw [sv 3 (by omega)] at y; rw [e _ _ (by omega) (by omega), sr _ _ (by omega) (by omega)]; exact (w2 t x y).1
                  · rw [sv 3 (by omega)] at y; rw [e _ _ (by omega) (by omega), sr _ _ (by omega) (by omega)]; exact (w2 t x y).2.1
                  · rw [sv 3 (by omega)] at y; rw [e _ _ (by omega) (by omega), sr _ _ (by omega) (by omega)]; exact (w2 t x y).2.2
                  · rw [o4 c x y, s7 c, (fR6 (T + 8) c (by omega)).1, (w3 c x y).1]
                  · rw [(fA T 18 (by omega)).2, sr _ _ (by omega) (by omega)]; exact (w3 c x y).2.1
                  · rw [(fA T 19 (by omega)).2, sr _ _ (by omega) (by omega)]; exact (w3 c x y).2.2
              · rw [if_pos k1]
                rw [if_neg (show ¬ 0 ≤ r6 by omega)]
                exact ⟨_, 0, rfl, h6, CLn.bad k3 k1⟩
            · rw [if_pos p1, p2, l128]
              exact ⟨_, 0, rfl, h5, CLn.bad p3 p1⟩
          · rw [if_pos x1, x2, l105]
            exact ⟨_, 0, rfl, h4, CLn.bad x3 x1⟩
        · rw [if_pos d1]
          rw [if_neg (show ¬ 0 ≤ r3 by omega)]
          change ∃ N g, t_Reader_readPart_L105 T N3 (wd : Int) r3 (-1) = some (N, g) ∧ _
          rw [l105]
          exact ⟨_, 0, rfl, h3, CLn.bad d3 d1⟩
    · subst b2
      rw [if_pos rfl, if_pos b1]
      exact ⟨_, 0, rfl, h2, CLn.bad b3 (by decide)⟩
end RP
