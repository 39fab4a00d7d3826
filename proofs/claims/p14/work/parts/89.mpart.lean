/-! ===== lines: parts, laws ===== -/
abbrev pnt (w x x2 y j i c : Int) : Prop := (y ≤ c / w ∧ c / w < j ∧ x ≤ c % w ∧ c % w ≤ x2) ∨ (c / w = j ∧ x ≤ c % w ∧ c % w < i)
theorem pnt_step {w x x2 y j i c : Int} (w0 : 1 ≤ w) (w1 : w ≤ 8) (x0 : 0 ≤ x) (xi : x ≤ i) (i2 : i ≤ x2) (x2w : x2 < w) (y0 : 0 ≤ y) (yj : y ≤ j) (c0 : 0 ≤ c) : pnt w x x2 y j (i + 1) c ↔ (pnt w x x2 y j i c ∨ c = j * w + i) := by
  have hw : w = 1 ∨ w = 2 ∨ w = 3 ∨ w = 4 ∨ w = 5 ∨ w = 6 ∨ w = 7 ∨ w = 8 := by omega
  rcases hw with rfl | rfl | rfl | rfl | rfl | rfl | rfl | rfl <;> omega
theorem pnt_row {w x x2 y j c : Int} (w0 : 1 ≤ w) (w1 : w ≤ 8) (x0 : 0 ≤ x) (xx : x ≤ x2) (y0 : 0 ≤ y) (yj : y ≤ j) (c0 : 0 ≤ c) : pnt w x x2 y j (x2 + 1) c ↔ pnt w x x2 y (j + 1) x c := by
  have hw : w = 1 ∨ w = 2 ∨ w = 3 ∨ w = 4 ∨ w = 5 ∨ w = 6 ∨ w = 7 ∨ w = 8 := by omega
  rcases hw with rfl | rfl | rfl | rfl | rfl | rfl | rfl | rfl <;> omega
theorem pnt_idx {w g x j : Int} (w0 : 1 ≤ w) (w1 : w ≤ 8) (g1 : g ≤ 6) (x0 : 0 ≤ x) (xw : x < w) (j0 : 0 ≤ j) (jg : j < g) : 0 ≤ j * w ∧ j * w ≤ 48 ∧ 0 ≤ j * w + x ∧ j * w + x < 48 := by
  have hw : w = 1 ∨ w = 2 ∨ w = 3 ∨ w = 4 ∨ w = 5 ∨ w = 6 ∨ w = 7 ∨ w = 8 := by omega
  rcases hw with rfl | rfl | rfl | rfl | rfl | rfl | rfl | rfl <;> omega
section LP
variable {B : Int → Int} {n : Int}
def PtW : Nat → Int → Prop := fun k j => k = 197 ∧ 48 ≤ j ∧ j < 96
theorem m_part_L147 {M0 : Mem} {V : TV} {l wd x x2 y y2 : Int} {bk : Mem → Int → Int → Int → Int → Int → Option Mem} (hL : LB M0 V l) (hP : POK V) (x0 : 0 ≤ x) (xx : x ≤ x2) (x2w : x2 ≤ V 0 0 - 1) (y0 : 0 ≤ y) (hwd : 0 ≤ wd ∧ wd < 4) {j : Int} (yj : y ≤ j) (jg : j < V 0 1) : ∀ (m : Nat) (fu : Nat) (M : Mem) (i : Int), i + (m : Int) = x2 + 1 → x ≤ i → m < fu → Fr PtW M0 M → (∀ c, 0 ≤ c → c < 48 → M.1 197 (48 + c) = if pnt (V 0 0) x x2 y j i c then wd + 1 else M0.1 197 (48 + c)) →
    ∃ N, t_MO_partLine_L147 bk fu M wd x x2 y2 j i = bk N wd x x2 y2 (j + 1) ∧ Fr PtW M0 N ∧ ∀ c, 0 ≤ c → c < 48 → N.1 197 (48 + c) = if pnt (V 0 0) x x2 y (j + 1) x c then wd + 1 else M0.1 197 (48 + c) := by
  have hv := hP.1.1
  intro m
  induction m with
  | zero =>
    intro fu M i g0 g1 g2 hF hc
    obtain ⟨g, rfl⟩ : ∃ g, fu = g + 1 := ⟨fu - 1, by omega⟩
    rw [t_MO_partLine_L147, if_pos (by omega), w32_id (x := j + 1) (by unfold InR; omega)]
    refine ⟨M, rfl, hF, fun c a b => ?_⟩
    rw [hc c a b, show i = x2 + 1 by omega]
    by_cases q : pnt (V 0 0) x x2 y (j + 1) x c
    · rw [if_pos q, if_pos ((pnt_row (by omega) (by omega) x0 xx y0 yj a).mpr q)]
    · rw [if_neg q, if_neg (fun z => q ((pnt_row (by omega) (by omega) x0 xx y0 yj a).mp z))]
  | succ m ih =>
    intro fu M i g0 g1 g2 hF hc
    obtain ⟨g, rfl⟩ : ∃ g, fu = g + 1 := ⟨fu - 1, by omega⟩
    have ix := pnt_idx (w := V 0 0) (g := V 0 1) (x := i) (j := j) (by omega) (by omega) (by omega) (by omega) (by omega) (by omega) jg
    have e9 : M.1 193 (9 + 0) = V 0 0 := ((hF 193 (9 + 0) (by unfold PtW; omega)).1).trans (hL.1.sc (j := 9) (x := 0) (by omega))
    rw [t_MO_partLine_L147, if_neg (by omega), m_fresher (by omega) (by omega), obind_some, e9, w32_id (x := j * V 0 0) (by unfold InR; omega), w32_id (x := 48 + j * V 0 0) (by unfold InR; omega), w32_id (x := 48 + j * V 0 0 + i) (by unfold InR; omega), qguard_pos ⟨by omega, by omega⟩, w32_id (x := wd + 1) (by unfold InR; omega), w32_id (x := i + 1) (by unfold InR; omega)]
    simp (config := { proj := false }) only [qlet]
    refine ih g _ (i + 1) (by omega) (by omega) (by omega) (hF.setI (by unfold PtW; omega)) (fun c a b => ?_)
    have st := pnt_step (w := V 0 0) (x := x) (x2 := x2) (y := y) (j := j) (i := i) (c := c) (by omega) (by omega) x0 g1 (by omega) (by omega) y0 yj a
    by_cases q : c = j * V 0 0 + i
    · rw [if_pos (st.mpr (Or.inr q)), show 48 + c = 48 + j * V 0 0 + i by omega, sI_self]
    · rw [sI_ne (by omega), hc c a b]
      by_cases z : pnt (V 0 0) x x2 y j i c
      · rw [if_pos z, if_pos (st.mpr (Or.inl z))]
      · rw [if_neg z, if_neg (fun u => (st.mp u).elim z q)]
theorem m_part_L137 {M0 : Mem} {V : TV} {l wd x x2 y y2 : Int} (hL : LB M0 V l) (hP : POK V) (x0 : 0 ≤ x) (xx : x ≤ x2) (x2w : x2 ≤ V 0 0 - 1) (y0 : 0 ≤ y) (yy : y ≤ y2) (y2g : y2 ≤ V 0 1 - 1) (hwd : 0 ≤ wd ∧ wd < 4) (h6 : V 0 6 < 12) : ∀ (m : Nat) (fu : Nat) (M : Mem) (j : Int), j + (m : Int) = y2 + 1 → y ≤ j → m < fu → Fr PtW M0 M → (∀ c, 0 ≤ c → c < 48 → M.1 197 (48 + c) = if pnt (V 0 0) x x2 y j x c then wd + 1 else M0.1 197 (48 + c)) →
    ∃ N, t_MO_partLine_L137 fu M wd x x2 y2 j = some N ∧ Fr (fun k j => PtW k j ∨ (k = 193 ∧ j = 12)) M0 N ∧ N.1 193 12 = V 0 6 + 1 ∧ ∀ c, 0 ≤ c → c < 48 → N.1 197 (48 + c) = if (x ≤ c % V 0 0 ∧ c % V 0 0 ≤ x2 ∧ y ≤ c / V 0 0 ∧ c / V 0 0 ≤ y2) then wd + 1 else M0.1 197 (48 + c) := by
  have hv := hP.1.1
  have hq := hP.2.2
  intro m
  induction m with
  | zero =>
    intro fu M j g0 g1 g2 hF hc
    obtain ⟨g, rfl⟩ : ∃ g, fu = g + 1 := ⟨fu - 1, by omega⟩
    have e9 : M.1 193 (9 + 3) = V 0 6 := ((hF 193 (9 + 3) (by unfold PtW; omega)).1).trans (hL.1.sc (j := 12) (x := 6) (by omega))
    rw [t_MO_partLine_L137, if_pos (by omega), m_fresher (by omega) (by omega), obind_some, m_reads (by omega) (by omega), obind_some, e9, w32_id (x := V 0 6 + 1) (by unfold InR; omega)]
    refine ⟨setI M 193 12 (V 0 6 + 1), rfl, (hF.mono (fun k j z => Or.inl z)).setI (Or.inr ⟨rfl, rfl⟩), sI_self _ _ _ _, fun c a b => ?_⟩
    rw [sI_ne (by omega), hc c a b, show j = y2 + 1 by omega]
    by_cases q : (x ≤ c % V 0 0 ∧ c % V 0 0 ≤ x2 ∧ y ≤ c / V 0 0 ∧ c / V 0 0 ≤ y2)
    · rw [if_pos q, if_pos (Or.inl ⟨q.2.2.1, by omega, q.1, q.2.1⟩)]
    · rw [if_neg q, if_neg (fun z => q (by rcases z with z | z; · exact ⟨z.2.2.1, z.2.2.2, z.1, by omega⟩
                                           · omega))]
  | succ m ih =>
    intro fu M j g0 g1 g2 hF hc
    obtain ⟨g, rfl⟩ : ∃ g, fu = g + 1 := ⟨fu - 1, by omega⟩
    rw [t_MO_partLine_L137, if_neg (by omega)]
    obtain ⟨N, n1, n2, n3⟩ := m_part_L147 (bk := fun a0_ a1_ a2_ a3_ a4_ a5_ => t_MO_partLine_L137 g a0_ a1_ a2_ a3_ a4_ a5_) (y2 := y2) hL hP x0 xx x2w y0 hwd g1 (by omega) (x2 + 1 - x).toNat FU M x (by omega) (Int.le_refl _) (fu_big (by omega)) hF hc
    rw [n1]
    exact ih g N (j + 1) (by omega) (by omega) (by omega) n2 n3
theorem m_lnPart {M : Mem} {V : TV} {l : Int} {i : Nat} (h : TS M B n (i + 1)) (hL : LB M V l) (hT : TBw M V 2) (hP : POK V) (h6 : V 0 6 < 12) : LnO M B n l (lnPart B n V i) (t_MO_partLine M) := by
  have hv := hP.1.1
  have hq := hP.2.2
  have s := srt_name h.2.1 h.kok
  have e11 : ∀ N, Fr NF M N → N.1 193 (9 + 2) = V 0 2 := fun N q => ((q 193 (9 + 2) (by unfold NF; omega)).1).trans (hL.1.sc (j := 11) (x := 2) (by omega))
  have e9 : ∀ N, Fr NF M N → N.1 193 (9 + 0) = V 0 0 := fun N q => ((q 193 (9 + 0) (by unfold NF; omega)).1).trans (hL.1.sc (j := 9) (x := 0) (by omega))
  have e10 : ∀ N, Fr NF M N → N.1 193 (9 + 1) = V 0 1 := fun N q => ((q 193 (9 + 1) (by unfold NF; omega)).1).trans (hL.1.sc (j := 10) (x := 1) (by omega))
  unfold lnPart t_MO_partLine t_MO_partLine_L42
  simp (config := { proj := false }) only [qlet, m_fresher (show (0 : Int) ≤ 2 by omega) (show (2 : Int) < 9 by omega), m_fresher (show (0 : Int) ≤ 0 by omega) (show (0 : Int) < 9 by omega), m_fresher (show (0 : Int) ≤ 1 by omega) (show (1 : Int) < 9 by omega), obind_some]
  by_cases k : tK B n (i + 1) = 30
  · have hvv : M.1 191 23 = tW B n (i + 1) := h.2.1.2.2.2.2.1 k
    have hf := m_found0 (M := M) (r := 194) (N := 8) (x2 := 4) (x4 := tW B n (i + 1)) (len := (V 0 2).toNat) (by omega) (by omega) (by omega)
    rw [Int.toNat_of_nonneg (by omega)] at hf
    have e : fnd (fun b => M.1 194 (4 + (b : Int))) (tW B n (i + 1)) (V 0 2).toNat = fnd (fun a => V 1 (a : Int)) (tW B n (i + 1)) (V 0 2).toNat := by
      have : ∀ m : Nat, m ≤ (V 0 2).toNat → fnd (fun b => M.1 194 (4 + (b : Int))) (tW B n (i + 1)) m = fnd (fun a => V 1 (a : Int)) (tW B n (i + 1)) m := by
        intro m
        induction m with
        | zero => intro _; rfl
        | succ m ih => intro hm; rw [fnd, fnd, ih (by omega), (hL.1.2.1 (m : Int) (by omega) (by omega)).1]
      exact this _ (Nat.le_refl _)
    rw [e] at hf
    rw [if_neg (fun q => q k), if_pos (s.mpr k), e11 M Fr.rf, hvv, hf, obind_some]
    cases ef : fnd (fun a => V 1 (a : Int)) (tW B n (i + 1)) (V 0 2).toNat with
    | none =>
      obtain ⟨w1, w2⟩ := h.wrong (k := 4) (by decide)
      rw [if_pos (show fI none = -1 from rfl), if_neg w2.nz]
      exact LnO.bad (w1.mono NF_StW) w2
    | some wd =>
      have hwd := (fnd_some ef).1
      rw [if_neg (show ¬ fI (some wd) = -1 by show ¬ (wd : Int) = -1; omega), if_pos h.2.2, obind_some]
      have efi : fI (some wd) = (wd : Int) := rfl
      rw [efi]
      obtain ⟨N0, t1, t2, t3⟩ := h.next
      rw [t1, obind_some, e9 N0 t2, w32_id (x := V 0 0 - 1) (by unfold InR; omega)]
      show LnO M B n l (if ¬ nuS B n (i + 2) 0 (V 0 0 - 1) = 0 then _ else _) _
      -- what is left once a fault stands
      rcases m_numeral t3 (lo := 0) (hi := V 0 0 - 1) (by omega) (by omega) (by omega) with ⟨a0, a1, N1, n1, n2, n3⟩ | ⟨N1, n1, n2, n3⟩
      · have f1 := t2.trans n2
        have a1 : 0 ≤ tW B n (i + 2) ∧ tW B n (i + 2) ≤ V 0 0 - 1 := a1
        rw [if_neg (fun q => q a0), n1, obind_some]
        show LnO M B n l _ (obind (t_MO_numeral N1 0 (w32 (N1.1 193 (9 + 1) - 1))) _)
        rw [e10 N1 f1, w32_id (x := V 0 1 - 1) (by unfold InR; omega)]
        rcases m_numeral n3 (lo := 0) (hi := V 0 1 - 1) (by omega) (by omega) (by omega) with ⟨b0, b1, N2, p1, p2, p3⟩ | ⟨N2, p1, p2, p3⟩
        · have f2 := f1.trans p2
          have b1 : 0 ≤ tW B n (i + 3) ∧ tW B n (i + 3) ≤ V 0 1 - 1 := b1
          rw [if_neg (fun q => q b0), p1, obind_some]
          show LnO M B n l _ (obind (t_MO_numeral N2 (tW B n (i + 2)) (w32 (N2.1 193 (9 + 0) - 1))) _)
          rw [e9 N2 f2, w32_id (x := V 0 0 - 1) (by unfold InR; omega)]
          rcases m_numeral p3 (lo := tW B n (i + 2)) (hi := V 0 0 - 1) (by omega) (by omega) (by omega) with ⟨c0, c1, N3, q1, q2, q3⟩ | ⟨N3, q1, q2, q3⟩
          · have f3 := f2.trans q2
            have c1 : tW B n (i + 2) ≤ tW B n (i + 4) ∧ tW B n (i + 4) ≤ V 0 0 - 1 := c1
            rw [if_neg (fun q => q c0), q1, obind_some]
            show LnO M B n l _ (obind (t_MO_numeral N3 (tW B n (i + 3)) (w32 (N3.1 193 (9 + 1) - 1))) _)
            rw [e10 N3 f3, w32_id (x := V 0 1 - 1) (by unfold InR; omega)]
            rcases m_numeral q3 (lo := tW B n (i + 3)) (hi := V 0 1 - 1) (by omega) (by omega) (by omega) with ⟨d0, d1, N4, r1, r2, r3⟩ | ⟨N4, r1, r2, r3⟩
            · have f4 := f3.trans r2
              have d1 : tW B n (i + 3) ≤ tW B n (i + 5) ∧ tW B n (i + 5) ≤ V 0 1 - 1 := d1
              have hL4 := hL.nf f4
              rw [if_neg (fun q => q d0), r1, obind_some]
              show LnO M B n l _ (if N4.1 191 24 = 0 then t_MO_partLine_L137 FU N4 (wd : Int) (tW B n (i + 2)) (tW B n (i + 4)) (tW B n (i + 5)) (tW B n (i + 3)) else some N4)
              rw [if_pos r3.2.2]
              obtain ⟨N, o1, o2, o3, o4⟩ := m_part_L137 (wd := (wd : Int)) (x := tW B n (i + 2)) (x2 := tW B n (i + 4)) (y := tW B n (i + 3)) (y2 := tW B n (i + 5)) hL4 hP a1.1 c1.1 c1.2 b1.1 d1.1 d1.2 (by omega) h6 (tW B n (i + 5) + 1 - tW B n (i + 3)).toNat FU N4 (tW B n (i + 3)) (by omega) (Int.le_refl _) (fu_big (by omega)) Fr.rf (fun c a b => by
                rw [if_neg (fun z => by rcases z with z | z <;> omega)])
              have fin : Fr StW M N := (f4.mono NF_StW).trans (o2.mono (fun k j z => by unfold PtW at z; unfold StW; omega))
              have e2 : ∀ k j, LBc k j → ¬ (PtW k j ∨ (k = 193 ∧ j = 12)) → N.1 k j = M.1 k j := fun k j a b => ((o2 k j b).1).trans (f4 k j (NF_LBc k j a)).1
              refine ⟨N, o1, fin, Or.inl ⟨rfl, r3.fr o2 (fun k j a z => by unfold PtW at z; omega), ?_, ?_⟩⟩
              · refine hL.upd e2 (fun k j z => by unfold PtW at z; omega) (fun j x hj => ?_) (fun w a b => ?_) (fun t a b => ?_) (fun c a b => ?_) rfl rfl rfl (fun r i hr => ?_)
                · show _ = setV (ptV V (tW B n (i + 2)) (tW B n (i + 3)) (tW B n (i + 4)) (tW B n (i + 5)) (wd : Int)) 0 6 (V 0 6 + 1) 0 x
                  by_cases z : j = 12
                  · have hx : x = 6 := by omega
                    subst z; subst hx
                    rw [o3, setV_self]
                  · rw [e2 193 j (by unfold LBc; omega) (by unfold PtW; omega), setV_ne _ _ (by omega)]
                    exact (hL.1.sc hj).trans (by unfold ptV; rw [if_neg (fun q => by omega)])
                · rw [e2 194 _ (by unfold LBc; omega) (by unfold PtW; omega), e2 195 _ (by unfold LBc; omega) (by unfold PtW; omega), e2 196 _ (by unfold LBc; omega) (by unfold PtW; omega)]
                  exact hL.1.2.1 w a b
                · rw [e2 200 _ (by unfold LBc; omega) (by unfold PtW; omega), e2 201 _ (by unfold LBc; omega) (by unfold PtW; omega), e2 202 _ (by unfold LBc; omega) (by unfold PtW; omega)]
                  exact hL.1.2.2.1 t a b
                · have z := hL4.1.2.2.2 c a b
                  have z0 := hL.1.2.2.2 c a b
                  rw [e2 198 _ (by unfold LBc; omega) (by unfold PtW; omega), e2 199 _ (by unfold LBc; omega) (by unfold PtW; omega), o4 c a b, z.1]
                  refine ⟨?_, z0.2⟩
                  show _ = setV (ptV V (tW B n (i + 2)) (tW B n (i + 3)) (tW B n (i + 4)) (tW B n (i + 5)) (wd : Int)) 0 6 (V 0 6 + 1) 7 c + 1
                  rw [setV_ne _ _ (by omega)]
                  unfold ptV
                  by_cases y : (tW B n (i + 2) ≤ c % V 0 0 ∧ c % V 0 0 ≤ tW B n (i + 4) ∧ tW B n (i + 3) ≤ c / V 0 0 ∧ c / V 0 0 ≤ tW B n (i + 5))
                  · rw [if_pos y, if_pos ⟨rfl, y⟩]
                  · rw [if_neg y, if_neg (fun q => y q.2)]
                · show setV (ptV V (tW B n (_ + 2)) (tW B n (_ + 3)) (tW B n (_ + 4)) (tW B n (_ + 5)) (wd : Int)) 0 6 (V 0 6 + 1) r i = V r i
                  rw [setV_ne _ _ (by omega)]
                  unfold ptV
                  rw [if_neg (fun q => by omega)]
              · refine hT.done fin ?_ (td_of (kw := 6) (fun k a b => ?_) (by omega) (fun _ => ?_))
                · rw [(o2 191 17 (by unfold PtW; omega)).1, nf17 f4]
                · show setV (ptV V (tW B n (i + 2)) (tW B n (i + 3)) (tW B n (i + 4)) (tW B n (i + 5)) (wd : Int)) 0 6 (V 0 6 + 1) 0 k = V 0 k
                  rw [setV_ne _ _ (by omega)]
                  unfold ptV
                  rw [if_neg (fun q => by omega)]
                · show decide (0 < setV (ptV V (tW B n (i + 2)) (tW B n (i + 3)) (tW B n (i + 4)) (tW B n (i + 5)) (wd : Int)) 0 6 (V 0 6 + 1) 0 6) = true
                  rw [setV_self]; exact decide_eq_true (by omega)
            · rw [if_pos r3.1, r1, obind_some]
              show LnO M B n l _ (if N4.1 191 24 = 0 then _ else some N4)
              rw [if_neg r3.nz]
              exact LnO.bad ((f3.trans r2).mono NF_StW) r3
          · rw [if_pos q3.1, q1, obind_some]
            show LnO M B n l _ (obind (t_MO_numeral N3 (tW B n (i + 3)) (w32 (N3.1 193 (9 + 1) - 1))) _)
            rw [flt_numeral q3.nz, obind_some]
            show LnO M B n l _ (if N3.1 191 24 = 0 then _ else some N3)
            rw [if_neg q3.nz]
            exact LnO.bad ((f2.trans q2).mono NF_StW) q3
        · rw [if_pos p3.1, p1, obind_some]
          show LnO M B n l _ (obind (t_MO_numeral N2 (tW B n (i + 2)) (w32 (N2.1 193 (9 + 0) - 1))) _)
          rw [flt_numeral p3.nz, obind_some]
          show LnO M B n l _ (obind (t_MO_numeral N2 0 (w32 (N2.1 193 (9 + 1) - 1))) _)
          rw [flt_numeral p3.nz, obind_some]
          show LnO M B n l _ (if N2.1 191 24 = 0 then _ else some N2)
          rw [if_neg p3.nz]
          exact LnO.bad ((f1.trans p2).mono NF_StW) p3
      · rw [if_pos n3.1, n1, obind_some]
        show LnO M B n l _ (obind (t_MO_numeral N1 0 (w32 (N1.1 193 (9 + 1) - 1))) _)
        rw [flt_numeral n3.nz, obind_some]
        show LnO M B n l _ (obind (t_MO_numeral N1 0 (w32 (N1.1 193 (9 + 0) - 1))) _)
        rw [flt_numeral n3.nz, obind_some]
        show LnO M B n l _ (obind (t_MO_numeral N1 0 (w32 (N1.1 193 (9 + 1) - 1))) _)
        rw [flt_numeral n3.nz, obind_some]
        show LnO M B n l _ (if N1.1 191 24 = 0 then _ else some N1)
        rw [if_neg n3.nz]
        exact LnO.bad ((t2.trans n2).mono NF_StW) n3
  · obtain ⟨w1, w2⟩ := h.wrong (k := 1) (by decide)
    rw [if_pos k, if_neg (fun z => k (s.mp z)), if_neg w2.nz]
    exact LnO.bad (w1.mono NF_StW) w2
end LP
