/-! ===== lines: one line -/
section LI
variable {B : Int → Int} {n : Int}
/-- the outcome of a line and its end -/
def LnE (M : Mem) (B : Int → Int) (n l : Int) (r : LR) (x : Option Mem) : Prop := ∃ N, x = some N ∧ Fr StW M N ∧ ((r.1 = 0 ∧ TS N B n r.2.2.1 ∧ LB N r.2.2.2 (l + 1) ∧ TBd N r.2.2.2) ∨ (¬ r.1 = 0 ∧ N.1 191 24 = r.1 ∧ N.1 191 25 = r.2.1))
theorem LnE.bad {M N : Mem} {l : Int} {r : LR} (hF : Fr StW M N) (h : FS N r.1 r.2.1) : LnE M B n l r (some N) := ⟨N, rfl, hF, Or.inr h⟩
theorem le_bad {V : TV} {i : Nat} {r : LR} (e : lnS B n V i = r) (h : ¬ r.1 = 0) : leS B n V i = r := by
  unfold leS
  rw [e, if_pos h]
theorem m_L274 {M N : Mem} {V : TV} {l : Int} {i : Nat} {r : LR} (l0 : 0 ≤ l) (l1 : l ≤ 1000) (e : lnS B n V i = r) (h : LnO M B n l r (some N)) : LnE M B n l (leS B n V i) (t_MO_line_L274 N) := by
  obtain ⟨N', e', hF, h⟩ := h
  have e' : N = N' := Option.some.inj e'
  subst e'
  unfold t_MO_line_L274
  rcases h with ⟨z, hts, hlb, htb⟩ | ⟨z, a, b⟩
  · have s := srt_sign hts.2.1 hts.kok 40 (by omega) (by omega)
    have el : leS B n V i = if tK B n r.2.2.1 = 40 then (0, 0, r.2.2.1 + 1, r.2.2.2) else (1, tP B n r.2.2.1, 0, V) := by
      unfold leS
      rw [e, if_neg (fun q => q z)]
    rw [if_pos hts.2.2, el]
    simp (config := { proj := false }) only [qlet]
    have hs : t_MO_isSign N 59 = if tK B n r.2.2.1 = 40 then 1 else 0 := by
      unfold t_MO_isSign
      rw [if_pos hts.2.2]
      by_cases k : tK B n r.2.2.1 = 40
      · have q := s.mpr k
        rw [if_pos q.1, if_pos (show N.1 191 23 = 59 from q.2), if_pos k]
      · rw [if_neg k]
        by_cases q : N.1 191 22 = 3
        · rw [if_pos q, if_neg (fun y : N.1 191 23 = 59 => k (s.mp ⟨q, y⟩))]
        · rw [if_neg q]
    rw [hs]
    have bump : ∀ P : Mem, P.1 191 18 = l → t_MO_line_L303 P = some (setI P 191 18 (l + 1)) := by
      intro P hp
      unfold t_MO_line_L303
      rw [hp, w32_id (x := l + 1) (by unfold InR; omega)]
    by_cases k : tK B n r.2.2.1 = 40
    · rw [if_pos k, if_pos k, if_neg (show ¬ (1 : Int) = 0 by decide)]
      obtain ⟨P, p1, p2, p3⟩ := hts.next
      have lb := hlb.nf p2
      rw [p1, obind_some, bump P lb.2.2.2.2]
      have hFa : Fr (fun k j => k = 191 ∧ j = 18) P (setI P 191 18 (l + 1)) := Fr.rf.setI ⟨rfl, rfl⟩
      refine ⟨_, rfl, (hF.trans (p2.mono NF_StW)).trans (hFa.mono (fun k j z => by unfold StW; omega)), Or.inl ⟨rfl, p3.fr hFa (fun k j a z => by omega), ⟨?_, ⟨?_, ?_⟩, ?_, ?_, sI_self _ _ _ _⟩, ?_⟩⟩
      · exact lb.1.fr hFa (fun k j a b z => by omega)
      · exact lb.2.1.1.fr hFa (fun k j a b z => by omega)
      · exact lb.2.1.2.fr hFa (fun k j a b z => by omega)
      · rw [sI_ne (by omega)]; exact lb.2.2.1
      · rw [sI_ne (by omega)]; exact lb.2.2.2.1
      · intro x hx
        rw [sI_ne (by omega), nf17 p2]
        exact htb x hx
    · obtain ⟨w1, w2⟩ := hts.wrong (k := 1) (by decide)
      rw [if_neg k, if_neg k, if_pos rfl, bump _ (hlb.nf w1).2.2.2.2]
      have hFa : Fr (fun k j => k = 191 ∧ j = 18) (t_MO_wrong N 1) (setI (t_MO_wrong N 1) 191 18 (l + 1)) := Fr.rf.setI ⟨rfl, rfl⟩
      exact LnE.bad ((hF.trans (w1.mono NF_StW)).trans (hFa.mono (fun k j z => by unfold StW; omega))) (w2.fr hFa (fun k j a b z => by omega))
  · rw [if_neg (show ¬ N.1 191 24 = 0 by rw [a]; exact z), le_bad e z]
    exact LnE.bad hF ⟨z, a, b⟩
theorem fr_of {M : Mem} {V : TV} {l x y : Int} (hL : LB M V l) (h : scp (9 + x) y) : t_MO_fresher M x = some (V 0 y) := by
  rw [m_fresher (by omega) (by omega), hL.1.sc h]
theorem m_isFull {M : Mem} {V : TV} {l : Int} (hL : LB M V l) (w : Int) : t_MO_isFull M w = some (if (w = 1 ∧ V 0 2 = 4) ∨ (w = 2 ∧ V 0 6 = 12) ∨ (w = 3 ∧ V 0 7 = 12) ∨ (w = 4 ∧ V 0 8 = 8) ∨ (w = 5 ∧ V 0 3 = 8) then 1 else 0) := by
  unfold t_MO_isFull t_MO_isFull_L14 t_MO_isFull_L29 t_MO_isFull_L44 t_MO_isFull_L59
  rw [fr_of hL (x := 2) (y := 2) (by omega), fr_of hL (x := 3) (y := 6) (by omega), fr_of hL (x := 4) (y := 7) (by omega), fr_of hL (x := 5) (y := 8) (by omega), fr_of hL (x := 6) (y := 3) (by omega)]
  simp only [obind_some]
  (repeat' split) <;> first | rfl | (exfalso; omega)
theorem line_pre {M : Mem} {V : TV} {l w : Int} {i : Nat} (h : TS M B n i) (hL : LB M V l) (hT : TBd M V) (w0 : 0 ≤ w) (w1 : w ≤ 7) : ∃ N1, t_MO_token (setI M 191 17 (q_or (M.1 191 17) (q_shl 1 w))) = some N1 ∧ Fr StW M N1 ∧ TS N1 B n (i + 1) ∧ LB N1 V l ∧ TBw N1 V w := by
  have hFa : Fr (fun k j => k = 191 ∧ j = 17) M (setI M 191 17 (q_or (M.1 191 17) (q_shl 1 w))) := Fr.rf.setI ⟨rfl, rfl⟩
  have ta : TS (setI M 191 17 (q_or (M.1 191 17) (q_shl 1 w))) B n i := h.fr hFa (fun k j a z => by omega)
  have la : LB (setI M 191 17 (q_or (M.1 191 17) (q_shl 1 w))) V l := hL.fr hFa (fun k j a z => by unfold LBc at a; omega)
  obtain ⟨N, t1, t2, t3⟩ := ta.next
  refine ⟨N, t1, (hFa.mono (fun k j z => by unfold StW; omega)).trans (t2.mono NF_StW), t3, la.nf t2, fun x hx => ?_⟩
  rw [nf17 t2, sI_self, told_or w0 (by omega) (by omega) (by omega), hT x hx]
theorem LnO.ofE {M N : Mem} {l : Int} {r : LR} {x : Option Mem} (hF : Fr StW M N) (h : LnO N B n l r x) : ∃ P, x = some P ∧ LnO M B n l r (some P) := by
  obtain ⟨P, p1, p2, p3⟩ := h
  exact ⟨P, p1, P, rfl, hF.trans p2, p3⟩
theorem flt_L110 {M : Mem} (h : ¬ M.1 191 24 = 0) (w : Int) : t_MO_line_L110 M w = some M := by unfold t_MO_line_L110; rw [if_neg h]
theorem m_aLine {M : Mem} {V : TV} {l : Int} {i : Nat} (h : TS M B n i) (hL : LB M V l) (hT : TBd M V) (hP : POK V) (l0 : 0 ≤ l) (l1 : l ≤ 1000) : LnE M B n l (leS B n V i) (t_MO_line M) := by
  have hkk := h.kok
  have hv := hP.1.1
  have hq := hP.2.2
  unfold t_MO_line
  by_cases k8 : tK B n i ≤ 7
  · have sw := (srt_word h.2.1 hkk (tK B n i) (by omega) (by omega)).mpr rfl
    rw [if_pos sw.1, sw.2, if_pos k8, m_isFull hL, obind_some]
    simp (config := { proj := false }) only [qlet]
    have told : ∀ x, tdx x → t_MO_isTold M x = if td V x = true then 1 else 0 := fun x hx => by rw [m_isTold M (by omega) (by omega), hT x hx]
    have bad : ∀ f, ¬ f = 0 → lnS B n V i = (f, tP B n i, 0, V) → ∀ w, LnE M B n l (leS B n V i) (t_MO_line_L110 (t_MO_wrong M f) w) := by
      intro f hf e w
      obtain ⟨w1, w2⟩ := h.wrong hf
      rw [flt_L110 w2.nz, le_bad e hf]
      exact LnE.bad (w1.mono NF_StW) w2
    have hw : tK B n i = 0 ∨ tK B n i = 1 ∨ tK B n i = 2 ∨ tK B n i = 3 ∨ tK B n i = 4 ∨ tK B n i = 5 ∨ tK B n i = 6 ∨ tK B n i = 7 := by omega
    have lnE : lnS B n V i = if tK B n i = 0 then (if V 0 13 = 1 then (3, tP B n i, 0, V) else if 0 < V 0 6 ∨ 0 < V 0 7 ∨ 0 < V 0 8 ∨ 0 < V 0 3 then (4, tP B n i, 0, V) else lnTown B n V i)
      else if tK B n i = 1 then (if V 0 2 = 4 then (2, tP B n i, 0, V) else lnWard B n V i)
      else if tK B n i = 2 then (if V 0 6 = 12 then (2, tP B n i, 0, V) else lnPart B n V i)
      else if tK B n i = 3 then (if V 0 7 = 12 then (2, tP B n i, 0, V) else lnWall B n V i)
      else if tK B n i = 4 then (if V 0 8 = 8 then (2, tP B n i, 0, V) else lnStair B n V i)
      else if tK B n i = 5 then (if V 0 3 = 8 then (2, tP B n i, 0, V) else lnThing B n V i)
      else if tK B n i = 6 then (if V 0 14 = 1 then (3, tP B n i, 0, V) else lnSeed B n V i)
      else if tK B n i = 7 then lnLaw B n V i
      else (1, tP B n i, 0, V) := rfl
    rcases hw with k | k | k | k | k | k | k | k
    · rw [k] at lnE ⊢
      rw [if_pos rfl] at lnE
      rw [if_neg (show ¬ (((0 : Int) = 1 ∧ V 0 2 = 4) ∨ ((0 : Int) = 2 ∧ V 0 6 = 12) ∨ ((0 : Int) = 3 ∧ V 0 7 = 12) ∨ ((0 : Int) = 4 ∧ V 0 8 = 8) ∨ ((0 : Int) = 5 ∧ V 0 3 = 8)) by omega), if_pos rfl, if_pos rfl]
      unfold t_MO_line_L53 t_MO_line_L69 t_MO_line_L105
      simp (config := { proj := false }) only [qlet]
      rw [told 0 (by omega), told 2 (by omega), told 3 (by omega), told 4 (by omega), told 5 (by omega), show td V 0 = decide (V 0 13 = 1) from rfl, show td V 2 = decide (0 < V 0 6) from rfl, show td V 3 = decide (0 < V 0 7) from rfl, show td V 4 = decide (0 < V 0 8) from rfl, show td V 5 = decide (0 < V 0 3) from rfl]
      by_cases c : V 0 13 = 1
      · rw [if_pos c] at lnE
        rw [decide_eq_true c, if_neg (show ¬ (if true = true then (1 : Int) else 0) = 0 by decide)]
        exact bad 3 (by decide) lnE 0
      · rw [if_neg c] at lnE
        rw [decide_eq_false c, if_pos (show (if false = true then (1 : Int) else 0) = 0 from rfl), if_pos trivial]
        by_cases c2 : 0 < V 0 6
        · rw [if_pos (Or.inl c2)] at lnE
          rw [decide_eq_true c2, if_neg (show ¬ (if true = true then (1 : Int) else 0) = 0 by decide)]
          exact bad 4 (by decide) lnE 0
        · rw [decide_eq_false c2, if_pos (show (if false = true then (1 : Int) else 0) = 0 from rfl)]
          by_cases c3 : 0 < V 0 7
          · rw [if_pos (Or.inr (Or.inl c3))] at lnE
            rw [decide_eq_true c3, if_neg (show ¬ (if true = true then (1 : Int) else 0) = 0 by decide)]
            exact bad 4 (by decide) lnE 0
          · rw [decide_eq_false c3, if_pos (show (if false = true then (1 : Int) else 0) = 0 from rfl)]
            by_cases c4 : 0 < V 0 8
            · rw [if_pos (Or.inr (Or.inr (Or.inl c4)))] at lnE
              rw [decide_eq_true c4, if_neg (show ¬ (if true = true then (1 : Int) else 0) = 0 by decide)]
              exact bad 4 (by decide) lnE 0
            · rw [decide_eq_false c4, if_pos (show (if false = true then (1 : Int) else 0) = 0 from rfl)]
              by_cases c5 : 0 < V 0 3
              · rw [if_pos (Or.inr (Or.inr (Or.inr c5)))] at lnE
                rw [decide_eq_true c5, if_neg (show ¬ (if true = true then (1 : Int) else 0) = 0 by decide)]
                exact bad 4 (by decide) lnE 0
              · rw [if_neg (by omega)] at lnE
                rw [decide_eq_false c5, if_pos (show (if false = true then (1 : Int) else 0) = 0 from rfl)]
                obtain ⟨N1, p1, p2, p3, p4, p5⟩ := line_pre (w := 0) h hL hT (by omega) (by omega)
                obtain ⟨N, q1, q2⟩ := m_lnTown p3 p4 p5 hP (by omega)
                unfold t_MO_line_L110
                simp (config := { proj := false }) only [qlet]
                rw [if_pos h.2.2, p1, obind_some, if_pos trivial, q1]
                exact m_L274 l0 l1 lnE (LnO.from p2 q2)
    · rw [k] at lnE ⊢
      rw [if_neg (by decide), if_pos rfl] at lnE
      by_cases c : V 0 2 = 4
      · rw [if_pos c] at lnE
        rw [if_pos (Or.inl ⟨rfl, c⟩), if_neg (by decide)]
        exact bad 2 (by decide) lnE 1
      · rw [if_neg c] at lnE
        rw [if_neg (show ¬ (((1 : Int) = 1 ∧ V 0 2 = 4) ∨ ((1 : Int) = 2 ∧ V 0 6 = 12) ∨ ((1 : Int) = 3 ∧ V 0 7 = 12) ∨ ((1 : Int) = 4 ∧ V 0 8 = 8) ∨ ((1 : Int) = 5 ∧ V 0 3 = 8)) by omega), if_pos rfl, if_neg (by decide), if_neg (by decide)]
        unfold t_MO_line_L69
        rw [if_neg (by decide)]
        obtain ⟨N1, p1, p2, p3, p4, p5⟩ := line_pre (w := 1) h hL hT (by omega) (by omega)
        obtain ⟨N, q1, q2⟩ := LnO.ofE p2 (m_lnWard p3 p4 p5 hP (by omega))
        unfold t_MO_line_L110
        simp (config := { proj := false }) only [qlet]
        rw [if_pos h.2.2, p1, obind_some, if_neg (by decide), if_pos trivial, fr_of p4 (x := 2) (y := 2) (by omega), obind_some, q1, obind_some]
        exact m_L274 l0 l1 lnE q2
    · rw [k] at lnE ⊢
      rw [if_neg (by decide), if_neg (by decide), if_pos rfl] at lnE
      by_cases c : V 0 6 = 12
      · rw [if_pos c] at lnE
        rw [if_pos (Or.inr (Or.inl ⟨rfl, c⟩)), if_neg (by decide)]
        exact bad 2 (by decide) lnE 2
      · rw [if_neg c] at lnE
        rw [if_neg (show ¬ (((2 : Int) = 1 ∧ V 0 2 = 4) ∨ ((2 : Int) = 2 ∧ V 0 6 = 12) ∨ ((2 : Int) = 3 ∧ V 0 7 = 12) ∨ ((2 : Int) = 4 ∧ V 0 8 = 8) ∨ ((2 : Int) = 5 ∧ V 0 3 = 8)) by omega), if_pos rfl, if_neg (by decide), if_neg (by decide)]
        unfold t_MO_line_L69
        rw [if_neg (by decide)]
        obtain ⟨N1, p1, p2, p3, p4, p5⟩ := line_pre (w := 2) h hL hT (by omega) (by omega)
        obtain ⟨N, q1, q2⟩ := LnO.ofE p2 (m_lnPart p3 p4 p5 hP (by omega))
        unfold t_MO_line_L110
        simp (config := { proj := false }) only [qlet]
        rw [if_pos h.2.2, p1, obind_some, if_neg (by decide), if_neg (by decide), if_pos trivial, q1, obind_some]
        exact m_L274 l0 l1 lnE q2
    · rw [k] at lnE ⊢
      rw [if_neg (by decide), if_neg (by decide), if_neg (by decide), if_pos rfl] at lnE
      by_cases c : V 0 7 = 12
      · rw [if_pos c] at lnE
        rw [if_pos (Or.inr (Or.inr (Or.inl ⟨rfl, c⟩))), if_neg (by decide)]
        exact bad 2 (by decide) lnE 3
      · rw [if_neg c] at lnE
        rw [if_neg (show ¬ (((3 : Int) = 1 ∧ V 0 2 = 4) ∨ ((3 : Int) = 2 ∧ V 0 6 = 12) ∨ ((3 : Int) = 3 ∧ V 0 7 = 12) ∨ ((3 : Int) = 4 ∧ V 0 8 = 8) ∨ ((3 : Int) = 5 ∧ V 0 3 = 8)) by omega), if_pos rfl, if_neg (by decide), if_neg (by decide)]
        unfold t_MO_line_L69
        rw [if_neg (by decide)]
        obtain ⟨N1, p1, p2, p3, p4, p5⟩ := line_pre (w := 3) h hL hT (by omega) (by omega)
        obtain ⟨N, q1, q2⟩ := LnO.ofE p2 (m_lnWall p3 p4 p5 hP (by omega))
        unfold t_MO_line_L110
        simp (config := { proj := false }) only [qlet]
        rw [if_pos h.2.2, p1, obind_some, if_neg (by decide), if_neg (by decide), if_neg (by decide), if_pos trivial, q1, obind_some]
        exact m_L274 l0 l1 lnE q2
    · rw [k] at lnE ⊢
      rw [if_neg (by decide), if_neg (by decide), if_neg (by decide), if_neg (by decide), if_pos rfl] at lnE
      by_cases c : V 0 8 = 8
      · rw [if_pos c] at lnE
        rw [if_pos (Or.inr (Or.inr (Or.inr (Or.inl ⟨rfl, c⟩)))), if_neg (by decide)]
        exact bad 2 (by decide) lnE 4
      · rw [if_neg c] at lnE
        rw [if_neg (show ¬ (((4 : Int) = 1 ∧ V 0 2 = 4) ∨ ((4 : Int) = 2 ∧ V 0 6 = 12) ∨ ((4 : Int) = 3 ∧ V 0 7 = 12) ∨ ((4 : Int) = 4 ∧ V 0 8 = 8) ∨ ((4 : Int) = 5 ∧ V 0 3 = 8)) by omega), if_pos rfl, if_neg (by decide), if_neg (by decide)]
        unfold t_MO_line_L69
        rw [if_neg (by decide)]
        obtain ⟨N1, p1, p2, p3, p4, p5⟩ := line_pre (w := 4) h hL hT (by omega) (by omega)
        obtain ⟨N, q1, q2⟩ := LnO.ofE p2 (m_lnStair p3 p4 p5 hP (by omega))
        unfold t_MO_line_L110
        simp (config := { proj := false }) only [qlet]
        rw [if_pos h.2.2, p1, obind_some, if_neg (by decide), if_neg (by decide), if_neg (by decide), if_neg (by decide), if_pos trivial, q1, obind_some]
        exact m_L274 l0 l1 lnE q2
    · rw [k] at lnE ⊢
      rw [if_neg (by decide), if_neg (by decide), if_neg (by decide), if_neg (by decide), if_neg (by decide), if_pos rfl] at lnE
      by_cases c : V 0 3 = 8
      · rw [if_pos c] at lnE
        rw [if_pos (Or.inr (Or.inr (Or.inr (Or.inr ⟨rfl, c⟩)))), if_neg (by decide)]
        exact bad 2 (by decide) lnE 5
      · rw [if_neg c] at lnE
        rw [if_neg (show ¬ (((5 : Int) = 1 ∧ V 0 2 = 4) ∨ ((5 : Int) = 2 ∧ V 0 6 = 12) ∨ ((5 : Int) = 3 ∧ V 0 7 = 12) ∨ ((5 : Int) = 4 ∧ V 0 8 = 8) ∨ ((5 : Int) = 5 ∧ V 0 3 = 8)) by omega), if_pos rfl, if_neg (by decide), if_neg (by decide)]
        unfold t_MO_line_L69
        rw [if_neg (by decide)]
        obtain ⟨N1, p1, p2, p3, p4, p5⟩ := line_pre (w := 5) h hL hT (by omega) (by omega)
        obtain ⟨N, q1, q2⟩ := LnO.ofE p2 (m_lnThing p3 p4 p5 hP (by omega))
        unfold t_MO_line_L110
        simp (config := { proj := false }) only [qlet]
        rw [if_pos h.2.2, p1, obind_some, if_neg (by decide), if_neg (by decide), if_neg (by decide), if_neg (by decide), if_neg (by decide), if_pos trivial, fr_of p4 (x := 6) (y := 3) (by omega), obind_some, q1, obind_some]
        exact m_L274 l0 l1 lnE q2
    · rw [k] at lnE ⊢
      rw [if_neg (by decide), if_neg (by decide), if_neg (by decide), if_neg (by decide), if_neg (by decide), if_neg (by decide), if_pos rfl] at lnE
      rw [if_neg (show ¬ (((6 : Int) = 1 ∧ V 0 2 = 4) ∨ ((6 : Int) = 2 ∧ V 0 6 = 12) ∨ ((6 : Int) = 3 ∧ V 0 7 = 12) ∨ ((6 : Int) = 4 ∧ V 0 8 = 8) ∨ ((6 : Int) = 5 ∧ V 0 3 = 8)) by omega), if_pos rfl, if_neg (by decide), if_pos rfl]
      unfold t_MO_line_L53 t_MO_line_L69
      simp (config := { proj := false }) only [qlet]
      rw [told 6 (by omega), show td V 6 = decide (V 0 14 = 1) from rfl]
      by_cases c : V 0 14 = 1
      · rw [if_pos c] at lnE
        rw [decide_eq_true c, if_neg (show ¬ (if true = true then (1 : Int) else 0) = 0 by decide)]
        exact bad 3 (by decide) lnE 6
      · rw [if_neg c] at lnE
        rw [decide_eq_false c, if_pos (show (if false = true then (1 : Int) else 0) = 0 from rfl), if_neg (by decide)]
        obtain ⟨N1, p1, p2, p3, p4, p5⟩ := line_pre (w := 6) h hL hT (by omega) (by omega)
        obtain ⟨N, q1, q2⟩ := m_lnSeed p3 p4 p5 hP
        unfold t_MO_line_L110
        simp (config := { proj := false }) only [qlet]
        rw [if_pos h.2.2, p1, obind_some, if_neg (by decide), if_neg (by decide), if_neg (by decide), if_neg (by decide), if_neg (by decide), if_neg (by decide), if_pos trivial, q1]
        exact m_L274 l0 l1 lnE (LnO.from p2 q2)
    · rw [k] at lnE ⊢
      rw [if_neg (by decide), if_neg (by decide), if_neg (by decide), if_neg (by decide), if_neg (by decide), if_neg (by decide), if_neg (by decide), if_pos rfl] at lnE
      rw [if_neg (show ¬ (((7 : Int) = 1 ∧ V 0 2 = 4) ∨ ((7 : Int) = 2 ∧ V 0 6 = 12) ∨ ((7 : Int) = 3 ∧ V 0 7 = 12) ∨ ((7 : Int) = 4 ∧ V 0 8 = 8) ∨ ((7 : Int) = 5 ∧ V 0 3 = 8)) by omega), if_pos rfl, if_neg (by decide), if_neg (by decide)]
      unfold t_MO_line_L69
      rw [if_neg (by decide)]
      obtain ⟨N1, p1, p2, p3, p4, p5⟩ := line_pre (w := 7) h hL hT (by omega) (by omega)
      obtain ⟨N, q1, q2⟩ := LnO.ofE p2 (m_lnLaw p3 p4 p5 hP)
      unfold t_MO_line_L110
      simp (config := { proj := false }) only [qlet]
      rw [if_pos h.2.2, p1, obind_some, if_neg (by decide), if_neg (by decide), if_neg (by decide), if_neg (by decide), if_neg (by decide), if_neg (by decide), if_neg (by decide), q1, obind_some]
      exact m_L274 l0 l1 lnE q2
  · have e : lnS B n V i = (1, tP B n i, 0, V) := by
      unfold lnS
      rw [if_neg (by omega), if_neg (by omega), if_neg (by omega), if_neg (by omega), if_neg (by omega), if_neg (by omega), if_neg (by omega), if_neg (by omega)]
    obtain ⟨w1, w2⟩ := h.wrong (k := 1) (by decide)
    have fin : LnE M B n l (leS B n V i) (t_MO_line_L16 M) := by
      rw [le_bad e (show ¬ (1 : Int) = 0 by decide)]
      exact LnE.bad (w1.mono NF_StW) w2
    by_cases z : M.1 191 22 = 0
    · have h3 : srtV (tK B n i) = 0 := h.2.1.2.2.1.symm.trans z
      have k24 : tK B n i ≤ 24 := by
        unfold srtV at h3
        by_cases q : tK B n i ≤ 24
        · exact q
        · rw [if_neg q] at h3
          exfalso
          revert h3
          (repeat' split) <;> (intro h3; omega)
      have sw := (srt_word h.2.1 hkk (tK B n i) (by omega) (by omega)).mpr rfl
      rw [if_pos z, if_neg (show ¬ M.1 191 23 ≤ 7 by rw [sw.2]; exact k8)]
      exact fin
    · rw [if_neg z]; exact fin
end LI
