/-! ===== lines: the reference's side, one by one ===== -/
def POK (V : TV) : Prop := VOK V ∧ FOK V ∧ 0 ≤ V 0 6 ∧ V 0 6 ≤ 12 ∧ 0 ≤ V 0 7 ∧ V 0 7 ≤ 12 ∧ 0 ≤ V 0 8 ∧ V 0 8 ≤ 8
def TBw (M : Mem) (V : TV) (w : Int) : Prop := ∀ x, tdx x → tbI (M.1 191 17) x = (td V x || decide (x = w))
theorem td_of {V V' : TV} {w kw : Int} (e : ∀ k, (k = 13 ∨ k = 6 ∨ k = 7 ∨ k = 8 ∨ k = 3 ∨ k = 14 ∨ k = 9 ∨ k = 10) → k ≠ kw → V' 0 k = V 0 k) (hk : (w = 0 ∧ kw = 13) ∨ (w = 2 ∧ kw = 6) ∨ (w = 3 ∧ kw = 7) ∨ (w = 4 ∧ kw = 8) ∨ (w = 5 ∧ kw = 3) ∨ (w = 6 ∧ kw = 14) ∨ (w = 10 ∧ kw = 9) ∨ (w = 11 ∧ kw = 10) ∨ (w = 1 ∧ kw = 2) ∨ (w = 7 ∧ kw = 2)) (h1 : tdx w → td V' w = true) : ∀ x, tdx x → td V' x = (td V x || decide (x = w)) := by
  intro x hx
  by_cases q : x = w
  · rw [q, h1 (by rw [← q]; exact hx)]; simp
  · have hf : decide (x = w) = false := decide_eq_false q
    rw [hf, Bool.or_false]
    have hx' : x = 0 ∨ x = 2 ∨ x = 3 ∨ x = 4 ∨ x = 5 ∨ x = 6 ∨ x = 10 ∨ x = 11 := by omega
    rcases hx' with rfl | rfl | rfl | rfl | rfl | rfl | rfl | rfl
    · show decide (V' 0 13 = 1) = decide (V 0 13 = 1); rw [e 13 (by omega) (by omega)]
    · show decide (0 < V' 0 6) = decide (0 < V 0 6); rw [e 6 (by omega) (by omega)]
    · show decide (0 < V' 0 7) = decide (0 < V 0 7); rw [e 7 (by omega) (by omega)]
    · show decide (0 < V' 0 8) = decide (0 < V 0 8); rw [e 8 (by omega) (by omega)]
    · show decide (0 < V' 0 3) = decide (0 < V 0 3); rw [e 3 (by omega) (by omega)]
    · show decide (V' 0 14 = 1) = decide (V 0 14 = 1); rw [e 14 (by omega) (by omega)]
    · show decide (V' 0 9 = 1) = decide (V 0 9 = 1); rw [e 9 (by omega) (by omega)]
    · show decide (V' 0 10 = 1) = decide (V 0 10 = 1); rw [e 10 (by omega) (by omega)]
theorem TBw.done {M N : Mem} {V V' : TV} {w : Int} (h : TBw M V w) (hF : Fr StW M N) (h17 : N.1 191 17 = M.1 191 17) (hv : ∀ x, tdx x → td V' x = (td V x || decide (x = w))) : TBd N V' := fun x hx => by rw [h17, h x hx, hv x hx]
section LL
variable {B : Int → Int} {n : Int}
theorem nf17 {M N : Mem} (hF : Fr NF M N) : N.1 191 17 = M.1 191 17 := (hF 191 17 (by unfold NF; omega)).1
/-- town, with what comes behind -/
theorem m_lnTown {M : Mem} {V : TV} {l : Int} {i : Nat} (h : TS M B n (i + 1)) (hL : LB M V l) (hT : TBw M V 0) (hP : POK V) (h3 : V 0 3 = 0) : ∃ N, (∀ k : Mem → Option Mem, (obind (t_MO_numeral M 1 8) fun q40 => (obind (t_MO_reads (q40.1) 0 (q40.2)) fun q42 => (obind (t_MO_numeral q42 1 6) fun q44 => (obind (t_MO_reads (q44.1) 1 (q44.2)) fun q46 => (k q46))))) = k N) ∧ LnO M B n l (lnTown B n V i) (some N) := by
  unfold lnTown
  have S : ∀ {N O : Mem} {j v : Int}, Fr StW N O → (9 ≤ j) → Fr StW N (setI O 193 j v) := fun q hj => q.setI (by unfold StW; omega)
  rcases m_numeral h (lo := 1) (hi := 8) (by omega) (by omega) (by omega) with ⟨a0, a1, N1, n1, n2, n3⟩ | ⟨N1, n1, n2, n3⟩
  · have hF1 : Fr StW M (setI N1 193 9 (tW B n (i + 1))) := S (n2.mono NF_StW) (by omega)
    have hFs : Fr (fun k j => k = 193 ∧ j = 9) N1 (setI N1 193 9 (tW B n (i + 1))) := Fr.rf.setI ⟨rfl, rfl⟩
    have t1 : TS (setI N1 193 9 (tW B n (i + 1))) B n (i + 2) := n3.fr hFs (fun k j a z => by omega)
    rw [if_neg (fun q => q a0)]
    rcases m_numeral t1 (lo := 1) (hi := 6) (by omega) (by omega) (by omega) with ⟨b0, b1, N2, p1, p2, p3⟩ | ⟨N2, p1, p2, p3⟩
    · rw [if_neg (fun q => q b0)]
      refine ⟨setI N2 193 10 (tW B n (i + 2)), fun k => ?_, _, rfl, S (hF1.trans (p2.mono NF_StW)) (by omega), Or.inl ⟨rfl, ?_, ?_, ?_⟩⟩
      · rw [n1, obind_some, m_reads (by omega) (by omega), obind_some]
        show obind (t_MO_numeral (setI N1 193 9 (tW B n (i + 1))) 1 6) _ = _
        rw [p1, obind_some, m_reads (by omega) (by omega), obind_some]
        rfl
      · have hFs2 : Fr (fun k j => k = 193 ∧ j = 10) N2 (setI N2 193 10 (tW B n (i + 2))) := Fr.rf.setI ⟨rfl, rfl⟩
        exact p3.fr hFs2 (fun k j a z => by omega)
      · have l1 := (hL.nf n2)
        have l2 : ∀ (k : Nat) (j : Int), ¬ (k = 193 ∧ (j = 9 ∨ j = 10)) → LBc k j → (setI N2 193 10 (tW B n (i + 2))).1 k j = M.1 k j := fun k j a b => by
          rw [sI_ne (by omega), (p2 k j (NF_LBc k j b)).1, sI_ne (by omega), (n2 k j (NF_LBc k j b)).1]
        obtain ⟨⟨s0, s1, s2, s3, s4, s5, s6, s7, s8⟩, sw, st, sc⟩ := hL.1
        have g : ∀ j, ¬ (j = 9 ∨ j = 10) → (setI N2 193 10 (tW B n (i + 2))).1 193 j = M.1 193 j := fun j a => l2 193 j (by omega) (by unfold LBc; omega)
        refine ⟨⟨⟨?_, ?_, ?_, ?_, ?_, ?_, ?_, ?_, ?_⟩, fun w x y => ?_, fun t x y => ?_, fun c x y => ?_⟩, ⟨?_, ?_⟩, ?_, ?_, ?_⟩
        · rw [sI_ne (by omega), (p2 193 9 (by unfold NF; omega)).1, sI_self]; rfl
        · rw [sI_self]; rfl
        · rw [g 11 (by omega)]; exact s2
        · rw [g 12 (by omega)]; exact s3
        · rw [g 13 (by omega)]; exact s4
        · rw [g 14 (by omega)]; exact s5
        · rw [g 15 (by omega)]; exact s6
        · rw [g 16 (by omega)]; exact s7
        · rw [g 17 (by omega)]; exact s8
        · rw [l2 194 _ (by omega) (by unfold LBc; omega), l2 195 _ (by omega) (by unfold LBc; omega), l2 196 _ (by omega) (by unfold LBc; omega)]; exact sw w x y
        · rw [l2 200 _ (by omega) (by unfold LBc; omega), l2 201 _ (by omega) (by unfold LBc; omega), l2 202 _ (by omega) (by unfold LBc; omega)]; exact st t x y
        · rw [l2 197 _ (by omega) (by unfold LBc; omega), l2 198 _ (by omega) (by unfold LBc; omega), l2 199 _ (by omega) (by unfold LBc; omega)]; exact sc c x y
        · refine (SLw.same (V := V) ?_ rfl rfl (fun _ => ⟨rfl, rfl⟩))
          have := hL.2.1.1
          unfold SLw at *
          rw [l2 203 _ (by omega) (by unfold LBc; omega), l2 204 _ (by omega) (by unfold LBc; omega)]
          exact ⟨this.1, this.2.1, this.2.2.1, fun i a b => by rw [l2 205 _ (by omega) (by unfold LBc; omega), l2 206 _ (by omega) (by unfold LBc; omega)]; exact this.2.2.2 i a b⟩
        · refine (SLw.same (V := V) ?_ rfl rfl (fun _ => ⟨rfl, rfl⟩))
          have := hL.2.1.2
          unfold SLw at *
          rw [l2 203 _ (by omega) (by unfold LBc; omega), l2 204 _ (by omega) (by unfold LBc; omega)]
          exact ⟨this.1, this.2.1, this.2.2.1, fun i a b => by rw [l2 205 _ (by omega) (by unfold LBc; omega), l2 206 _ (by omega) (by unfold LBc; omega)]; exact this.2.2.2 i a b⟩
        · rw [l2 191 28 (by omega) (by unfold LBc; omega)]; exact hL.2.2.1
        · rw [l2 191 29 (by omega) (by unfold LBc; omega)]; exact hL.2.2.2.1
        · rw [l2 191 18 (by omega) (by unfold LBc; omega)]; exact hL.2.2.2.2
      · refine hT.done (S (hF1.trans (p2.mono NF_StW)) (by omega)) ?_ (td_of (kw := 13) (fun k a b => ?_) (by omega) (fun _ => ?_))
        · rw [sI_ne (by omega), nf17 p2, sI_ne (by omega), nf17 n2]
        · show setV (setV (setV V 0 0 (tW B n (i + 1))) 0 1 (tW B n (i + 2))) 0 13 1 0 k = V 0 k
          rw [setV_ne _ _ (by omega), setV_ne _ _ (by omega), setV_ne _ _ (by omega)]
        · show decide (setV (setV (setV V 0 0 (tW B n (i + 1))) 0 1 (tW B n (i + 2))) 0 13 1 0 13 = 1) = true
          exact decide_eq_true (setV_self _ _ _ _)
    · rw [if_pos p3.1]
      refine ⟨setI N2 193 10 1, fun k => ?_, LnO.bad (S (hF1.trans (p2.mono NF_StW)) (by omega)) ⟨p3.1, by rw [sI_ne (by omega)]; exact p3.2.1, by rw [sI_ne (by omega)]; exact p3.2.2⟩⟩
      rw [n1, obind_some, m_reads (by omega) (by omega), obind_some]
      show obind (t_MO_numeral (setI N1 193 9 (tW B n (i + 1))) 1 6) _ = _
      rw [p1, obind_some, m_reads (by omega) (by omega), obind_some]
      rfl
  · rw [if_pos n3.1]
    have hz : ¬ (setI N1 193 9 1).1 191 24 = 0 := by rw [sI_ne (by omega)]; exact n3.nz
    refine ⟨setI (setI N1 193 9 1) 193 10 1, fun k => ?_, LnO.bad (S (S (n2.mono NF_StW) (by omega)) (by omega)) ⟨n3.1, by rw [sI_ne (by omega), sI_ne (by omega)]; exact n3.2.1, by rw [sI_ne (by omega), sI_ne (by omega)]; exact n3.2.2⟩⟩
    rw [n1, obind_some, m_reads (by omega) (by omega), obind_some]
    show obind (t_MO_numeral (setI N1 193 9 1) 1 6) _ = _
    rw [flt_numeral hz, obind_some, m_reads (by omega) (by omega), obind_some]
    rfl
end LL
