/-! ===== lines: ward, thing, seed ===== -/
abbrev scp (j x : Int) : Prop := (j = 9 ∧ x = 0) ∨ (j = 10 ∧ x = 1) ∨ (j = 11 ∧ x = 2) ∨ (j = 12 ∧ x = 6) ∨ (j = 13 ∧ x = 7) ∨ (j = 14 ∧ x = 8) ∨ (j = 15 ∧ x = 3) ∨ (j = 16 ∧ x = 5) ∨ (j = 17 ∧ x = 4)
theorem SV0.sc {M : Mem} {V : TV} (h : SV0 M V) {j x : Int} (hj : scp j x) : M.1 193 j = V 0 x := by
  obtain ⟨⟨s0, s1, s2, s3, s4, s5, s6, s7, s8⟩, -⟩ := h
  rcases hj with ⟨rfl, rfl⟩ | ⟨rfl, rfl⟩ | ⟨rfl, rfl⟩ | ⟨rfl, rfl⟩ | ⟨rfl, rfl⟩ | ⟨rfl, rfl⟩ | ⟨rfl, rfl⟩ | ⟨rfl, rfl⟩ | ⟨rfl, rfl⟩ <;> assumption
/-- rows read into, changed at a few places -/
theorem LB.upd {M N : Mem} {V V' : TV} {l : Int} {S : Nat → Int → Prop} (h : LB M V l) (e : ∀ k j, LBc k j → ¬ S k j → N.1 k j = M.1 k j) (hS : ∀ k j, S k j → 193 ≤ k ∧ k ≤ 202) (h0 : ∀ j x, scp j x → N.1 193 j = V' 0 x)
    (hw : ∀ w, 0 ≤ w → w < V' 0 2 → N.1 194 (4 + w) = V' 1 w ∧ N.1 195 (4 + w) = V' 2 w ∧ N.1 196 (4 + w) = V' 3 w) (ht : ∀ t, 0 ≤ t → t < V' 0 3 → N.1 200 (8 + t) = V' 4 t ∧ N.1 201 (8 + t) = V' 5 t ∧ N.1 202 (8 + t) = V' 6 t) (hc : ∀ c, 0 ≤ c → c < 48 → N.1 197 (48 + c) = V' 7 c + 1 ∧ N.1 198 (48 + c) = V' 8 c ∧ N.1 199 (48 + c) = V' 9 c)
    (h4 : V' 0 4 = V 0 4) (h11 : V' 0 11 = V 0 11) (h12 : V' 0 12 = V 0 12) (hk : ∀ r i, 10 ≤ r → V' r i = V r i) : LB N V' l := by
  have e2 : ∀ (k : Nat) (j : Int), 203 ≤ k → k ≤ 206 → N.1 k j = M.1 k j := fun k j a b => e k j (by unfold LBc; omega) (fun q => by have := hS k j q; omega)
  have e3 : ∀ j, (j = 28 ∨ j = 29 ∨ j = 18) → N.1 191 j = M.1 191 j := fun j a => e 191 j (by unfold LBc; omega) (fun q => by have := hS 191 j q; omega)
  have law : ∀ s, SLw M V s → SLw N V s := by
    intro s q
    unfold SLw at *
    rw [e2 203 _ (by omega) (by omega), e2 204 _ (by omega) (by omega)]
    exact ⟨q.1, q.2.1, q.2.2.1, fun i a b => by rw [e2 205 _ (by omega) (by omega), e2 206 _ (by omega) (by omega)]; exact q.2.2.2 i a b⟩
  refine ⟨⟨⟨h0 9 0 (by omega), h0 10 1 (by omega), h0 11 2 (by omega), h0 12 6 (by omega), h0 13 7 (by omega), h0 14 8 (by omega), h0 15 3 (by omega), h0 16 5 (by omega), h0 17 4 (by omega)⟩, hw, ht, hc⟩, ⟨(law 0 h.2.1.1).same h4 h11 (fun i => ⟨hk _ i (by omega), hk _ i (by omega)⟩), (law 1 h.2.1.2).same h4 h12 (fun i => ⟨hk _ i (by omega), hk _ i (by omega)⟩)⟩, ?_, ?_, ?_⟩
  · rw [e3 28 (by omega)]; exact h.2.2.1
  · rw [e3 29 (by omega), h4]; exact h.2.2.2.1
  · rw [e3 18 (by omega)]; exact h.2.2.2.2
theorem FS.fr {W : Nat → Int → Prop} {M N : Mem} {f p : Int} (h : FS M f p) (hF : Fr W M N) (hd : ∀ k j, k = 191 → 24 ≤ j → j ≤ 25 → ¬ W k j) : FS N f p :=
  ⟨h.1, (hF 191 24 (hd _ _ rfl (by omega) (by omega))).1.trans h.2.1, (hF 191 25 (hd _ _ rfl (by omega) (by omega))).1.trans h.2.2⟩
section LW
variable {B : Int → Int} {n : Int}
theorem m_lnWard {M : Mem} {V : TV} {l : Int} {i : Nat} (h : TS M B n (i + 1)) (hL : LB M V l) (hT : TBw M V 1) (hP : POK V) (h2 : V 0 2 < 4) : LnO M B n l (lnWard B n V i) (t_MO_wardLine M (w32 (4 + V 0 2))) := by
  have hv := hP.1.1
  obtain ⟨s0, sw, st, sc⟩ := hL.1
  have e11 : M.1 193 11 = V 0 2 := s0.2.2.1
  unfold lnWard t_MO_wardLine t_MO_wardLine_L52 t_MO_wardLine_L57
  rw [w32_id (x := 4 + V 0 2) (by unfold InR; omega), m_fresher (by omega) (by omega), obind_some]
  have e112 : M.1 193 (9 + 2) = V 0 2 := e11
  rw [e112]
  have gd : 0 ≤ 4 + V 0 2 ∧ 4 + V 0 2 < 8 := by omega
  simp (config := { proj := false }) only [qguard_pos gd, qlet]
  rcases m_fresh (V := V) (row := 1) (r := 194) (N1 := 8) (off := 4) (len := V 0 2) h (by omega) (by omega) (by omega) (by omega) (fun w a b => (sw w a b).1) with ⟨a0, N1, n1, n2, n3⟩ | ⟨N1, n1, n2, n3⟩
  · rw [if_neg (fun q => q a0), n1, obind_some]
    have hFa : Fr (fun k j => k = 194 ∧ j = 4 + V 0 2) N1 (setI N1 194 (4 + V 0 2) (tW B n (i + 1))) := Fr.rf.setI ⟨rfl, rfl⟩
    have t1 : TS (setI N1 194 (4 + V 0 2) (tW B n (i + 1))) B n (i + 2) := n3.fr hFa (fun k j a z => by omega)
    have f1 : Fr StW M (setI N1 194 (4 + V 0 2) (tW B n (i + 1))) := (n2.mono NF_StW).trans (hFa.mono (fun k j z => by unfold StW; omega))
    have hkk := t1.kok
    have hso := t1.2.1.2.2.1
    have hz : (setI N1 194 (4 + V 0 2) (tW B n (i + 1))).1 191 24 = 0 := t1.2.2
    obtain ⟨w1, w2⟩ := t1.wrong (k := 1) (by decide)
    generalize hM1 : setI N1 194 (4 + V 0 2) (tW B n (i + 1)) = M1 at *
    have bad : ¬ (8 ≤ tK B n (i + 2) ∧ tK B n (i + 2) ≤ 12) → LnO M B n l (1, tP B n (i + 2), 0, V) (some (t_MO_wrong M1 1)) := fun _ => LnO.bad (f1.trans (w1.mono NF_StW)) w2
    by_cases k8 : 8 ≤ tK B n (i + 2) ∧ tK B n (i + 2) ≤ 12
    · have hs := (srt_word t1.2.1 hkk (tK B n (i + 2)) (by omega) (by omega)).mpr rfl
      rw [if_neg (fun q => q k8), if_pos hz, if_pos hs.1, if_neg (show ¬ M1.1 191 23 < 8 by omega), if_pos (show M1.1 191 23 ≤ 12 by omega), if_pos hz, hs.2, w32_id (x := tK B n (i + 2) - 8) (by unfold InR; omega)]
      have hFb : Fr (fun k j => k = 195 ∧ j = 4 + V 0 2) M1 (setI M1 195 (4 + V 0 2) (tK B n (i + 2) - 8)) := Fr.rf.setI ⟨rfl, rfl⟩
      obtain ⟨N2, p1, p2, p3⟩ := (t1.fr hFb (fun k j a z => by omega)).next
      rw [p1, obind_some]
      have f2 : Fr StW M N2 := (f1.trans (hFb.mono (fun k j z => by unfold StW; omega))).trans (p2.mono NF_StW)
      rcases m_numeral p3 (lo := 0) (hi := 99) (by omega) (by omega) (by omega) with ⟨b0, b1, N3, q1, q2, q3⟩ | ⟨N3, q1, q2, q3⟩
      · rw [if_neg (fun q => q b0), q1, obind_some]
        have f3 : Fr StW M N3 := f2.trans (q2.mono NF_StW)
        have x11 : (setI N3 196 (4 + V 0 2) (tW B n (i + 3))).1 193 (9 + 2) = V 0 2 := by
          rw [sI_ne (by omega), (q2 193 (9 + 2) (by unfold NF; omega)).1, (p2 193 (9 + 2) (by unfold NF; omega)).1, sI_ne (by omega), ← hM1, sI_ne (by omega), (n2 193 (9 + 2) (by unfold NF; omega)).1]
          exact e11
        rw [m_fresher (by omega) (by omega), obind_some, x11, m_reads (by omega) (by omega), obind_some, w32_id (x := V 0 2 + 1) (by unfold InR; omega)]
        have fin : Fr StW M (setI (setI N3 196 (4 + V 0 2) (tW B n (i + 3))) 193 11 (V 0 2 + 1)) := (f3.setI (by unfold StW; omega)).setI (by unfold StW; omega)
        have hF4 : Fr (fun k j => (k = 196 ∧ j = 4 + V 0 2) ∨ (k = 193 ∧ j = 11)) N3 (setI (setI N3 196 (4 + V 0 2) (tW B n (i + 3))) 193 11 (V 0 2 + 1)) := (Fr.rf.setI (Or.inl ⟨rfl, rfl⟩)).setI (Or.inr ⟨rfl, rfl⟩)
        have e : ∀ k j, LBc k j → ¬ ((k = 194 ∨ k = 195 ∨ k = 196) ∧ j = 4 + V 0 2 ∨ k = 193 ∧ j = 11) → (setI (setI N3 196 (4 + V 0 2) (tW B n (i + 3))) 193 11 (V 0 2 + 1)).1 k j = M.1 k j := fun k j a b => by
          rw [sI_ne (by omega), sI_ne (by omega), (q2 k j (NF_LBc k j a)).1, (p2 k j (NF_LBc k j a)).1, sI_ne (by omega), ← hM1, sI_ne (by omega), (n2 k j (NF_LBc k j a)).1]
        refine ⟨setI (setI N3 196 (4 + V 0 2) (tW B n (i + 3))) 193 11 (V 0 2 + 1), rfl, fin, Or.inl ⟨rfl, q3.fr hF4 (fun k j a z => by omega), ?_, ?_⟩⟩
        · refine hL.upd e (fun k j z => by omega) (fun j x hj => ?_) (fun w a b => ?_) (fun t a b => ?_) (fun c a b => ?_) rfl rfl rfl (fun r i hr => ?_)
          · show _ = setV (setV (setV (setV V 1 (V 0 2) (tW B n (i + 1))) 2 (V 0 2) (tK B n (i + 2) - 8)) 3 (V 0 2) (tW B n (i + 3))) 0 2 (V 0 2 + 1) 0 x
            by_cases q : j = 11
            · have hx : x = 2 := by omega
              subst q; subst hx
              rw [sI_self, setV_self]
            · rw [e 193 j (by unfold LBc; omega) (by omega), setV_ne _ _ (by omega), setV_ne _ _ (by omega), setV_ne _ _ (by omega), setV_ne _ _ (by omega)]
              exact hL.1.sc hj
          · have b' : w < V 0 2 + 1 := by
              have b : w < setV (setV (setV (setV V 1 (V 0 2) (tW B n (i + 1))) 2 (V 0 2) (tK B n (i + 2) - 8)) 3 (V 0 2) (tW B n (i + 3))) 0 2 (V 0 2 + 1) 0 2 := b
              rw [setV_self] at b; exact b
            show _ = setV (setV (setV (setV V 1 (V 0 2) (tW B n (i + 1))) 2 (V 0 2) (tK B n (i + 2) - 8)) 3 (V 0 2) (tW B n (i + 3))) 0 2 (V 0 2 + 1) 1 w ∧ _ = setV (setV (setV (setV V 1 (V 0 2) (tW B n (i + 1))) 2 (V 0 2) (tK B n (i + 2) - 8)) 3 (V 0 2) (tW B n (i + 3))) 0 2 (V 0 2 + 1) 2 w ∧ _ = setV (setV (setV (setV V 1 (V 0 2) (tW B n (i + 1))) 2 (V 0 2) (tK B n (i + 2) - 8)) 3 (V 0 2) (tW B n (i + 3))) 0 2 (V 0 2 + 1) 3 w
            by_cases q : w = V 0 2
            · subst q
              refine ⟨?_, ?_, ?_⟩
              · rw [setV_ne _ _ (by omega), setV_ne _ _ (by omega), setV_ne _ _ (by omega), setV_self, sI_ne (by omega), sI_ne (by omega), (q2 194 _ (by unfold NF; omega)).1, (p2 194 _ (by unfold NF; omega)).1, sI_ne (by omega), ← hM1, sI_self]
              · rw [setV_ne _ _ (by omega), setV_ne _ _ (by omega), setV_self, sI_ne (by omega), sI_ne (by omega), (q2 195 _ (by unfold NF; omega)).1, (p2 195 _ (by unfold NF; omega)).1, sI_self]
              · rw [setV_ne _ _ (by omega), setV_self, sI_ne (by omega), sI_self]
            · have z := sw w a (by omega)
              refine ⟨?_, ?_, ?_⟩
              · rw [e 194 _ (by unfold LBc; omega) (by omega), setV_ne _ _ (by omega), setV_ne _ _ (by omega), setV_ne _ _ (by omega), setV_ne _ _ (by omega)]; exact z.1
              · rw [e 195 _ (by unfold LBc; omega) (by omega), setV_ne _ _ (by omega), setV_ne _ _ (by omega), setV_ne _ _ (by omega), setV_ne _ _ (by omega)]; exact z.2.1
              · rw [e 196 _ (by unfold LBc; omega) (by omega), setV_ne _ _ (by omega), setV_ne _ _ (by omega), setV_ne _ _ (by omega), setV_ne _ _ (by omega)]; exact z.2.2
          · rw [e 200 _ (by unfold LBc; omega) (by omega), e 201 _ (by unfold LBc; omega) (by omega), e 202 _ (by unfold LBc; omega) (by omega)]
            exact st t a b
          · rw [e 197 _ (by unfold LBc; omega) (by omega), e 198 _ (by unfold LBc; omega) (by omega), e 199 _ (by unfold LBc; omega) (by omega)]
            exact sc c a b
          · show setV (setV (setV (setV V 1 (V 0 2) (tW B n (_ + 1))) 2 (V 0 2) (tK B n (_ + 2) - 8)) 3 (V 0 2) (tW B n (_ + 3))) 0 2 (V 0 2 + 1) r i = V r i
            rw [setV_ne _ _ (by omega), setV_ne _ _ (by omega), setV_ne _ _ (by omega), setV_ne _ _ (by omega)]
        · refine hT.done fin ?_ (td_of (kw := 2) (fun k a b => ?_) (by omega) (fun q => by omega))
          · rw [sI_ne (by omega), sI_ne (by omega), nf17 q2, nf17 p2, sI_ne (by omega), ← hM1, sI_ne (by omega), nf17 n2]
          · show setV (setV (setV (setV V 1 (V 0 2) (tW B n (i + 1))) 2 (V 0 2) (tK B n (i + 2) - 8)) 3 (V 0 2) (tW B n (i + 3))) 0 2 (V 0 2 + 1) 0 k = V 0 k
            rw [setV_ne _ _ (by omega), setV_ne _ _ (by omega), setV_ne _ _ (by omega), setV_ne _ _ (by omega)]
      · rw [if_pos q3.1, q1, obind_some]
        rw [m_fresher (by omega) (by omega), obind_some, m_reads (by omega) (by omega), obind_some]
        exact LnO.bad (((f2.trans (q2.mono NF_StW)).setI (by unfold StW; omega)).setI (by unfold StW; omega)) (by
          refine ⟨q3.1, ?_, ?_⟩
          · rw [sI_ne (by omega), sI_ne (by omega)]; exact q3.2.1
          · rw [sI_ne (by omega), sI_ne (by omega)]; exact q3.2.2)
    · rw [if_pos k8, if_pos hz, if_neg w2.nz]
      have b := bad k8
      by_cases sz : M1.1 191 22 = 0
      · rw [if_pos sz]
        have hk24 : tK B n (i + 2) ≤ 24 := by
          apply Classical.byContradiction
          intro y
          rw [hso] at sz
          unfold srtV at sz
          repeat (first | omega | split at sz)
        have hvv := t1.2.1.2.2.2.1 ⟨by omega, hk24⟩
        by_cases c1 : M1.1 191 23 < 8
        · rw [if_pos c1]; exact b
        · rw [if_neg c1, if_neg (show ¬ M1.1 191 23 ≤ 12 by omega)]; exact b
      · rw [if_neg sz]; exact b
  · rw [if_pos n3.1, n1, obind_some]
    have hFa : Fr (fun k j => k = 194 ∧ j = 4 + V 0 2) N1 (setI N1 194 (4 + V 0 2) 0) := Fr.rf.setI ⟨rfl, rfl⟩
    have g := n3.fr hFa (fun k j a b c z => by omega)
    rw [if_neg g.nz, if_neg g.nz]
    exact LnO.bad ((n2.mono NF_StW).trans (hFa.mono (fun k j z => by unfold StW; omega))) g
end LW
