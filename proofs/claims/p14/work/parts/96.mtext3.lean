/-! ===== a text: all of it -/
def TInv (M : Mem) : Prop := (0 ≤ M.1 191 2 ∧ M.1 191 2 ≤ 700) ∧ ∀ j, 0 ≤ j → j < M.1 191 2 → 0 ≤ M.1 192 j ∧ M.1 192 j ≤ 255
theorem qd2 {N : Nat} {h : Int} (e : (N : Int) = 2 * h) (h0 : 0 ≤ h) (h1 : h ≤ 1000) : q_div (N : Int) 2 = h := by
  rw [q_div_nn (by unfold InR; omega) (by unfold InR; omega) (by omega) (by omega)]
  omega
theorem hc_done {M0 M : Mem} {V : TV} {l : Int} (h : HC M0 M 207) (hL : LB M0 V l) (hP : POK V) : MT0 M V ∧ MF M V := by
  have hv := hP.1.1
  have c : ∀ k w, hw k = w → 193 ≤ k → k < 207 → ∀ j, 0 ≤ j → j < w → M.1 k j = M0.1 k (w + j) := fun k w e a b j c d => by rw [← e]; exact h.2 k j a b c (by rw [e]; exact d)
  have c193 := c 193 9 rfl (by omega) (by omega)
  have law : ∀ s : Nat, s < 2 → SLw M0 V s → KOK (V (10 + 2 * s)) (V 0 (11 + (s : Int))) → MF1 M (s : Int) (V (10 + 2 * s)) (V (11 + 2 * s)) (V 0 (11 + (s : Int))) := by
    intro s hs hS hK
    unfold SLw at hS
    obtain ⟨a1, a2, a3, a4⟩ := hS
    have k0 := hK.1
    unfold MF1
    rw [c 203 2 rfl (by omega) (by omega) _ (by omega) (by omega), c 204 2 rfl (by omega) (by omega) _ (by omega) (by omega)]
    refine ⟨a1, a2, by omega, fun i x y => ?_⟩
    rw [c 205 64 rfl (by omega) (by omega) _ (by omega) (by omega), c 206 64 rfl (by omega) (by omega) _ (by omega) (by omega), ← Int.add_assoc]
    exact a4 i x y
  refine ⟨⟨⟨?_, ?_, ?_, ?_, ?_, ?_⟩, fun w x y => ?_, fun t x y => ?_, fun q x y => ?_⟩, law 0 (by omega) hL.2.1.1 hP.2.1.1, law 1 (by omega) hL.2.1.2 hP.2.1.2.1⟩
  · exact (c193 0 (by omega) (by omega)).trans (hL.1.sc (j := 9 + 0) (x := 0) (by omega))
  · exact (c193 1 (by omega) (by omega)).trans (hL.1.sc (j := 9 + 1) (x := 1) (by omega))
  · exact (c193 2 (by omega) (by omega)).trans (hL.1.sc (j := 9 + 2) (x := 2) (by omega))
  · exact (c193 6 (by omega) (by omega)).trans (hL.1.sc (j := 9 + 6) (x := 3) (by omega))
  · exact (c193 8 (by omega) (by omega)).trans (hL.1.sc (j := 9 + 8) (x := 4) (by omega))
  · exact (c193 7 (by omega) (by omega)).trans (hL.1.sc (j := 9 + 7) (x := 5) (by omega))
  · rw [c 194 4 rfl (by omega) (by omega) w x (by omega), c 195 4 rfl (by omega) (by omega) w x (by omega), c 196 4 rfl (by omega) (by omega) w x (by omega)]
    exact hL.1.2.1 w x y
  · rw [c 200 8 rfl (by omega) (by omega) t x (by omega), c 201 8 rfl (by omega) (by omega) t x (by omega), c 202 8 rfl (by omega) (by omega) t x (by omega)]
    exact hL.1.2.2.1 t x y
  · rw [c 197 48 rfl (by omega) (by omega) q x (by omega), c 198 48 rfl (by omega) (by omega) q x (by omega), c 199 48 rfl (by omega) (by omega) q x (by omega)]
    exact hL.1.2.2.2 q x y
def TfW : Nat → Int → Prop := fun k j => StW k j ∨ (k = 191 ∧ (j = 0 ∨ j = 2 ∨ j = 19))
def TsW : Nat → Int → Prop := fun k j => TfW k j ∨ (193 ≤ k ∧ k ≤ 206) ∨ BgW k j ∨ (k = 191 ∧ (j = 42 ∨ j = 43 ∨ j = 60 ∨ j = 61))
theorem TfW_TsW : ∀ k j, TfW k j → TsW k j := fun _ _ z => Or.inl z
/-- what a text leaves -/
def TxO (M N : Mem) (r : Int) (T : Int × Int × Int × TV) : Prop := (¬ T.1 = 0 ∧ r = -1 ∧ Fr TfW M N ∧ N.1 191 26 = T.1 ∧ N.1 191 27 = T.2.1 ∧ N.1 191 2 = 0) ∨ (T.1 = 0 ∧ r = T.2.2.1 ∧ Fr TsW M N ∧ N.1 191 26 = 0 ∧ N.1 191 2 = 0 ∧ POK T.2.2.2 ∧ MT0 N T.2.2.2 ∧ MF N T.2.2.2 ∧ BgO N T.2.2.2 ∧ N.1 191 42 = 0 ∧ N.1 191 43 = 0 ∧ N.1 191 60 = 0 ∧ N.1 191 61 = -1)
theorem m_text_L195 {x1 l : Int} {M N : Mem} {T : Int × Int × Int × TV} (hF : Fr TfW M N) (h2 : N.1 191 2 = 0) (h : (T.1 = 0 ∧ N.1 191 24 = 0 ∧ LB N T.2.2.2 T.2.2.1 ∧ POK T.2.2.2) ∨ (¬ T.1 = 0 ∧ N.1 191 24 = T.1 ∧ N.1 191 25 = T.2.1)) : ∃ N' r, t_MO_text_L195 x1 N = some (N', r) ∧ TxO M N' r T := by
  unfold t_MO_text_L195
  simp (config := { proj := false }) only [qlet]
  have e25 : (setI N 191 26 (N.1 191 24)).1 191 25 = N.1 191 25 := sI_ne (by omega)
  rw [e25]
  have e24 : (setI (setI N 191 26 (N.1 191 24)) 191 27 (N.1 191 25)).1 191 24 = N.1 191 24 := by rw [sI_ne (by omega), sI_ne (by omega)]
  have v26 : (setI (setI N 191 26 (N.1 191 24)) 191 27 (N.1 191 25)).1 191 26 = N.1 191 24 := by rw [sI_ne (by omega), sI_self]
  have v27 : (setI (setI N 191 26 (N.1 191 24)) 191 27 (N.1 191 25)).1 191 27 = N.1 191 25 := sI_self _ _ _ _
  have f0 : Fr (fun k j => k = 191 ∧ (j = 26 ∨ j = 27)) N (setI (setI N 191 26 (N.1 191 24)) 191 27 (N.1 191 25)) := (Fr.rf.setI (by omega)).setI (by omega)
  rw [e24]
  generalize setI (setI N 191 26 (N.1 191 24)) 191 27 (N.1 191 25) = P at *
  have fP : Fr TfW M P := hF.trans (f0.mono (fun k j z => by unfold TfW StW; omega))
  have p2 : P.1 191 2 = 0 := (f0 191 2 (by omega)).1.trans h2
  rcases h with ⟨a, b, c, d⟩ | ⟨a, b, c⟩
  · rw [if_pos b]
    have cP : LB P T.2.2.2 T.2.2.1 := c.fr f0 (fun k j a z => by unfold LBc at a; omega)
    have c0 : HC P P 193 := ⟨Fr.rf, fun k j a b => by omega⟩
    obtain ⟨Q, q1, c0⟩ := hc_half (r := 193) (N1 := 18) (by omega) (qd2 (h := 9) (by omega) (by omega) (by omega)) (by show (9 : Int) + 9 ≤ _; omega) (by omega) c0
    rw [q1, obind_some]; clear q1
    obtain ⟨Q, q1, c0⟩ := hc_half (r := 194) (N1 := 8) (by omega) (qd2 (h := 4) (by omega) (by omega) (by omega)) (by show (4 : Int) + 4 ≤ _; omega) (by omega) c0
    rw [q1, obind_some]; clear q1
    obtain ⟨Q, q1, c0⟩ := hc_half (r := 195) (N1 := 8) (by omega) (qd2 (h := 4) (by omega) (by omega) (by omega)) (by show (4 : Int) + 4 ≤ _; omega) (by omega) c0
    rw [q1, obind_some]; clear q1
    obtain ⟨Q, q1, c0⟩ := hc_half (r := 196) (N1 := 8) (by omega) (qd2 (h := 4) (by omega) (by omega) (by omega)) (by show (4 : Int) + 4 ≤ _; omega) (by omega) c0
    rw [q1, obind_some]; clear q1
    obtain ⟨Q, q1, c0⟩ := hc_half (r := 197) (N1 := 96) (by omega) (qd2 (h := 48) (by omega) (by omega) (by omega)) (by show (48 : Int) + 48 ≤ _; omega) (by omega) c0
    rw [q1, obind_some]; clear q1
    obtain ⟨g, Q, q1, c0⟩ := m_text_L257 (x1 := x1) c0 48 FU Q 0 (by omega) (by omega) (fu_big (by omega)) Fr.rf (fun k j a b c => by omega)
    rw [q1, t_MO_text_L257, if_pos (Int.le_refl _)]; clear q1
    obtain ⟨Q, q1, c0⟩ := hc_half (r := 200) (N1 := 16) (by omega) (qd2 (h := 8) (by omega) (by omega) (by omega)) (by show (8 : Int) + 8 ≤ _; omega) (by omega) c0
    rw [q1, obind_some]; clear q1
    obtain ⟨Q, q1, c0⟩ := hc_half (r := 201) (N1 := 16) (by omega) (qd2 (h := 8) (by omega) (by omega) (by omega)) (by show (8 : Int) + 8 ≤ _; omega) (by omega) c0
    rw [q1, obind_some]; clear q1
    obtain ⟨Q, q1, c0⟩ := hc_half (r := 202) (N1 := 16) (by omega) (qd2 (h := 8) (by omega) (by omega) (by omega)) (by show (8 : Int) + 8 ≤ _; omega) (by omega) c0
    rw [q1, obind_some]; clear q1
    obtain ⟨Q, q1, c0⟩ := hc_half (r := 203) (N1 := 4) (by omega) (qd2 (h := 2) (by omega) (by omega) (by omega)) (by show (2 : Int) + 2 ≤ _; omega) (by omega) c0
    rw [q1, obind_some]; clear q1
    obtain ⟨Q, q1, c0⟩ := hc_half (r := 204) (N1 := 4) (by omega) (qd2 (h := 2) (by omega) (by omega) (by omega)) (by show (2 : Int) + 2 ≤ _; omega) (by omega) c0
    rw [q1, obind_some]; clear q1
    obtain ⟨Q, q1, c0⟩ := hc_half (r := 205) (N1 := 128) (by omega) (qd2 (h := 64) (by omega) (by omega) (by omega)) (by show (64 : Int) + 64 ≤ _; omega) (by omega) c0
    rw [q1, obind_some]; clear q1
    obtain ⟨Q, q1, c0⟩ := hc_half (r := 206) (N1 := 128) (by omega) (qd2 (h := 64) (by omega) (by omega) (by omega)) (by show (64 : Int) + 64 ≤ _; omega) (by omega) c0
    rw [q1, obind_some]; clear q1
    obtain ⟨t1, t2⟩ := hc_done c0 cP d
    simp (config := { proj := false }) only [qlet]
    have f2 : Fr (fun k j => k = 191 ∧ (j = 42 ∨ j = 43 ∨ j = 60 ∨ j = 61)) Q (setI (setI (setI (setI Q 191 60 0) 191 61 (-1)) 191 42 0) 191 43 0) := (((Fr.rf.setI (by omega)).setI (by omega)).setI (by omega)).setI (by omega)
    have v60 : (setI (setI (setI (setI Q 191 60 0) 191 61 (-1)) 191 42 0) 191 43 0).1 191 60 = 0 := by rw [sI_ne (by omega), sI_ne (by omega), sI_ne (by omega), sI_self]
    have v61 : (setI (setI (setI (setI Q 191 60 0) 191 61 (-1)) 191 42 0) 191 43 0).1 191 61 = -1 := by rw [sI_ne (by omega), sI_ne (by omega), sI_self]
    have v42 : (setI (setI (setI (setI Q 191 60 0) 191 61 (-1)) 191 42 0) 191 43 0).1 191 42 = 0 := by rw [sI_ne (by omega), sI_self]
    have v43 : (setI (setI (setI (setI Q 191 60 0) 191 61 (-1)) 191 42 0) 191 43 0).1 191 43 = 0 := sI_self _ _ _ _
    generalize setI (setI (setI (setI Q 191 60 0) 191 61 (-1)) 191 42 0) 191 43 0 = R at *
    obtain ⟨N', n1, n2, n3⟩ := m_begins (t1.fr f2 (fun k j a b z => by omega)) d.1
    rw [n1, obind_some]
    have g : ∀ j, N'.1 191 j = R.1 191 j := fun j => (n2 191 j (by unfold BgW; omega)).1
    have gr : ∀ j, ¬ (j = 42 ∨ j = 43 ∨ j = 60 ∨ j = 61) → N'.1 191 j = P.1 191 j := fun j hj => (g j).trans (((f2 191 j (by omega)).1).trans (c0.1 191 j (by omega)).1)
    refine ⟨N', _, rfl, Or.inr ⟨a, ?_, ?_, ?_, ?_, d, ?_, ?_, n3, (g 42).trans v42, (g 43).trans v43, (g 60).trans v60, (g 61).trans v61⟩⟩
    · rw [gr 18 (by omega)]; exact cP.2.2.2.2
    · refine (((fP.mono TfW_TsW).trans (c0.1.mono (fun k j z => ?_))).trans (f2.mono (fun k j z => ?_))).trans (n2.mono (fun k j z => ?_))
      · unfold TsW; exact Or.inr (Or.inl ⟨z.1, by omega⟩)
      · unfold TsW; exact Or.inr (Or.inr (Or.inr z))
      · unfold TsW; exact Or.inr (Or.inr (Or.inl z))
    · rw [gr 26 (by omega), v26]; exact b
    · rw [gr 2 (by omega)]; exact p2
    · exact (t1.fr f2 (fun k j a b z => by omega)).fr n2 (fun k j a b z => by unfold BgW at z; omega)
    · have u : ∀ {s n : Int} {K L : Int → Int}, MF1 Q s K L n → MF1 N' s K L n := fun q => (MF1.fr n2 (fun k j a b z => by unfold BgW at z; omega) (MF1.fr f2 (fun k j a b z => by omega) q))
      exact ⟨u t2.1, u t2.2⟩
  · rw [if_neg (show ¬ N.1 191 24 = 0 by rw [b]; exact a)]
    exact ⟨P, -1, rfl, Or.inl ⟨a, rfl, fP, v26.trans b, v27.trans c, p2⟩⟩
