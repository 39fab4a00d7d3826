/-! ===== years, clock, small questions, notes of the reference ===== -/
theorem q_and_low {x : Int} : 0 ≤ q_and x 2147483647 ∧ q_and x 2147483647 ≤ 2147483647 := by
  have hi := (inrq_and (x := x) (y := 2147483647))
  refine ⟨?_, hi.2⟩
  unfold q_and
  have e : (Int32.ofInt x &&& Int32.ofInt 2147483647).toBitVec.msb = false := by
    rw [Int32.toBitVec_and, BitVec.msb_and]
    have : (Int32.ofInt 2147483647).toBitVec.msb = false := by decide
    rw [this, Bool.and_false]
  show 0 ≤ (Int32.ofInt x &&& Int32.ofInt 2147483647).toBitVec.toInt
  rw [BitVec.toInt_eq_msb_cond, e]
  simp
theorem q_shr16 {x : Int} (h : InR x) : q_shr x 16 = x / 65536 := by
  unfold q_shr
  show ((Int32.ofInt x >>> Int32.ofInt 16).toBitVec).toInt = _
  rw [Int32.toBitVec_shiftRight]
  have e : ((Int32.ofInt 16).toBitVec.smod 32) = 16#32 := by decide
  rw [e]
  show ((Int32.ofInt x).toBitVec.sshiftRight 16).toInt = _
  rw [BitVec.toInt_sshiftRight]
  show (Int32.ofInt x).toInt >>> 16 = _
  rw [q_toInt_of h, Int.shiftRight_eq_div_pow]
  rfl
theorem m_found {M : Mem} {r N : Nat} {x2 x4 : Int} {len : Nat} (h2 : 0 ≤ x2) (hN : x2 + (len : Int) ≤ (N : Int)) (hb : N ≤ 100000) : ∀ (n a fu : Nat), a + n = len → n < fu → (∀ b, b < a → M.1 r (x2 + (b : Int)) ≠ x4) → t_MO_found_L3 r N x2 (len : Int) x4 fu M (a : Int) = some (fI (fnd (fun b => M.1 r (x2 + (b : Int))) x4 len)) := by
  intro n
  induction n with
  | zero =>
    intro a fu g0 g1 hb
    obtain ⟨g, rfl⟩ : ∃ g, fu = g + 1 := ⟨fu - 1, by omega⟩
    rw [t_MO_found_L3, if_pos (by omega)]
    cases e : fnd (fun b => M.1 r (x2 + (b : Int))) x4 len with
    | none => rfl
    | some b => have := fnd_some e; exact absurd this.2.1 (hb b (by omega))
  | succ n ih =>
    intro a fu g0 g1 hb
    obtain ⟨g, rfl⟩ : ∃ g, fu = g + 1 := ⟨fu - 1, by omega⟩
    rw [t_MO_found_L3, if_neg (by omega), w32_id (x := x2 + (a : Int)) (by unfold InR; omega), qguard_pos ⟨by omega, by omega⟩, w32_succ (t := a) (by omega)]
    by_cases c : M.1 r (x2 + (a : Int)) = x4
    · rw [if_pos c]
      cases e : fnd (fun b => M.1 r (x2 + (b : Int))) x4 len with
      | none => exact absurd c (fnd_none e a (by omega))
      | some b =>
        have hs := fnd_some e
        have : b = a := by
          by_cases q : b < a
          · exact absurd hs.2.1 (hb b q)
          · by_cases q2 : a < b
            · exact absurd c (hs.2.2 a q2)
            · omega
        rw [this]; rfl
    · rw [if_neg c]
      exact ih (a + 1) g (by omega) (by omega) (fun b hb2 => by
        by_cases e : b = a
        · rw [e]; exact c
        · exact hb b (by omega))
theorem m_found0 {M : Mem} {r N : Nat} {x2 x4 : Int} {len : Nat} (h2 : 0 ≤ x2) (hN : x2 + (len : Int) ≤ (N : Int)) (hb : N ≤ 100000) : t_MO_found M r N x2 (len : Int) x4 = some (fI (fnd (fun b => M.1 r (x2 + (b : Int))) x4 len)) := m_found h2 hN hb len 0 FU (by omega) (fu_big (by omega)) (fun b hb => by omega)
theorem ri_named {M : Mem} {V : TV} (h : RI M V) (x1 x2 : Int) : Ok (fun r => RI r.1 V) (t_MO_named M x1 x2) := by
  unfold t_MO_named
  refine ok_let (fun M1 e1 => ?_)
  have h1 : RI M1 V := by rw [e1]; exact h.set0 0
  have hv := h.1.1.1
  have hm := h1.1.2.1.1
  refine ok_ite (fun _ => ?_) (fun _ => ok_ite (fun _ => ?_) (fun _ => ok_some h1))
  · obtain ⟨n, hn⟩ : ∃ n : Nat, M1.1 193 2 = (n : Int) := ⟨(M1.1 193 2).toNat, by omega⟩
    rw [hn, m_found0 (len := n) (by omega) (by omega) (by omega), obind_some]
    exact ok_some h1
  · obtain ⟨n, hn⟩ : ∃ n : Nat, M1.1 193 6 = (n : Int) := ⟨(M1.1 193 6).toNat, by omega⟩
    rw [hn, m_found0 (len := n) (by omega) (by omega) (by omega), obind_some]
    exact ok_some h1
theorem ri_fault {M : Mem} {V : TV} (h : RI M V) (x1 : Int) : RI (t_MO_fault M x1).1 V := by
  unfold t_MO_fault
  simp only [qlet]
  split
  · exact h.set0 0
  · split
    · exact h.set0 0
    · exact h.set0 0
theorem ri_thing {M : Mem} {V : TV} (h : RI M V) (x1 x2 : Int) : Ok (fun r => RI r.1 V) (t_MO_thing M x1 x2) := by
  unfold t_MO_thing
  refine ok_let (fun M1 e1 => ?_)
  have h1 : RI M1 V := by rw [e1]; exact h.set0 0
  have hv := h.1.1.1
  simp only [qlet]
  rw [m_isThing h1.1.2.1]
  by_cases c1 : 0 ≤ x1 ∧ x1 < V 0 3
  · rw [if_pos c1, if_neg (by decide)]
    exact ok_ite (fun _ => ok_guard (by omega) (ok_some h1)) (fun _ => ok_ite (fun _ => ok_guard (by omega) (ok_some h1)) (fun _ => ok_ite (fun _ => ok_guard (by omega) (ok_some h1)) (fun _ => ok_ite (fun _ => ok_guard (by omega) (ok_some h1)) (fun _ => ok_some h1))))
  · rw [if_neg c1, if_pos rfl]; exact ok_some h1
theorem ri_voted {M : Mem} {V : TV} (h : RI M V) (x1 x2 : Int) : Ok (fun r => RI r.1 V) (t_MO_voted M x1 x2) := by
  unfold t_MO_voted
  refine ok_let (fun M1 e1 => ?_)
  have h1 : RI M1 V := by rw [e1]; exact h.set0 0
  have hy := h1.2.2.1.2
  refine ok_ite (fun _ => ok_some h1) (fun c1 => ok_ite (fun c2 => ?_) (fun _ => ok_some h1))
  exact ok_ite (fun _ => ok_guard (by omega) (ok_some h1)) (fun _ => ok_ite (fun _ => ok_guard (by omega) (ok_some h1)) (fun _ => ok_ite (fun _ => ok_guard (by omega) (ok_some h1)) (fun _ => ok_some h1)))
theorem ri_count_loop {x1 : Int} {V : TV} {M : Mem} (h : RI M V) : ∀ (n fu : Nat) (v1 v2 : Int), v2 + (n : Int) = V 0 3 → 0 ≤ v2 → n < fu → Ok (fun r => RI r.1 V) (t_MO_count_L164 x1 fu M v1 v2) := by
  intro n
  induction n with
  | zero =>
    intro fu v1 v2 g0 g1 g2
    obtain ⟨g, rfl⟩ : ∃ g, fu = g + 1 := ⟨fu - 1, by omega⟩
    rw [t_MO_count_L164, h.1.2.1.1.2.2.2.1, if_pos (by omega)]
    exact ok_some h
  | succ n ih =>
    intro fu v1 v2 g0 g1 g2
    obtain ⟨g, rfl⟩ : ∃ g, fu = g + 1 := ⟨fu - 1, by omega⟩
    have hv := h.1.1.1
    have hr := h.row0.2.1 v2 g1 (by omega)
    rw [show 8 * 0 + v2 = v2 by omega] at hr
    rw [t_MO_count_L164, h.1.2.1.1.2.2.2.1, if_neg (by omega), qguard_pos ⟨g1, by omega⟩, h.next (by omega) h.row0 hr.1 hr.2, obind_some]
    unfold t_MO_count_L196
    rw [w32_id (x := v2 + 1) (by unfold InR; omega)]
    exact ok_ite (fun _ => ih g _ (v2 + 1) (by omega) (by omega) (by omega)) (fun _ => ih g _ (v2 + 1) (by omega) (by omega) (by omega))
theorem ri_count {M : Mem} {V : TV} (h : RI M V) (x1 : Int) : Ok (fun r => RI r.1 V) (t_MO_count M x1) := by
  unfold t_MO_count
  refine ok_let (fun M1 e1 => ?_)
  have h1 : RI M1 V := by rw [e1]; exact h.set0 0
  have hv := h.1.1.1
  have S : ∀ v : Int, Ok (fun r : Mem × Int => RI r.1 V) (some (M1, v)) := fun v => ok_some h1
  have B : ∀ w : Int64, Ok (fun r : Mem × Int => RI r.1 V) (obind (t_MO_bitsOf M1 w) fun q => some (M1, q)) := fun w => ok_bind (Q := fun _ => True) (by unfold t_MO_bitsOf; exact bitsOf_ok 48 FU _ _ _ (by omega) (by omega) (fu_big (by omega))) (fun q _ => S q)
  exact ok_ite (fun _ => S _) (fun _ => ok_ite (fun _ => S _) (fun _ => ok_ite (fun _ => S _) (fun _ => ok_ite (fun _ => S _) (fun _ => ok_ite (fun _ => S _) (fun _ => ok_ite (fun _ => S _) (fun _ => ok_ite (fun _ => S _) (fun _ => ok_ite (fun _ => S _) (fun _ => ok_ite (fun _ => S _) (fun _ => ok_ite (fun _ => S _) (fun _ => ok_ite (fun _ => B _) (fun _ => ok_ite (fun _ => B _) (fun _ => ok_ite (fun _ => ri_count_loop h1 (V 0 3).toNat FU 0 0 (by omega) (by omega) (fu_big (by omega))) (fun _ => S _)))))))))))))
def stV (V : TV) (D : Int → Int) (c : Int) : Int := if V 8 c = 1 then 0 else if V 9 c = 1 then 1 else if dnV V D c = 4 then 0 else if bsV V c (dnV V D c) < 0 then 1 else if V 8 (bsV V c (dnV V D c)) = 1 then 1 else 0
theorem RI.stands {M : Mem} {V : TV} (h : RI M V) {c : Int} (h0 : 0 ≤ c) (h1 : c < cellsV V) : t_MO_stands M c = some (stV V (DN M 0) c) := by
  have hC := h.1.1.cells
  have m := h.1.2.1.2.2.2 c h0 (by omega)
  have o := h.1.1.2.2.2 c h0 (by omega)
  have hd := dn_rng h.1.1 h.row0.1 h0 (c := c) (by omega)
  have hd2 : 0 ≤ dnV V (DN M 0) c ∧ dnV V (DN M 0) c ≤ 4 := hd
  have hb := bs_rng h.1.1 h0 h1 (dnV V (DN M 0) c)
  unfold t_MO_stands stV
  rw [qguard_pos ⟨h0, by omega⟩, m.2.1, m.2.2]
  rcases o.2.2.1 with w | w
  · rw [if_pos w, if_neg (show ¬ V 8 c = 1 by omega), qguard_pos ⟨h0, by omega⟩]
    rcases o.2.2.2 with s | s
    · rw [if_pos s, if_neg (show ¬ V 9 c = 1 by omega), m_down h.1.2.1 h.1.1 (MSc.self M 0 V) (by rw [h.2.1]; decide) (by omega) h0 (by omega), obind_some]
      by_cases q : dnV V (DN M 0) c = 4
      · rw [if_pos q, if_pos q]
      · rw [if_neg q, if_neg q, m_beside h.1.2.1 h.1.1 h0 h1 hd2.1 hd2.2, obind_some]
        by_cases q2 : bsV V c (dnV V (DN M 0) c) < 0
        · rw [if_pos (by omega), if_pos q2]
        · have o2 := (h.1.1.2.2.2 (bsV V c (dnV V (DN M 0) c)) (by omega) (by omega)).2.2.1
          rw [if_neg (by omega), if_neg q2, qguard_pos ⟨by omega, by omega⟩, (h.1.2.1.2.2.2 _ (by omega) (by omega)).2.1]
          rcases o2 with w2 | w2
          · rw [if_pos w2, if_neg (show ¬ V 8 (bsV V c (dnV V (DN M 0) c)) = 1 by omega)]
          · rw [if_neg (show ¬ V 8 (bsV V c (dnV V (DN M 0) c)) = 0 by omega), if_pos w2]
    · rw [if_neg (show ¬ V 9 c = 0 by omega), if_pos s]
  · rw [if_neg (show ¬ V 8 c = 0 by omega), if_pos w]
theorem RI.set00 {M : Mem} {V : TV} (h : RI M V) (v : Int) : RI (setI M 191 0 v) V := h.set0 v
theorem ri_cell {M : Mem} {V : TV} (h : RI M V) (x1 x2 : Int) : Ok (fun r => RI r.1 V) (t_MO_cell M x1 x2) := by
  unfold t_MO_cell t_MO_cell_L23
  simp only [qlet]
  rw [m_isCell h.1.2.1 h.1.1]
  have bad : ∀ v : Int, v ≠ 0 → Ok (fun r : Mem × Int => RI r.1 V) (t_MO_cell_L28 x1 x2 M v) := by
    intro v hv
    unfold t_MO_cell_L28
    refine ok_let (fun M6 e6 => ?_)
    have e0 : M6.1 191 0 = v := by rw [e6, sI_self]
    rw [e0, if_neg hv]
    exact ok_some (by rw [e6]; exact h.set0 v)
  by_cases c1 : 0 ≤ x1 ∧ x1 < cellsV V
  · rw [if_pos c1, if_neg (by decide)]
    refine ok_ite (fun _ => bad 2 (by decide)) (fun _ => ok_ite (fun _ => ?_) (fun _ => bad 2 (by decide)))
    unfold t_MO_cell_L28
    refine ok_let (fun M1 e1 => ?_)
    have e0 : M1.1 191 0 = 0 := by rw [e1, sI_self]
    have h1 : RI M1 V := by rw [e1]; exact h.set0 0
    have hC := h.1.1.cells
    rw [e0, if_pos rfl]
    have S : ∀ v : Int, Ok (fun r : Mem × Int => RI r.1 V) (some (M1, v)) := fun v => ok_some h1
    refine ok_ite (fun _ => ok_guard (by omega) (S _)) (fun _ => ok_ite (fun _ => ok_guard (by omega) (ok_ite (fun _ => S _) (fun _ => S _))) (fun _ => ok_ite (fun _ => ok_guard (by omega) (ok_ite (fun _ => S _) (fun _ => S _))) (fun _ => ok_ite (fun _ => S _) (fun _ => ok_ite (fun _ => S _) (fun _ => ok_ite (fun _ => ?_) (fun _ => ok_ite (fun _ => ?_) (fun _ => ?_)))))))
    · rw [m_thingIn (by omega) h1.1.1 h1.1.2.1 c1.1 (h1.th 0), obind_some]; exact S _
    · refine ok_guard (by omega) (ok_ite (fun _ => ?_) (fun _ => S _))
      rw [h1.next (by omega) h1.row0 c1.1 c1.2, obind_some]; exact S _
    · rw [h1.stands c1.1 c1.2, obind_some]
      exact ok_ite (fun _ => S _) (fun _ => S _)
  · rw [if_neg c1, if_pos rfl]
    exact bad 1 (by decide)
theorem RI.note {W : Nat → Int → Prop} {M N : Mem} {V : TV} (h : RI M V) (hF : Fr W M N) (hd : ∀ k j, RIc k j → W k j → (226 ≤ k ∧ k ≤ 228) ∨ (k = 191 ∧ (j = 60 ∨ j = 61))) (hn : NotesOK N V) : RI N V := by
  obtain ⟨⟨a1, a2, a3, a4⟩, b, ⟨c1, c2⟩, ⟨d1, d2⟩, ⟨e1, e2, e3⟩, f⟩ := h
  have nn : ∀ k j, RIc k j → ¬ (226 ≤ k ∧ k ≤ 228) → ¬ (k = 191 ∧ (j = 60 ∨ j = 61)) → ¬ W k j := fun k j x y z q => (hd k j x q).elim y z
  have row : ∀ a : Int, 0 ≤ a → a ≠ 1 → RowEq N a M a := fun a x y => RowEq.fr hF (fun k j hk => nn k j (CW_RIc ⟨x, y⟩ k j hk) (by unfold CW at hk; omega) (by unfold CW at hk; omega))
  have q : ∀ j : Int, (j = 42 ∨ j = 43 ∨ j = 44) → N.1 191 j = M.1 191 j := fun j hj => (hF 191 j (nn _ _ (by unfold RIc; omega) (by omega) (by omega))).1
  have q0 := row 0 (by omega) (by omega)
  refine ⟨⟨a1, MT0.fr hF (fun k j x y => nn k j (by unfold RIc; omega) (by omega) (by omega)) a2, a3, MF1.fr hF (fun k j x y => nn k j (by unfold RIc; omega) (by omega) (by omega)) a4.1, MF1.fr hF (fun k j x y => nn k j (by unfold RIc; omega) (by omega) (by omega)) a4.2⟩, by rw [q 44 (by omega)]; exact b, ⟨c1.of a1 q0, by rw [q0.1.1, q0.1.2.2.1]; exact c2⟩, ⟨by rw [q 42 (by omega)]; exact d1, fun h => ?_⟩, ⟨by rw [q 43 (by omega)]; exact e1, by rw [q 43 (by omega)]; exact e2, fun k x y => ?_⟩, hn⟩
  · have q2 := row 2 (by omega) (by omega)
    obtain ⟨r1, r2⟩ := d2 (by rw [← q 42 (by omega)]; exact h)
    exact ⟨r1.of a1 q2, by rw [q2.1.1, q2.1.2.2.1]; exact r2⟩
  · rw [q 43 (by omega)] at y
    have q3 := row (3 + k) (by omega) (by omega)
    obtain ⟨r1, r2, r3, r4⟩ := e3 k x y
    exact ⟨r1.of a1 q3, by rw [q3.1.1, q0.1.1]; exact r2, by rw [q3.1.2.1, q0.1.2.1]; exact r3, by rw [q3.1.2.2.1, q0.1.2.2.1]; exact r4⟩
theorem NotesOK.add {M N : Mem} {V : TV} (h : NotesOK M V) (hlt : M.1 191 60 < 24) (hF : Fr (fun k j => ((226 ≤ k ∧ k ≤ 228) ∧ j = M.1 191 60) ∨ (k = 191 ∧ j = 60)) M N) (h60 : N.1 191 60 = M.1 191 60 + 1) (hnew : (N.1 228 (M.1 191 60) = 0 ∧ 0 ≤ N.1 226 (M.1 191 60) ∧ N.1 226 (M.1 191 60) < cellsV V ∧ V 8 (N.1 226 (M.1 191 60)) = 0 ∧ (N.1 227 (M.1 191 60) = -1 ∨ (0 ≤ N.1 227 (M.1 191 60) ∧ N.1 227 (M.1 191 60) < cellsV V))) ∨ (N.1 228 (M.1 191 60) = 1 ∧ 0 ≤ N.1 226 (M.1 191 60) ∧ N.1 226 (M.1 191 60) < M.1 191 60)) : NotesOK N V := by
  obtain ⟨h1, h2, h3, h4, h5⟩ := h
  unfold NotesOK
  rw [h60, (hF 191 61 (by omega)).1]
  refine ⟨by omega, by omega, h3, by omega, fun k a b => ?_⟩
  by_cases e : k = M.1 191 60
  · rw [e]; exact hnew
  · rw [(hF 226 k (by omega)).1, (hF 227 k (by omega)).1, (hF 228 k (by omega)).1]
    exact h5 k a (by omega)
theorem ri_note_L26 {M : Mem} {V : TV} (h : RI M V) (x1 x2 : Int) (o : opV V x1) (o2 : x2 = -1 ∨ opV V x2) : Ok (fun r => RI r.1 V) (t_MO_note_L26 x1 x2 M) := by
  have hn := h.2.2.2.2.2
  have hn0 := hn.1
  have hn1 := hn.2.1
  unfold t_MO_note_L26
  refine ok_ite (fun _ => ok_some h) (fun c => ?_)
  refine ok_guard (by omega) (ok_let (fun M13 e13 => ?_))
  have c13 : M13.1 191 60 = M.1 191 60 := by rw [e13, sI_ne (by omega)]
  rw [c13]
  refine ok_guard (by omega) (ok_let (fun M16 e16 => ?_))
  have c16 : M16.1 191 60 = M.1 191 60 := by rw [e16, sI_ne (by omega)]; exact c13
  rw [c16]
  refine ok_guard (by omega) (ok_let (fun M19 e19 => ?_))
  have c19 : M19.1 191 60 = M.1 191 60 := by rw [e19, sI_ne (by omega)]; exact c16
  rw [c19, w32_id (x := M.1 191 60 + 1) (by unfold InR; omega)]
  refine ok_let (fun M21 e21 => ok_some ?_)
  have hF : Fr (fun k j => ((226 ≤ k ∧ k ≤ 228) ∧ j = M.1 191 60) ∨ (k = 191 ∧ j = 60)) M M21 := by
    rw [e21, e19, e16, e13]
    exact (((Fr.rf.setI (Or.inl ⟨by omega, rfl⟩)).setI (Or.inl ⟨by omega, rfl⟩)).setI (Or.inl ⟨by omega, rfl⟩)).setI (Or.inr ⟨rfl, rfl⟩)
  have v226 : M21.1 226 (M.1 191 60) = x1 := by rw [e21, sI_ne (by omega), e19, sI_ne (by omega), e16, sI_ne (by omega), e13, sI_self]
  have v227 : M21.1 227 (M.1 191 60) = x2 := by rw [e21, sI_ne (by omega), e19, sI_ne (by omega), e16, sI_self]
  have v228 : M21.1 228 (M.1 191 60) = 0 := by rw [e21, sI_ne (by omega), e19, sI_self]
  refine h.note hF (fun k j _ q => by omega) (hn.add (by omega) hF (by rw [e21, sI_self]) (Or.inl ?_))
  rw [v226, v227, v228]
  exact ⟨rfl, o.1, o.2.1, o.2.2, o2.elim Or.inl (fun q => Or.inr ⟨q.1, q.2.1⟩)⟩
theorem ri_note {M : Mem} {V : TV} (h : RI M V) (x1 x2 : Int) : Ok (fun r => RI r.1 V) (t_MO_note M x1 x2) := by
  unfold t_MO_note
  refine ok_let (fun M1 e1 => ?_)
  have h1 : RI M1 V := by rw [e1]; exact h.set0 0
  rcases m_isOpen h1.1.2.1 h1.1.1 x1 with ⟨o, e⟩ | ⟨o, e⟩
  · rw [e, obind_some, if_neg (by decide)]
    refine ok_ite (fun c => ri_note_L26 h1 x1 x2 o (Or.inl c)) (fun c => ?_)
    rcases m_isOpen h1.1.2.1 h1.1.1 x2 with ⟨o2, e⟩ | ⟨o2, e⟩
    · rw [e, obind_some, if_neg (by decide)]; exact ri_note_L26 h1 x1 x2 o (Or.inr o2)
    · rw [e, obind_some, if_pos rfl]; exact ok_some h1
  · rw [e, obind_some, if_pos rfl]; exact ok_some h1
theorem ri_strike {M : Mem} {V : TV} (h : RI M V) (x1 : Int) : Ok (fun r => RI r.1 V) (t_MO_strike M x1) := by
  unfold t_MO_strike
  refine ok_let (fun M1 e1 => ?_)
  have h1 : RI M1 V := by rw [e1]; exact h.set0 0
  have hn := h1.2.2.2.2.2
  have hn0 := hn.1
  have hn1 := hn.2.1
  refine ok_ite (fun _ => ok_some h1) (fun c1 => ok_ite (fun _ => ok_some h1) (fun c2 => ok_ite (fun _ => ok_some h1) (fun c3 => ?_)))
  refine ok_guard (by omega) (ok_let (fun M9 e9 => ?_))
  have c9 : M9.1 191 60 = M1.1 191 60 := by rw [e9, sI_ne (by omega)]
  rw [c9]
  refine ok_guard (by omega) (ok_let (fun M12 e12 => ?_))
  have c12 : M12.1 191 60 = M1.1 191 60 := by rw [e12, sI_ne (by omega)]; exact c9
  rw [c12, w32_id (x := M1.1 191 60 + 1) (by unfold InR; omega)]
  refine ok_let (fun M14 e14 => ok_some ?_)
  have hF : Fr (fun k j => ((226 ≤ k ∧ k ≤ 228) ∧ j = M1.1 191 60) ∨ (k = 191 ∧ j = 60)) M1 M14 := by
    rw [e14, e12, e9]
    exact ((Fr.rf.setI (Or.inl ⟨by omega, rfl⟩)).setI (Or.inl ⟨by omega, rfl⟩)).setI (Or.inr ⟨rfl, rfl⟩)
  have v226 : M14.1 226 (M1.1 191 60) = x1 := by rw [e14, sI_ne (by omega), e12, sI_ne (by omega), e9, sI_self]
  have v228 : M14.1 228 (M1.1 191 60) = 1 := by rw [e14, sI_ne (by omega), e12, sI_self]
  refine h1.note hF (fun k j _ q => by omega) (hn.add (by omega) hF (by rw [e14, sI_self]) (Or.inr ?_))
  rw [v226, v228]
  exact ⟨rfl, by omega, by omega⟩
theorem ri_known {M : Mem} {V : TV} (h : RI M V) (x1 : Int) : RI (t_MO_known M x1).1 V := by
  have h1 : RI (setI M 191 0 0) V := h.set0 0
  have e60 : (setI M 191 0 0).1 191 60 = M.1 191 60 := by rw [sI_ne (by omega)]
  unfold t_MO_known
  simp only [qlet]
  by_cases c : x1 < -1
  · rw [if_pos c]; exact h1
  · rw [if_neg c]
    by_cases c2 : x1 ≤ uI M.1 191 0 0 191 60
    · rw [if_pos c2]
      rw [show uI M.1 191 0 0 191 60 = M.1 191 60 from e60] at c2
      have hn := h1.2.2.2.2.2
      have e61 : (setI (setI M 191 0 0) 191 61 x1).1 191 60 = M.1 191 60 := by rw [sI_ne (by omega), e60]
      refine h1.note (W := fun k j => k = 191 ∧ j = 61) (Fr.rf.setI ⟨rfl, rfl⟩) (fun k j _ q => by omega) ?_
      obtain ⟨n1, n2, n3, n4, n5⟩ := hn
      refine ⟨by rw [e61, ← e60]; exact n1, by rw [e61, ← e60]; exact n2, by rw [sI_self]; omega, by rw [sI_self, e61]; exact c2, fun k a b => ?_⟩
      rw [sI_ne (by omega), sI_ne (by omega), sI_ne (by omega)]
      exact n5 k a (by rw [e60, ← e61]; exact b)
    · rw [if_neg c2]; exact h1
