section
/-! ===== years, clock, small questions, notes of the reference ===== -/
theorem q_and_low {x : Int} : 0 ≤ q_and x 2147483647 ∧ q_and x 2147483647 ≤ 2147483647 := by
  have hi := (inrq_and (x := x) (y := 2147483647))
  refine ⟨?_, hi.2⟩
  unfold q_and
  have e : (Int32.ofInt x &&& Int32.ofInt 2147483647).toBitVec.msb = false := by
    rw [Int32.toBitVec_and, BitVec.msb_and]
    have : (Int32.ofInt 2147483647).toBitVec.msb = false := by decide
    rw [this, Bool.and_false]
  show 0 ≤ (Int32.ofInt x &&& Int32.ofInt 2147483647).toBitVec.toInt
  rw [BitVec.toInt_eq_msb_cond, e]
  simp
theorem q_shr16 {x : Int} (h : InR x) : q_shr x 16 = x / 65536 := by
  unfold q_shr
  show ((Int32.ofInt x >>> Int32.ofInt 16).toBitVec).toInt = _
  rw [Int32.toBitVec_shiftRight]
  have e : ((Int32.ofInt 16).toBitVec.smod 32) = 16#32 := by decide
  rw [e]
  show ((Int32.ofInt x).toBitVec.sshiftRight 16).toInt = _
  rw [BitVec.toInt_sshiftRight]
  show (Int32.ofInt x).toInt >>> 16 = _
  rw [q_toInt_of h, Int.shiftRight_eq_div_pow]
  rfl
theorem m_found {M : Mem} {r N : Nat} {x2 x4 : Int} {len : Nat} (h2 : 0 ≤ x2) (hN : x2 + (len : Int) ≤ (N : Int)) (hb : N ≤ 100000) : ∀ (n a fu : Nat), a + n = len → n < fu → (∀ b, b < a → M.1 r (x2 + (b : Int)) ≠ x4) → t_MO_found_L3 r N x2 (len : Int) x4 fu M (a : Int) = some (fI (fnd (fun b => M.1 r (x2 + (b : Int))) x4 len)) := by
  intro n
  induction n with
  | zero =>
    intro a fu g0 g1 hb
    obtain ⟨g, rfl⟩ : ∃ g, fu = g + 1 := ⟨fu - 1, by omega⟩
    rw [t_MO_found_L3, if_pos (by omega)]
    cases e : fnd (fun b => M.1 r (x2 + (b : Int))) x4 len with
    | none => rfl
    | some b => have := fnd_some e; exact absurd this.2.1 (hb b (by omega))
  | succ n ih =>
    intro a fu g0 g1 hb
    obtain ⟨g, rfl⟩ : ∃ g, fu = g + 1 := ⟨fu - 1, by omega⟩
    rw [t_MO_found_L3, if_neg (by omega), w32_id (x := x2 + (a : Int)) (by unfold InR; omega), qguard_pos ⟨by omega, by omega⟩, w32_succ (t := a) (by omega)]
    by_cases c : M.1 r (x2 + (a : Int)) = x4
    · rw [if_pos c]
      cases e : fnd (fun b => M.1 r (x2 + (b : Int))) x4 len with
      | none => exact absurd c (fnd_none e a (by omega))
      | some b =>
        have hs := fnd_some e
        have : b = a := by
          by_cases q : b < a
          · exact absurd hs.2.1 (hb b q)
          · by_cases q2 : a < b
            · exact absurd c (hs.2.2 a q2)
            · omega
        rw [this]; rfl
    · rw [if_neg c]
      exact ih (a + 1) g (by omega) (by omega) (fun b hb2 => by
        by_cases e : b = a
        · rw [e]; exact c
        · exact hb b (by omega))
theorem m_found0 {M : Mem} {r N : Nat} {x2 x4 : Int} {len : Nat} (h2 : 0 ≤ x2) (hN : x2 + (len : Int) ≤ (N : Int)) (hb : N ≤ 100000) : t_MO_found M r N x2 (len : Int) x4 = some (fI (fnd (fun b => M.1 r (x2 + (b : Int))) x4 len)) := m_found h2 hN hb len 0 FU (by omega) (fu_big (by omega)) (fun b hb => by omega)
theorem ri_named {M : Mem} {V : TV} (h : RI M V) (x1 x2 : Int) : Ok (fun r => RI r.1 V) (t_MO_named M x1 x2) := by
  unfold t_MO_named
  refine ok_let (fun M1 e1 => ?_)
  have h1 : RI M1 V := by rw [e1]; exact h.set0 0
  have hv := h.1.1.1
  have hm := h1.1.2.1.1
  refine ok_ite (fun _ => ?_) (fun _ => ok_ite (fun _ => ?_) (fun _ => ok_some h1))
  · obtain ⟨n, hn⟩ : ∃ n : Nat, M1.1 193 2 = (n : Int) := ⟨(M1.1 193 2).toNat, by omega⟩
    rw [hn, m_found0 (len := n) (by omega) (by omega) (by omega), obind_some]
    exact ok_some h1
  · obtain ⟨n, hn⟩ : ∃ n : Nat, M1.1 193 6 = (n : Int) := ⟨(M1.1 193 6).toNat, by omega⟩
    rw [hn, m_found0 (len := n) (by omega) (by omega) (by omega), obind_some]
    exact ok_some h1
theorem ri_fault {M : Mem} {V : TV} (h : RI M V) (x1 : Int) : RI (t_MO_fault M x1).1 V := by
  unfold t_MO_fault
  simp only [qlet]
  split
  · exact h.set0 0
  · split
    · exact h.set0 0
    · exact h.set0 0
theorem ri_thing {M : Mem} {V : TV} (h : RI M V) (x1 x2 : Int) : Ok (fun r => RI r.1 V) (t_MO_thing M x1 x2) := by
  unfold t_MO_thing
  refine ok_let (fun M1 e1 => ?_)
  have h1 : RI M1 V := by rw [e1]; exact h.set0 0
  have hv := h.1.1.1
  simp only [qlet]
  rw [m_isThing h1.1.2.1]
  by_cases c1 : 0 ≤ x1 ∧ x1 < V 0 3
  · rw [if_pos c1, if_neg (by decide)]
    exact ok_ite (fun _ => ok_guard (by omega) (ok_some h1)) (fun _ => ok_ite (fun _ => ok_guard (by omega) (ok_some h1)) (fun _ => ok_ite (fun _ => ok_guard (by omega) (ok_some h1)) (fun _ => ok_ite (fun _ => ok_guard (by omega) (ok_some h1)) (fun _ => ok_some h1))))
  · rw [if_neg c1, if_pos rfl]; exact ok_some h1
theorem ri_voted {M : Mem} {V : TV} (h : RI M V) (x1 x2 : Int) : Ok (fun r => RI r.1 V) (t_MO_voted M x1 x2) := by
  unfold t_MO_voted
  refine ok_let (fun M1 e1 => ?_)
  have h1 : RI M1 V := by rw [e1]; exact h.set0 0
  have hy := h1.2.2.1.2
  refine ok_ite (fun _ => ok_some h1) (fun c1 => ok_ite (fun c2 => ?_) (fun _ => ok_some h1))
  exact ok_ite (fun _ => ok_guard (by omega) (ok_some h1)) (fun _ => ok_ite (fun _ => ok_guard (by omega) (ok_some h1)) (fun _ => ok_ite (fun _ => ok_guard (by omega) (ok_some h1)) (fun _ => ok_some h1)))
theorem ri_count_loop {x1 : Int} {V : TV} {M : Mem} (h : RI M V) : ∀ (n fu : Nat) (v1 v2 : Int), v2 + (n : Int) = V 0 3 → 0 ≤ v2 → n < fu → Ok (fun r => RI r.1 V) (t_MO_count_L164 x1 fu M v1 v2) := by
  intro n
  induction n with
  | zero =>
    intro fu v1 v2 g0 g1 g2
    obtain ⟨g, rfl⟩ : ∃ g, fu = g + 1 := ⟨fu - 1, by omega⟩
    rw [t_MO_count_L164, h.1.2.1.1.2.2.2.1, if_pos (by omega)]
    exact ok_some h
  | succ n ih =>
    intro fu v1 v2 g0 g1 g2
    obtain ⟨g, rfl⟩ : ∃ g, fu = g + 1 := ⟨fu - 1, by omega⟩
    have hv := h.1.1.1
    have hr := h.row0.2.1 v2 g1 (by omega)
    rw [show 8 * 0 + v2 = v2 by omega] at hr
    rw [t_MO_count_L164, h.1.2.1.1.2.2.2.1, if_neg (by omega), qguard_pos ⟨g1, by omega⟩, h.next (by omega) h.row0 hr.1 hr.2, obind_some]
    unfold t_MO_count_L196
    rw [w32_id (x := v2 + 1) (by unfold InR; omega)]
    exact ok_ite (fun _ => ih g _ (v2 + 1) (by omega) (by omega) (by omega)) (fun _ => ih g _ (v2 + 1) (by omega) (by omega) (by omega))
theorem ri_count {M : Mem} {V : TV} (h : RI M V) (x1 : Int) : Ok (fun r => RI r.1 V) (t_MO_count M x1) := by
  unfold t_MO_count
  refine ok_let (fun M1 e1 => ?_)
  have h1 : RI M1 V := by rw [e1]; exact h.set0 0
  have hv := h.1.1.1
  have S : ∀ v : Int, Ok (fun r : Mem × Int => RI r.1 V) (some (M1, v)) := fun v => ok_some h1
  have B : ∀ w : Int64, Ok (fun r : Mem × Int => RI r.1 V) (obind (t_MO_bitsOf M1 w) fun q => some (M1, q)) := fun w => ok_bind (Q := fun _ => True) (by unfold t_MO_bitsOf; exact bitsOf_ok 48 FU _ _ _ (by omega) (by omega) (fu_big (by omega))) (fun q _ => S q)
  exact ok_ite (fun _ => S _) (fun _ => ok_ite (fun _ => S _) (fun _ => ok_ite (fun _ => S _) (fun _ => ok_ite (fun _ => S _) (fun _ => ok_ite (fun _ => S _) (fun _ => ok_ite (fun _ => S _) (fun _ => ok_ite (fun _ => S _) (fun _ => ok_ite (fun _ => S _) (fun _ => ok_ite (fun _ => S _) (fun _ => ok_ite (fun _ => S _) (fun _ => ok_ite (fun _ => B _) (fun _ => ok_ite (fun _ => B _) (fun _ => ok_ite (fun _ => ri_count_loop h1 (V 0 3).toNat FU 0 0 (by omega) (by omega) (fu_big (by omega))) (fun _ => S _)))))))))))))
def stV (V : TV) (D : Int → Int) (c : Int) : Int := if V 8 c = 1 then 0 else if V 9 c = 1 then 1 else if dnV V D c = 4 then 0 else if bsV V c (dnV V D c) < 0 then 1 else if V 8 (bsV V c (dnV V D c)) = 1 then 1 else 0
theorem RI.stands {M : Mem} {V : TV} (h : RI M V) {c : Int} (h0 : 0 ≤ c) (h1 : c < cellsV V) : t_MO_stands M c = some (stV V (DN M 0) c) := by
  have hC := h.1.1.cells
  have m := h.1.2.1.2.2.2 c h0 (by omega)
  have o := h.1.1.2.2.2 c h0 (by omega)
  have hd := dn_rng h.1.1 h.row0.1 h0 (c := c) (by omega)
  have hd2 : 0 ≤ dnV V (DN M 0) c ∧ dnV V (DN M 0) c ≤ 4 := hd
  have hb := bs_rng h.1.1 h0 h1 (dnV V (DN M 0) c)
  unfold t_MO_stands stV
  rw [qguard_pos ⟨h0, by omega⟩, m.2.1, m.2.2]
  rcases o.2.2.1 with w | w
  · rw [if_pos w, if_neg (show ¬ V 8 c = 1 by omega), qguard_pos ⟨h0, by omega⟩]
    rcases o.2.2.2 with s | s
    · rw [if_pos s, if_neg (show ¬ V 9 c = 1 by omega), m_down h.1.2.1 h.1.1 (MSc.self M 0 V) (by rw [h.2.1]; decide) (by omega) h0 (by omega), obind_some]
      by_cases q : dnV V (DN M 0) c = 4
      · rw [if_pos q, if_pos q]
      · rw [if_neg q, if_neg q, m_beside h.1.2.1 h.1.1 h0 h1 hd2.1 hd2.2, obind_some]
        by_cases q2 : bsV V c (dnV V (DN M 0) c) < 0
        · rw [if_pos (by omega), if_pos q2]
        · have o2 := (h.1.1.2.2.2 (bsV V c (dnV V (DN M 0) c)) (by omega) (by omega)).2.2.1
          rw [if_neg (by omega), if_neg q2, qguard_pos ⟨by omega, by omega⟩, (h.1.2.1.2.2.2 _ (by omega) (by omega)).2.1]
          rcases o2 with w2 | w2
          · rw [if_pos w2, if_neg (show ¬ V 8 (bsV V c (dnV V (DN M 0) c)) = 1 by omega)]
          · rw [if_neg (show ¬ V 8 (bsV V c (dnV V (DN M 0) c)) = 0 by omega), if_pos w2]
    · rw [if_neg (show ¬ V 9 c = 0 by omega), if_pos s]
  · rw [if_neg (show ¬ V 8 c = 0 by omega), if_pos w]
theorem RI.set00 {M : Mem} {V : TV} (h : RI M V) (v : Int) : RI (setI M 191 0 v) V := h.set0 v
theorem ri_cell {M : Mem} {V : TV} (h : RI M V) (x1 x2 : Int) : Ok (fun r => RI r.1 V) (t_MO_cell M x1 x2) := by
  unfold t_MO_cell t_MO_cell_L23
  simp only [qlet]
  rw [m_isCell h.1.2.1 h.1.1]
  have bad : ∀ v : Int, v ≠ 0 → Ok (fun r : Mem × Int => RI r.1 V) (t_MO_cell_L28 x1 x2 M v) := by
    intro v hv
    unfold t_MO_cell_L28
    refine ok_let (fun M6 e6 => ?_)
    have e0 : M6.1 191 0 = v := by rw [e6, sI_self]
    rw [e0, if_neg hv]
    exact ok_some (by rw [e6]; exact h.set0 v)
  by_cases c1 : 0 ≤ x1 ∧ x1 < cellsV V
  · rw [if_pos c1, if_neg (by decide)]
    refine ok_ite (fun _ => bad 2 (by decide)) (fun _ => ok_ite (fun _ => ?_) (fun _ => bad 2 (by decide)))
    unfold t_MO_cell_L28
    refine ok_let (fun M1 e1 => ?_)
    have e0 : M1.1 191 0 = 0 := by rw [e1, sI_self]
    have h1 : RI M1 V := by rw [e1]; exact h.set0 0
    have hC := h.1.1.cells
    rw [e0, if_pos rfl]
    have S : ∀ v : Int, Ok (fun r : Mem × Int => RI r.1 V) (some (M1, v)) := fun v => ok_some h1
    refine ok_ite (fun _ => ok_guard (by omega) (S _)) (fun _ => ok_ite (fun _ => ok_guard (by omega) (ok_ite (fun _ => S _) (fun _ => S _))) (fun _ => ok_ite (fun _ => ok_guard (by omega) (ok_ite (fun _ => S _) (fun _ => S _))) (fun _ => ok_ite (fun _ => S _) (fun _ => ok_ite (fun _ => S _) (fun _ => ok_ite (fun _ => ?_) (fun _ => ok_ite (fun _ => ?_) (fun _ => ?_)))))))
    · rw [m_thingIn (by omega) h1.1.1 h1.1.2.1 c1.1 (h1.th 0), obind_some]; exact S _
    · refine ok_guard (by omega) (ok_ite (fun _ => ?_) (fun _ => S _))
      rw [h1.next (by omega) h1.row0 c1.1 c1.2, obind_some]; exact S _
    · rw [h1.stands c1.1 c1.2, obind_some]
      exact ok_ite (fun _ => S _) (fun _ => S _)
  · rw [if_neg c1, if_pos rfl]
    exact bad 1 (by decide)
theorem RI.note {W : Nat → Int → Prop} {M N : Mem} {V : TV} (h : RI M V) (hF : Fr W M N) (hd : ∀ k j, RIc k j → W k j → (226 ≤ k ∧ k ≤ 228) ∨ (k = 191 ∧ (j = 60 ∨ j = 61))) (hn : NotesOK N V) : RI N V := by
  obtain ⟨⟨a1, a2, a3, a4⟩, b, ⟨c1, c2⟩, ⟨d1, d2⟩, ⟨e1, e2, e3⟩, f⟩ := h
  have nn : ∀ k j, RIc k j → ¬ (226 ≤ k ∧ k ≤ 228) → ¬ (k = 191 ∧ (j = 60 ∨ j = 61)) → ¬ W k j := fun k j x y z q => (hd k j x q).elim y z
  have row : ∀ a : Int, 0 ≤ a → a ≠ 1 → RowEq N a M a := fun a x y => RowEq.fr hF (fun k j hk => nn k j (CW_RIc ⟨x, y⟩ k j hk) (by unfold CW at hk; omega) (by unfold CW at hk; omega))
  have q : ∀ j : Int, (j = 42 ∨ j = 43 ∨ j = 44) → N.1 191 j = M.1 191 j := fun j hj => (hF 191 j (nn _ _ (by unfold RIc; omega) (by omega) (by omega))).1
  have q0 := row 0 (by omega) (by omega)
  refine ⟨⟨a1, MT0.fr hF (fun k j x y => nn k j (by unfold RIc; omega) (by omega) (by omega)) a2, a3, MF1.fr hF (fun k j x y => nn k j (by unfold RIc; omega) (by omega) (by omega)) a4.1, MF1.fr hF (fun k j x y => nn k j (by unfold RIc; omega) (by omega) (by omega)) a4.2⟩, by rw [q 44 (by omega)]; exact b, ⟨c1.of a1 q0, by rw [q0.1.1, q0.1.2.2.1]; exact c2⟩, ⟨by rw [q 42 (by omega)]; exact d1, fun h => ?_⟩, ⟨by rw [q 43 (by omega)]; exact e1, by rw [q 43 (by omega)]; exact e2, fun k x y => ?_⟩, hn⟩
  · have q2 := row 2 (by omega) (by omega)
    obtain ⟨r1, r2⟩ := d2 (by rw [← q 42 (by omega)]; exact h)
    exact ⟨r1.of a1 q2, by rw [q2.1.1, q2.1.2.2.1]; exact r2⟩
  · rw [q 43 (by omega)] at y
    have q3 := row (3 + k) (by omega) (by omega)
    obtain ⟨r1, r2, r3, r4⟩ := e3 k x y
    exact ⟨r1.of a1 q3, by rw [q3.1.1, q0.1.1]; exact r2, by rw [q3.1.2.1, q0.1.2.1]; exact r3, by rw [q3.1.2.2.1, q0.1.2.2.1]; exact r4⟩
theorem NotesOK.add {M N : Mem} {V : TV} (h : NotesOK M V) (hlt : M.1 191 60 < 24) (hF : Fr (fun k j => ((226 ≤ k ∧ k ≤ 228) ∧ j = M.1 191 60) ∨ (k = 191 ∧ j = 60)) M N) (h60 : N.1 191 60 = M.1 191 60 + 1) (hnew : (N.1 228 (M.1 191 60) = 0 ∧ 0 ≤ N.1 226 (M.1 191 60) ∧ N.1 226 (M.1 191 60) < cellsV V ∧ V 8 (N.1 226 (M.1 191 60)) = 0 ∧ (N.1 227 (M.1 191 60) = -1 ∨ (0 ≤ N.1 227 (M.1 191 60) ∧ N.1 227 (M.1 191 60) < cellsV V))) ∨ (N.1 228 (M.1 191 60) = 1 ∧ 0 ≤ N.1 226 (M.1 191 60) ∧ N.1 226 (M.1 191 60) < M.1 191 60)) : NotesOK N V := by
  obtain ⟨h1, h2, h3, h4, h5⟩ := h
  unfold NotesOK
  rw [h60, (hF 191 61 (by omega)).1]
  refine ⟨by omega, by omega, h3, by omega, fun k a b => ?_⟩
  by_cases e : k = M.1 191 60
  · rw [e]; exact hnew
  · rw [(hF 226 k (by omega)).1, (hF 227 k (by omega)).1, (hF 228 k (by omega)).1]
    exact h5 k a (by omega)
theorem ri_note_L26 {M : Mem} {V : TV} (h : RI M V) (x1 x2 : Int) (o : opV V x1) (o2 : x2 = -1 ∨ opV V x2) : Ok (fun r => RI r.1 V) (t_MO_note_L26 x1 x2 M) := by
  have hn := h.2.2.2.2.2
  have hn0 := hn.1
  have hn1 := hn.2.1
  unfold t_MO_note_L26
  refine ok_ite (fun _ => ok_some h) (fun c => ?_)
  refine ok_guard (by omega) (ok_let (fun M13 e13 => ?_))
  have c13 : M13.1 191 60 = M.1 191 60 := by rw [e13, sI_ne (by omega)]
  rw [c13]
  refine ok_guard (by omega) (ok_let (fun M16 e16 => ?_))
  have c16 : M16.1 191 60 = M.1 191 60 := by rw [e16, sI_ne (by omega)]; exact c13
  rw [c16]
  refine ok_guard (by omega) (ok_let (fun M19 e19 => ?_))
  have c19 : M19.1 191 60 = M.1 191 60 := by rw [e19, sI_ne (by omega)]; exact c16
  rw [c19, w32_id (x := M.1 191 60 + 1) (by unfold InR; omega)]
  refine ok_let (fun M21 e21 => ok_some ?_)
  have hF : Fr (fun k j => ((226 ≤ k ∧ k ≤ 228) ∧ j = M.1 191 60) ∨ (k = 191 ∧ j = 60)) M M21 := by
    rw [e21, e19, e16, e13]
    exact (((Fr.rf.setI (Or.inl ⟨by omega, rfl⟩)).setI (Or.inl ⟨by omega, rfl⟩)).setI (Or.inl ⟨by omega, rfl⟩)).setI (Or.inr ⟨rfl, rfl⟩)
  have v226 : M21.1 226 (M.1 191 60) = x1 := by rw [e21, sI_ne (by omega), e19, sI_ne (by omega), e16, sI_ne (by omega), e13, sI_self]
  have v227 : M21.1 227 (M.1 191 60) = x2 := by rw [e21, sI_ne (by omega), e19, sI_ne (by omega), e16, sI_self]
  have v228 : M21.1 228 (M.1 191 60) = 0 := by rw [e21, sI_ne (by omega), e19, sI_self]
  refine h.note hF (fun k j _ q => by omega) (hn.add (by omega) hF (by rw [e21, sI_self]) (Or.inl ?_))
  rw [v226, v227, v228]
  exact ⟨rfl, o.1, o.2.1, o.2.2, o2.elim Or.inl (fun q => Or.inr ⟨q.1, q.2.1⟩)⟩
theorem ri_note {M : Mem} {V : TV} (h : RI M V) (x1 x2 : Int) : Ok (fun r => RI r.1 V) (t_MO_note M x1 x2) := by
  unfold t_MO_note
  refine ok_let (fun M1 e1 => ?_)
  have h1 : RI M1 V := by rw [e1]; exact h.set0 0
  rcases m_isOpen h1.1.2.1 h1.1.1 x1 with ⟨o, e⟩ | ⟨o, e⟩
  · rw [e, obind_some, if_neg (by decide)]
    refine ok_ite (fun c => ri_note_L26 h1 x1 x2 o (Or.inl c)) (fun c => ?_)
    rcases m_isOpen h1.1.2.1 h1.1.1 x2 with ⟨o2, e⟩ | ⟨o2, e⟩
    · rw [e, obind_some, if_neg (by decide)]; exact ri_note_L26 h1 x1 x2 o (Or.inr o2)
    · rw [e, obind_some, if_pos rfl]; exact ok_some h1
  · rw [e, obind_some, if_pos rfl]; exact ok_some h1
theorem ri_strike {M : Mem} {V : TV} (h : RI M V) (x1 : Int) : Ok (fun r => RI r.1 V) (t_MO_strike M x1) := by
  unfold t_MO_strike
  refine ok_let (fun M1 e1 => ?_)
  have h1 : RI M1 V := by rw [e1]; exact h.set0 0
  have hn := h1.2.2.2.2.2
  have hn0 := hn.1
  have hn1 := hn.2.1
  refine ok_ite (fun _ => ok_some h1) (fun c1 => ok_ite (fun _ => ok_some h1) (fun c2 => ok_ite (fun _ => ok_some h1) (fun c3 => ?_)))
  refine ok_guard (by omega) (ok_let (fun M9 e9 => ?_))
  have c9 : M9.1 191 60 = M1.1 191 60 := by rw [e9, sI_ne (by omega)]
  rw [c9]
  refine ok_guard (by omega) (ok_let (fun M12 e12 => ?_))
  have c12 : M12.1 191 60 = M1.1 191 60 := by rw [e12, sI_ne (by omega)]; exact c9
  rw [c12, w32_id (x := M1.1 191 60 + 1) (by unfold InR; omega)]
  refine ok_let (fun M14 e14 => ok_some ?_)
  have hF : Fr (fun k j => ((226 ≤ k ∧ k ≤ 228) ∧ j = M1.1 191 60) ∨ (k = 191 ∧ j = 60)) M1 M14 := by
    rw [e14, e12, e9]
    exact ((Fr.rf.setI (Or.inl ⟨by omega, rfl⟩)).setI (Or.inl ⟨by omega, rfl⟩)).setI (Or.inr ⟨rfl, rfl⟩)
  have v226 : M14.1 226 (M1.1 191 60) = x1 := by rw [e14, sI_ne (by omega), e12, sI_ne (by omega), e9, sI_self]
  have v228 : M14.1 228 (M1.1 191 60) = 1 := by rw [e14, sI_ne (by omega), e12, sI_self]
  refine h1.note hF (fun k j _ q => by omega) (hn.add (by omega) hF (by rw [e14, sI_self]) (Or.inr ?_))
  rw [v226, v228]
  exact ⟨rfl, by omega, by omega⟩
theorem ri_known {M : Mem} {V : TV} (h : RI M V) (x1 : Int) : RI (t_MO_known M x1).1 V := by
  have h1 : RI (setI M 191 0 0) V := h.set0 0
  have e60 : (setI M 191 0 0).1 191 60 = M.1 191 60 := by rw [sI_ne (by omega)]
  unfold t_MO_known
  simp only [qlet]
  by_cases c : x1 < -1
  · rw [if_pos c]; exact h1
  · rw [if_neg c]
    by_cases c2 : x1 ≤ uI M.1 191 0 0 191 60
    · rw [if_pos c2]
      rw [show uI M.1 191 0 0 191 60 = M.1 191 60 from e60] at c2
      have hn := h1.2.2.2.2.2
      have e61 : (setI (setI M 191 0 0) 191 61 x1).1 191 60 = M.1 191 60 := by rw [sI_ne (by omega), e60]
      refine h1.note (W := fun k j => k = 191 ∧ j = 61) (Fr.rf.setI ⟨rfl, rfl⟩) (fun k j _ q => by omega) ?_
      obtain ⟨n1, n2, n3, n4, n5⟩ := hn
      refine ⟨by rw [e61, ← e60]; exact n1, by rw [e61, ← e60]; exact n2, by rw [sI_self]; omega, by rw [sI_self, e61]; exact c2, fun k a b => ?_⟩
      rw [sI_ne (by omega), sI_ne (by omega), sI_ne (by omega)]
      exact n5 k a (by rw [e60, ← e61]; exact b)
    · rw [if_neg c2]; exact h1
end
section
/-! ===== years and the clock of the reference ===== -/
theorem RI.floods0 {M : Mem} {V : TV} (h : RI M V) : ∃ N, t_MO_floods M 0 = some N ∧ N.2 211 0 = flS (nxR M 0 V) (M.2 211 0) (cellsV V).toNat ∧ Fr (fun k j => k = 211 ∧ j = 0) M N ∧ RI N V := by
  have hC := h.1.1.cells
  obtain ⟨O, e1, e2, e3⟩ := (h.nb h.row0).floods (by omega)
  exact ⟨O, e1, e2, e3, h.now0 e3 (fun k j _ q => by omega) (RowOK.water e3 h.row0 (fun c a b => by rw [e2]; exact flS_bits (nx_ok h.1.1 _ _ _) hC.2 ⟨a, b⟩ (by omega) _ (by omega)))⟩
theorem RI.scr {M : Mem} {V : TV} {k : Nat} {j v : Int} (h : RI M V) (hk : k = 216 ∨ k = 217 ∨ k = 218) : RI (setI M k j v) V := h.fr (W := fun k' j' => k' = k ∧ j' = j) (Fr.rf.setI ⟨rfl, rfl⟩) (fun k' j' a q => by unfold RIc at a; omega)
/-- a change of row 0's numbers where nothing can be brought back -/
theorem RI.set9 {M : Mem} {V : TV} {k : Nat} {v : Int} (h : RI M V) (hu : M.1 191 43 = 0) (hk : (k = 209 ∧ 0 ≤ v ∧ v ≤ 2147483647) ∨ (k = 207 ∧ 0 ≤ v ∧ v ≤ 99)) : RI (setI M k 0 v) V := by
  have hy := h.2.2.1.2
  have hr := h.row0
  refine h.now (W := fun k' j' => k' = k ∧ j' = 0) (Fr.rf.setI ⟨rfl, rfl⟩) (fun k' j' a q => Or.inl (by unfold CW; omega)) ⟨fun w a b => ?_, fun t a b => ?_, fun c a b => hr.2.2 c a b⟩ ?_ ?_ ?_ (fun q => ?_)
  · rw [sI_ne (by omega)]; exact hr.1 w a b
  · rw [sI_ne (by omega)]; exact hr.2.1 t a b
  · rcases hk with ⟨rfl, hk⟩ | ⟨rfl, hk⟩
    · rw [sI_ne (by omega)]; exact ⟨hy.1, hy.2.1⟩
    · rw [sI_self]; exact hk
  · rcases hk with ⟨rfl, hk⟩ | ⟨rfl, hk⟩
    · rw [sI_self]; exact hk
    · rw [sI_ne (by omega)]; exact hy.2.2
  · rw [sI_ne (by omega)]; omega
  · rw [sI_ne (by omega)] at q; omega
theorem RI.down0 {M : Mem} {V : TV} {w d : Int} (h : RI M V) (hw : 0 ≤ w ∧ w < 4) (hd : 0 ≤ d ∧ d ≤ 4) : RI (setI M 212 w d) V := by
  have hr := h.row0
  refine h.now0 (W := fun k j => k = 212 ∧ j = w) (Fr.rf.setI ⟨rfl, rfl⟩) (fun k j _ q => by omega) ⟨fun x a b => ?_, fun t a b => ?_, fun c a b => hr.2.2 c a b⟩
  · by_cases e : 4 * 0 + x = w
    · rw [e, sI_self]; exact hd
    · rw [sI_ne (by omega)]; exact hr.1 x a b
  · rw [sI_ne (by omega)]; exact hr.2.1 t a b
theorem draw_rng {d b : Int} (hd : 0 ≤ d ∧ d ≤ 2147483647) (hb : 0 < b ∧ b ≤ 4) : 0 ≤ q_rem (q_shr d 16) b ∧ q_rem (q_shr d 16) b < b := by
  rw [q_shr16 (by unfold InR; omega), q_rem_nn (by unfold InR; omega) (by unfold InR; omega) (by omega) hb.1]
  have h1 := Int.emod_nonneg (d / 65536) (b := b) (by omega)
  have h2 := Int.emod_lt_of_pos (d / 65536) hb.1
  omega
theorem RI.draw {M : Mem} {V : TV} (h : RI M V) (hu : M.1 191 43 = 0) {b : Int} (hb : 0 < b ∧ b ≤ 4) : Ok (fun r => RI r.1 V ∧ (0 ≤ r.2 ∧ r.2 < b) ∧ Fr (fun k j => k = 209 ∧ j = 0) M r.1) (t_MO_draw M b) := by
  unfold t_MO_draw
  refine ok_let (fun M2 e2 => ?_)
  have hd := q_and_low (x := w32 (w32 (M.1 209 0 * 1103515245) + 12345))
  rw [if_neg (by omega)]
  refine ok_some ⟨by rw [e2]; exact h.set9 hu (Or.inl ⟨rfl, hd⟩), ?_, by rw [e2]; exact Fr.rf.setI ⟨rfl, rfl⟩⟩
  have e : M2.1 209 0 = q_and (w32 (w32 (M.1 209 0 * 1103515245) + 12345)) 2147483647 := by rw [e2, sI_self]
  show 0 ≤ q_rem (q_shr (M2.1 209 0) 16) b ∧ _
  rw [e]
  exact draw_rng hd hb
theorem ri_years_loop {x1 : Int} {V : TV} : ∀ (n fu : Nat) (M : Mem) (v2 : Int), v2 + (n : Int) = x1 → 0 ≤ v2 → x1 ≤ 99 → n < fu → RI M V → M.1 207 0 + (n : Int) ≤ 99 → (0 < n → M.1 191 43 = 0) → Ok (fun r => RI r.1 V) (t_MO_years_L41 x1 fu M v2) := by
  intro n
  induction n with
  | zero =>
    intro fu M v2 g0 g1 g3 g2 h hy hu
    obtain ⟨g, rfl⟩ : ∃ g, fu = g + 1 := ⟨fu - 1, by omega⟩
    rw [t_MO_years_L41, if_pos (by omega)]
    exact ok_some h
  | succ n ih =>
    intro fu M v2 g0 g1 g3 g2 h hy hu
    obtain ⟨g, rfl⟩ : ∃ g, fu = g + 1 := ⟨fu - 1, by omega⟩
    have h43 := hu (by omega)
    have hy0 := h.2.2.1.2
    have hyy : M.1 207 0 = M.1 207 0 := rfl
    have hv := h.1.1.1
    have h2 := h.1.2.1.1.2.2.1
    rw [t_MO_years_L41, if_neg (by omega)]
    have nx : ∀ N : Mem, RI N V → N.1 191 43 = 0 → N.1 207 0 = M.1 207 0 → Ok (fun r => RI r.1 V) (t_MO_years_L149 x1 (fun a0_ a1_ => t_MO_years_L41 x1 g a0_ a1_) N v2) := by
      intro N hN n43 n7
      unfold t_MO_years_L149
      refine ok_let (fun M39 e39 => ?_)
      rw [w32_id (x := v2 + 1) (by unfold InR; omega)]
      rw [n7, w32_id (by unfold InR; omega)] at e39
      refine ih g M39 (v2 + 1) (by omega) (by omega) g3 (by omega) (by rw [e39]; exact hN.set9 n43 (Or.inr ⟨rfl, by omega, by omega⟩)) ?_ (fun _ => ?_)
      · rw [e39, sI_self]; omega
      · rw [e39, sI_ne (by omega)]; exact n43
    have h7 : ∀ N, Fr (fun k j => k = 216 ∨ k = 217 ∨ k = 218) M N → N.1 207 0 = M.1 207 0 := fun N q => (q 207 0 (by omega)).1
    generalize M.1 207 0 = y at *
    refine ok_guard (by omega) (ok_let (fun M12 e12 => ok_guard (by omega) (ok_let (fun M14 e14 => ok_guard (by omega) (ok_let (fun M16 e16 => ?_))))))
    have hF : Fr (fun k j => k = 216 ∨ k = 217 ∨ k = 218) M M16 := by
      rw [e16, e14, e12]; exact ((Fr.rf.setI (by omega)).setI (by omega)).setI (by omega)
    have r16 : RI M16 V := h.fr hF (fun k j a q => by unfold RIc at a; omega)
    have u16 : M16.1 191 43 = 0 := by rw [(hF 191 43 (by omega)).1]; exact h43
    have y16 : M16.1 207 0 = y := h7 M16 hF
    have w16 : M16.1 193 2 = V 0 2 := r16.1.2.1.1.2.2.1
    rw [w16]
    refine ok_ite (fun _ => nx M16 r16 u16 y16) (fun c => ?_)
    refine ok_bind (r16.draw u16 (b := V 0 2) (by omega)) (fun q20 h20 => ?_)
    have hq := h20.2.1
    have u20 : q20.1.1 191 43 = 0 := by rw [(h20.2.2 191 43 (by omega)).1]; exact u16
    have y20 : q20.1.1 207 0 = y := by rw [(h20.2.2 207 0 (by omega)).1]; exact y16
    refine ok_guard (by omega) (ok_let (fun M23 e23 => ok_guard (by omega) (ok_guard (by omega) (ok_let (fun M27 e27 => ?_)))))
    have r27 : RI M27 V := by rw [e27, e23]; exact (h20.1.scr (by omega)).scr (by omega)
    have u27 : M27.1 191 43 = 0 := by rw [e27, sI_ne (by omega), e23, sI_ne (by omega)]; exact u20
    have y27 : M27.1 207 0 = y := by rw [e27, sI_ne (by omega), e23, sI_ne (by omega)]; exact y20
    refine ok_bind (r27.draw u27 (b := 4) (by omega)) (fun q28 h28 => ?_)
    have u28 : q28.1.1 191 43 = 0 := by rw [(h28.2.2 191 43 (by omega)).1]; exact u27
    have y28 : q28.1.1 207 0 = y := by rw [(h28.2.2 207 0 (by omega)).1]; exact y27
    refine ok_guard (by omega) (ok_let (fun M31 e31 => ok_guard (by omega) (ok_guard (by omega) (ok_let (fun M35 e35 => ?_)))))
    have r35 : RI M35 V := by rw [e35, e31]; exact (h28.1.down0 (by omega) (by have := h28.2.1; omega)).scr (by omega)
    have u35 : M35.1 191 43 = 0 := by rw [e35, sI_ne (by omega), e31, sI_ne (by omega)]; exact u28
    have y35 : M35.1 207 0 = y := by rw [e35, sI_ne (by omega), e31, sI_ne (by omega)]; exact y28
    obtain ⟨N, n1, n2, n3, n4⟩ := r35.floods0
    rw [n1, obind_some]
    exact nx N n4 (by rw [(n3 191 43 (by omega)).1]; exact u35) (by rw [(n3 207 0 (by omega)).1]; exact y35)
theorem ri_years {M : Mem} {V : TV} (h : RI M V) (x1 : Int) : Ok (fun r => RI r.1 V) (t_MO_years M x1) := by
  unfold t_MO_years t_MO_years_L39
  refine ok_let (fun M1 e1 => ?_)
  have h1 : RI M1 V := by rw [e1]; exact h.set0 0
  have hy := h1.2.2.1.2
  refine ok_ite (fun _ => ok_some h1) (fun c1 => ok_ite (fun _ => ok_some h1) (fun c2 => ?_))
  rw [w32_id (x := M1.1 207 0 + x1) (by unfold InR; omega)]
  refine ok_ite (fun c3 => ?_) (fun _ => ok_some h1)
  refine ok_ite (fun c4 => ?_) (fun c4 => ok_let (fun M7 e7 => ?_))
  · exact ri_years_loop x1.toNat FU M1 0 (by omega) (by omega) (by omega) (fu_big (by omega)) h1 (by omega) (fun q => by omega)
  · have y7 : M7.1 207 0 = M1.1 207 0 := by rw [e7, sI_ne (by omega)]
    exact ri_years_loop x1.toNat FU M7 0 (by omega) (by omega) (by omega) (fu_big (by omega)) (by rw [e7]; exact h1.no_undo) (by rw [y7]; omega) (fun _ => by rw [e7, sI_self])
end
section
/-! ===== the reference's clock ===== -/
def LGW : Nat → Int → Prop := fun k j => (k = 191 ∧ (j = 46 ∨ j = 47 ∨ j = 48 ∨ j = 49 ∨ j = 50 ∨ j = 57)) ∨ k = 219
theorem LGW_RIc : ∀ k j, RIc k j → ¬ LGW k j := by intro k j a q; unfold RIc at a; unfold LGW at q; omega
theorem RowOK.fr {W : Nat → Int → Prop} {M N : Mem} {a : Int} {V : TV} (hV : VOK V) (hF : Fr W M N) (h : RowOK M a V) (hd : ∀ k j, CW a k j → ¬ W k j) : RowOK N a V := h.of hV (RowEq.fr hF hd)
theorem ri_longest_loop {V : TV} {a : Int} (ha : 0 ≤ a ∧ a < 23) {M0 : Mem} (h : RI M0 V) (hr : RowOK M0 a V) : ∀ (n fu : Nat) (M : Mem) (v2 v3 : Int), v3 + (n : Int) = cellsV V → 0 ≤ v3 → n < fu → Fr LGW M0 M → Ok (fun r => Fr LGW M0 r.1) (t_MO_longest_L9 a fu M v2 v3) := by
  have hC := h.1.1.cells
  intro n
  induction n with
  | zero =>
    intro fu M v2 v3 g0 g1 g2 hF
    obtain ⟨g, rfl⟩ : ∃ g, fu = g + 1 := ⟨fu - 1, by omega⟩
    have hM := h.fr hF LGW_RIc
    rw [t_MO_longest_L9]
    simp only [qlet]
    rw [m_cells hM.1.2.1 h.1.1, if_pos (by omega)]
    exact ok_some hF
  | succ n ih =>
    intro fu M v2 v3 g0 g1 g2 hF
    obtain ⟨g, rfl⟩ : ∃ g, fu = g + 1 := ⟨fu - 1, by omega⟩
    have hM := h.fr hF LGW_RIc
    have hrM : RowOK M a V := hr.fr h.1.1 hF (fun k j x q => by unfold CW at x; unfold LGW at q; omega)
    rw [t_MO_longest_L9]
    simp only [qlet]
    rw [m_cells hM.1.2.1 h.1.1, if_neg (by omega), qguard_pos ⟨by omega, by omega⟩]
    have nx : ∀ (N : Mem) (v : Int), Fr LGW M0 N → Ok (fun r => Fr LGW M0 r.1) (t_MO_longest_L63 a (fun a0_ a1_ a2_ => t_MO_longest_L9 a g a0_ a1_ a2_) N v v3) := by
      intro N v hN
      unfold t_MO_longest_L63
      rw [w32_id (x := v3 + 1) (by unfold InR; omega)]
      exact ih g N v (v3 + 1) (by omega) (by omega) (by omega) hN
    refine ok_ite (fun _ => ?_) (fun _ => nx M _ hF)
    refine ok_bind (hM.goesOk ha hrM g1 (by omega)) (fun N hN => ?_)
    have hFN : Fr LGW M0 N := hF.trans (hN.1.mono (fun k j q => by unfold W_MO_goesFrom at q; unfold LGW; omega))
    exact ok_ite (fun _ => nx N _ hFN) (fun _ => ok_ite (fun _ => nx _ _ (hFN.setI (by unfold LGW; omega))) (fun _ => nx N _ hFN))
theorem ri_longest {V : TV} {a : Int} (ha : 0 ≤ a ∧ a < 23) {M : Mem} (h : RI M V) (hr : RowOK M a V) : Ok (fun r => Fr LGW M r.1) (t_MO_longest M a) := by
  have hC := h.1.1.cells
  unfold t_MO_longest
  refine ok_let (fun M1 e1 => ?_)
  have hF : Fr LGW M M1 := by rw [e1]; exact Fr.rf.setI (by unfold LGW; omega)
  exact ri_longest_loop ha h hr (cellsV V).toNat FU M1 0 0 (by omega) (by omega) (fu_big (by omega)) hF
theorem ri_clock_L50 {x1 : Int} {V : TV} {bk : Mem → Int → Int → Int → Int → Int → Option (Mem × Int)} {v6 : Int} (hw : 0 ≤ v6 ∧ v6 < 4) (hbk : ∀ (M : Mem) (a b c d : Int), RI M V → Ok (fun r => RI r.1 V) (bk M a b c d (v6 + 1))) : ∀ (n fu : Nat) (M : Mem) (v2 v3 v4 v5 v7 : Int), v7 + (n : Int) = 5 → 0 ≤ v7 → n < fu → RI M V → Ok (fun r => RI r.1 V) (t_MO_clock_L50 x1 bk fu M v2 v3 v4 v5 v6 v7) := by
  intro n
  induction n with
  | zero =>
    intro fu M v2 v3 v4 v5 v7 g0 g1 g2 h
    obtain ⟨g, rfl⟩ : ∃ g, fu = g + 1 := ⟨fu - 1, by omega⟩
    rw [t_MO_clock_L50, if_pos (by omega), w32_id (x := v6 + 1) (by unfold InR; omega)]
    exact hbk M _ _ _ _ h
  | succ n ih =>
    intro fu M v2 v3 v4 v5 v7 g0 g1 g2 h
    obtain ⟨g, rfl⟩ : ∃ g, fu = g + 1 := ⟨fu - 1, by omega⟩
    rw [t_MO_clock_L50, if_neg (by omega), qguard_pos ⟨hw.1, by omega⟩]
    have nx : ∀ (N : Mem) (a b c d : Int), RI N V → Ok (fun r => RI r.1 V) (t_MO_clock_L120 x1 bk (fun a0_ a1_ a2_ a3_ a4_ a5_ a6_ => t_MO_clock_L50 x1 bk g a0_ a1_ a2_ a3_ a4_ a5_ a6_) N a b c d v6 v7) := by
      intro N a b c d hN
      unfold t_MO_clock_L120
      rw [w32_id (x := v7 + 1) (by unfold InR; omega)]
      exact ih g N a b c d (v7 + 1) (by omega) (by omega) (by omega) hN
    refine ok_ite (fun _ => nx M _ _ _ _ h) (fun _ => ?_)
    refine ok_bind h.cp1 (fun N hN => ?_)
    rw [w32_id (x := 4 + v6) (by unfold InR; omega), qguard_pos ⟨by omega, by omega⟩]
    refine ok_let (fun M19 e19 => ?_)
    have h19 : RI M19 V := by rw [e19]; exact hN.1.fr (W := fun k j => k = 212 ∧ j = 4 + v6) (Fr.rf.setI ⟨rfl, rfl⟩) (fun k j a q => by unfold RIc at a; omega)
    have hr := hN.2.1
    have r19 : RowOK M19 1 V := by
      rw [e19]
      refine ⟨fun w a b => ?_, fun t a b => ?_, hr.2.2⟩
      · by_cases e : 4 * 1 + w = 4 + v6
        · rw [e, sI_self]; omega
        · rw [sI_ne (by omega)]; exact hr.1 w a b
      · rw [sI_ne (by omega)]; exact hr.2.1 t a b
    refine ok_bind (ri_longest (by omega) h19 r19) (fun q hq => ?_)
    have hq2 := h19.fr hq LGW_RIc
    exact ok_ite (fun _ => nx _ _ _ _ _ hq2) (fun _ => nx _ _ _ _ _ hq2)
theorem ri_clock_L36 {x1 : Int} {V : TV} : ∀ (n fu : Nat) (M : Mem) (v2 v3 v4 v5 v6 : Int), v6 + (n : Int) = V 0 2 → 0 ≤ v6 → n < fu → RI M V → Ok (fun r => RI r.1 V) (t_MO_clock_L36 x1 fu M v2 v3 v4 v5 v6) := by
  intro n
  induction n with
  | zero =>
    intro fu M v2 v3 v4 v5 v6 g0 g1 g2 h
    obtain ⟨g, rfl⟩ : ∃ g, fu = g + 1 := ⟨fu - 1, by omega⟩
    rw [t_MO_clock_L36, h.1.2.1.1.2.2.1, if_pos (by omega)]
    exact ok_ite (fun _ => ok_some h) (fun _ => ok_ite (fun _ => ok_some h) (fun _ => ok_ite (fun _ => ok_some h) (fun _ => ok_some h)))
  | succ n ih =>
    intro fu M v2 v3 v4 v5 v6 g0 g1 g2 h
    obtain ⟨g, rfl⟩ : ∃ g, fu = g + 1 := ⟨fu - 1, by omega⟩
    have hv := h.1.1.1
    rw [t_MO_clock_L36, h.1.2.1.1.2.2.1, if_neg (by omega)]
    exact ri_clock_L50 ⟨g1, by omega⟩ (fun N a b c d hN => ih g N a b c d (v6 + 1) (by omega) (by omega) (by omega) hN) 5 FU M _ _ _ _ 0 (by omega) (by omega) (fu_big (by omega)) h
theorem ri_clock {M : Mem} {V : TV} (h : RI M V) (x1 : Int) : Ok (fun r => RI r.1 V) (t_MO_clock M x1) := by
  unfold t_MO_clock
  refine ok_let (fun M1 e1 => ?_)
  have h1 : RI M1 V := by rw [e1]; exact h.set0 0
  have hv := h.1.1.1
  refine ok_ite (fun _ => ok_some h1) (fun _ => ok_ite (fun _ => ?_) (fun _ => ok_some h1))
  refine ok_bind (ri_longest (by omega) h1 h1.row0) (fun q hq => ?_)
  have hq2 := h1.fr hq LGW_RIc
  exact ri_clock_L36 (V 0 2).toNat FU _ _ _ _ _ 0 (by omega) (by omega) (fu_big (by omega)) hq2
end
section
/-! ===== the laws' values: what is to come out, and the reference's side ===== -/
def chkS (v : Int64) : Option Int64 := if 1000000000000 < v then none else if v < -1000000000000 then none else some v
def joinS (c : Int) (x y : Int64) : Option Int64 :=
  if c = 45 then (if x = 0 then chkS (x * y) else if q_absl y ≤ 1000000000000 / q_absl x then chkS (x * y) else none)
  else if c = 43 then chkS (x + y) else if c = 44 then chkS (x - y)
  else if c = 46 then (if y = 0 then none else chkS (x / y))
  else if c = 47 then chkS (if y ≤ x then 0 else 1)
  else if c = 49 then chkS (if x = y then 1 else 0)
  else if c = 52 then chkS (if x ≤ y then 0 else 1)
  else if c = 48 then chkS (if y < x then 0 else 1)
  else if c = 50 then chkS (if x = y then 0 else 1)
  else if c = 51 then chkS (if x < y then 0 else 1)
  else if c = 16 then chkS (if x = 0 then 0 else if y = 0 then 0 else 1)
  else chkS (if x = 0 then (if y = 0 then 0 else 1) else 1)
/-- the outcome of one sign on the reference's stack of height h -/
def WkR (M : Mem) (h : Int) (o : Option Int64) (x : Option (Mem × Int)) : Prop := ∃ N r, x = some (N, r) ∧ Fr (fun k j => (k = 191 ∧ j = 54) ∨ k = 221) M N ∧ match o with
  | none => r = 0
  | some v => r = 1 ∧ N.1 191 54 = h - 1 ∧ N.2 221 (h - 2) = v ∧ ∀ j, j < h - 2 → N.2 221 j = M.2 221 j
theorem m_works_L407 {M : Mem} {h x1 : Int} {v : Int64} (h2 : 2 ≤ h ∧ h ≤ 64) : WkR M h (chkS v) (t_MO_works_L407 x1 (setI M 191 54 (h - 1)) v) := by
  unfold t_MO_works_L407 chkS
  rw [sI_self, w32_id (x := h - 1 - 1) (by unfold InR; omega), show h - 1 - 1 = h - 2 by omega, qguard_pos ⟨by omega, by omega⟩]
  simp only [qlet]
  have hF : Fr (fun k j => (k = 191 ∧ j = 54) ∨ k = 221) M (setL (setI M 191 54 (h - 1)) 221 (h - 2) v) := (Fr.rf.setI (Or.inl ⟨rfl, rfl⟩)).setL (Or.inr rfl)
  by_cases c1 : 1000000000000 < v
  · rw [if_pos c1, if_pos c1]; exact ⟨_, _, rfl, hF, rfl⟩
  · rw [if_neg c1, if_neg c1]
    by_cases c2 : v < -1000000000000
    · rw [if_pos c2, if_pos c2]; exact ⟨_, _, rfl, hF, rfl⟩
    · rw [if_neg c2, if_neg c2]
      refine ⟨_, _, rfl, hF, rfl, ?_, sL_self _ _ _ _, fun j hj => ?_⟩
      · rw [sL_fst, sI_self]
      · rw [sL_ne (by omega), sI_snd]
theorem m_is (M : Mem) (v : Int) : t_MO_is M v = if v = 0 then 0 else 1 := rfl
theorem m_works {M : Mem} {h c n : Int} (e : M.1 191 54 = h) (h2 : 2 ≤ h ∧ h ≤ 64) (hc : ktwo c) : WkR M h (joinS c (M.2 221 (h - 2)) (M.2 221 (h - 1))) (t_MO_works M (kval c n)) := by
  have L := @m_works_L407 M h
  have i1 : w32 (h - 1) = h - 1 := w32_id (by unfold InR; omega)
  have i2 : w32 (h - 2) = h - 2 := w32_id (by unfold InR; omega)
  have g1 : 0 ≤ h - 1 ∧ h - 1 < 64 := by omega
  have g2 : 0 ≤ h - 2 ∧ h - 2 < 64 := by omega
  have F : Fr (fun k j => (k = 191 ∧ j = 54) ∨ k = 221) M (setI M 191 54 (h - 1)) := Fr.rf.setI (Or.inl ⟨rfl, rfl⟩)
  have b0 : (if (0 : Int) = 0 then (0 : Int64) else 1) = 0 := rfl
  have b1 : (if (1 : Int) = 0 then (0 : Int64) else 1) = 1 := rfl
  unfold t_MO_works joinS
  rw [e, i1, i2, qguard_pos g1, qguard_pos g2]
  generalize M.2 221 (h - 2) = x
  generalize M.2 221 (h - 1) = y
  clear i1 i2
  unfold ktwo at hc
  have hc' : c = 15 ∨ c = 16 ∨ c = 43 ∨ c = 44 ∨ c = 45 ∨ c = 46 ∨ c = 47 ∨ c = 48 ∨ c = 49 ∨ c = 50 ∨ c = 51 ∨ c = 52 := by omega
  unfold t_MO_works_L375 t_MO_works_L397 t_MO_works_L376 t_MO_works_L402 t_MO_works_L212 t_MO_works_L250 t_MO_works_L270 t_MO_works_L290 t_MO_works_L310 t_MO_works_L330 t_MO_works_L350
  simp only [qlet, m_is, b0, b1]
  rcases hc' with rfl | rfl | rfl | rfl | rfl | rfl | rfl | rfl | rfl | rfl | rfl | rfl
  · rw [show kval 15 n = 262 from rfl]
    simp only [Int.reduceEq, ↓reduceIte]
    split
    · split
      · exact L h2
      · exact L h2
    · exact L h2
  · rw [show kval 16 n = 261 from rfl]
    simp only [Int.reduceEq, ↓reduceIte]
    split
    · exact L h2
    · split
      · exact L h2
      · exact L h2
  · rw [show kval 43 n = 43 from rfl]
    simp only [Int.reduceEq, ↓reduceIte]
    exact L h2
  · rw [show kval 44 n = 45 from rfl]
    simp only [Int.reduceEq, ↓reduceIte]
    exact L h2
  · rw [show kval 45 n = 42 from rfl]
    simp only [Int.reduceEq, ↓reduceIte]
    by_cases z : x = 0
    · rw [if_pos z, if_pos z]; exact L h2
    · rw [if_neg z, if_neg z, if_neg (fun q => z (absl_zero q))]
      by_cases z2 : q_absl y ≤ 1000000000000 / q_absl x
      · rw [if_pos z2, if_pos z2]; exact L h2
      · rw [if_neg z2, if_neg z2]; exact ⟨_, _, rfl, F, rfl⟩
  · rw [show kval 46 n = 47 from rfl]
    simp only [Int.reduceEq, ↓reduceIte]
    by_cases z : y = 0
    · rw [if_pos z, if_pos z]; exact ⟨_, _, rfl, F, rfl⟩
    · rw [if_neg z, if_neg z]; exact L h2
  · rw [show kval 47 n = 60 from rfl]
    simp only [Int.reduceEq, ↓reduceIte]
    split <;> exact L h2
  · rw [show kval 48 n = 256 from rfl]
    simp only [Int.reduceEq, ↓reduceIte]
    split <;> exact L h2
  · rw [show kval 49 n = 61 from rfl]
    simp only [Int.reduceEq, ↓reduceIte]
    split <;> exact L h2
  · rw [show kval 50 n = 257 from rfl]
    simp only [Int.reduceEq, ↓reduceIte]
    split <;> exact L h2
  · rw [show kval 51 n = 258 from rfl]
    simp only [Int.reduceEq, ↓reduceIte]
    split <;> exact L h2
  · rw [show kval 52 n = 62 from rfl]
    simp only [Int.reduceEq, ↓reduceIte]
    split <;> exact L h2
end
section
theorem m_works_not {M : Mem} {h : Int} (e : M.1 191 54 = h) (h1 : 1 ≤ h ∧ h ≤ 64) : ∃ N, t_MO_works M 260 = some (N, 1) ∧ Fr (fun k j => k = 221) M N ∧ N.2 221 (h - 1) = (if M.2 221 (h - 1) = 0 then 1 else 0) ∧ ∀ j, j < h - 1 → N.2 221 j = M.2 221 j := by
  unfold t_MO_works t_MO_works_L40
  rw [e, w32_id (x := h - 1) (by unfold InR; omega), qguard_pos ⟨by omega, by omega⟩, if_pos rfl]
  have b0 : (if (0 : Int) = 0 then (0 : Int64) else 1) = 0 := rfl
  have b1 : (if (1 : Int) = 0 then (0 : Int64) else 1) = 1 := rfl
  simp only [qlet, m_is, b0, b1]
  have F : ∀ v : Int64, Fr (fun k j => k = 221) M (setL M 221 (h - 1) v) := fun v => Fr.rf.setL rfl
  by_cases z : M.2 221 (h - 1) = 0
  · rw [if_pos z, if_pos z, qguard_pos ⟨by omega, by omega⟩]
    exact ⟨_, rfl, F _, sL_self _ _ _ _, fun j hj => sL_ne (by omega)⟩
  · rw [if_neg z, if_neg z, qguard_pos ⟨by omega, by omega⟩]
    exact ⟨_, rfl, F _, sL_self _ _ _ _, fun j hj => sL_ne (by omega)⟩
/-! stacks as lists -/
def knS (K N : Int → Int) (nm : Int → Int64) (i : Int) : List Int64 → Option (List Int64)
  | [] => if K i = 31 then some [q_i2l (N i)] else if 18 ≤ K i ∧ K i ≤ 24 then some [nm (K i - 18)] else none
  | [y] => if K i = 31 then some [q_i2l (N i), y] else if 18 ≤ K i ∧ K i ≤ 24 then some [nm (K i - 18), y] else if K i = 17 then some [if y = 0 then 1 else 0] else none
  | y :: x :: r => if K i = 31 then some (q_i2l (N i) :: y :: x :: r) else if 18 ≤ K i ∧ K i ≤ 24 then some (nm (K i - 18) :: y :: x :: r) else if K i = 17 then some ((if y = 0 then 1 else 0) :: x :: r) else (joinS (K i) x y).map (fun v => v :: r)
def evS (K N : Int → Int) (nm : Int → Int64) : Nat → Option (List Int64)
  | 0 => some []
  | n + 1 => (evS K N nm n).bind (knS K N nm (n : Int))
def Stk (f : Int → Int64) : List Int64 → Prop
  | [] => True
  | v :: r => f (r.length : Int) = v ∧ Stk f r
theorem Stk.of {f g : Int → Int64} : ∀ {l : List Int64}, (∀ j : Int, j < (l.length : Int) → g j = f j) → Stk f l → Stk g l := by
  intro l
  induction l with
  | nil => intro _ _; trivial
  | cons v r ih =>
    intro h s
    simp only [List.length_cons] at h
    exact ⟨by rw [h _ (by omega)]; exact s.1, ih (fun j hj => h j (by omega)) s.2⟩
def valS (K N : Int → Int) (nm : Int → Int64) (n : Int) : Option Int64 := match evS K N nm n.toNat with | some [v] => some v | _ => none
theorem knS_num {K N : Int → Int} {nm : Int → Int64} {i : Int} (h : K i = 31) (st : List Int64) : knS K N nm i st = some (q_i2l (N i) :: st) := by
  match st with
  | [] => rw [knS, if_pos h]
  | [y] => rw [knS, if_pos h]
  | y :: x :: r => rw [knS, if_pos h]
theorem knS_name {K N : Int → Int} {nm : Int → Int64} {i : Int} (h : 18 ≤ K i ∧ K i ≤ 24) (st : List Int64) : knS K N nm i st = some (nm (K i - 18) :: st) := by
  have h31 : ¬ K i = 31 := by omega
  match st with
  | [] => rw [knS, if_neg h31, if_pos h]
  | [y] => rw [knS, if_neg h31, if_pos h]
  | y :: x :: r => rw [knS, if_neg h31, if_pos h]
theorem knS_not {K N : Int → Int} {nm : Int → Int64} {i : Int} (h : K i = 17) (y : Int64) (r : List Int64) : knS K N nm i (y :: r) = some ((if y = 0 then 1 else 0) :: r) := by
  have h31 : ¬ K i = 31 := by omega
  have h18 : ¬ (18 ≤ K i ∧ K i ≤ 24) := by omega
  match r with
  | [] => rw [knS, if_neg h31, if_neg h18, if_pos h]
  | x :: r => rw [knS, if_neg h31, if_neg h18, if_pos h]
theorem knS_two {K N : Int → Int} {nm : Int → Int64} {i : Int} (h : ktwo (K i)) (y x : Int64) (r : List Int64) : knS K N nm i (y :: x :: r) = (joinS (K i) x y).map (fun v => v :: r) := by
  unfold ktwo at h
  rw [knS, if_neg (by omega), if_neg (by omega), if_neg (by omega)]
theorem ev_len {K N : Int → Int} {nm : Int → Int64} {n : Int} (hK : KOK K n) : ∀ i : Nat, (i : Int) ≤ n → ∀ st, evS K N nm i = some st → (st.length : Int) = dpV K i ∧ st.length ≤ i := by
  intro i
  induction i with
  | zero => intro _ st h; cases h; exact ⟨rfl, Nat.le_refl _⟩
  | succ i ih =>
    intro hi st h
    rw [evS] at h
    cases e : evS K N nm i with
    | none => rw [e] at h; cases h
    | some s0 =>
      rw [e] at h
      have h : knS K N nm (i : Int) s0 = some st := h
      obtain ⟨l1, l2⟩ := ih (by omega) s0 e
      have hk := hK.2.2.1 i (by omega)
      rw [dpV]
      rcases hk with hk | hk | hk
      · have hn : ¬ K (i : Int) = 17 := by omega
        have hn2 : ¬ ktwo (K (i : Int)) := by unfold ktwo; omega
        rw [if_neg hn, if_neg hn2]
        rcases hk with hk | hk
        · rw [knS_num hk] at h; cases h; simp only [List.length_cons]; omega
        · rw [knS_name hk] at h; cases h; simp only [List.length_cons]; omega
      · rw [if_pos hk.1]
        match s0, l1, l2, h with
        | [], l1, l2, h => have : dpV K i = 0 := by rw [← l1]; rfl
                           omega
        | y :: r, l1, l2, h => rw [knS_not hk.1] at h; cases h; simp only [List.length_cons] at *; omega
      · have hn : ¬ K (i : Int) = 17 := by have := hk.1; unfold ktwo at this; omega
        rw [if_neg hn, if_pos hk.1]
        match s0, l1, l2, h with
        | [], l1, l2, h => have : dpV K i = 0 := by rw [← l1]; rfl
                           omega
        | [y], l1, l2, h => have : dpV K i = 1 := by rw [← l1]; rfl
                            omega
        | y :: x :: r, l1, l2, h =>
          rw [knS_two hk.1] at h
          cases ej : joinS (K (i : Int)) x y with
          | none => rw [ej] at h; cases h
          | some v => rw [ej] at h; cases h; simp only [List.length_cons] at *; omega
/-- what goes writes -/
def GO : Nat → Int → Prop := fun k j => (k = 191 ∧ j = 54) ∨ k = 221
def nmM (M : Mem) : Int → Int64 := fun j => M.2 220 j
theorem m_goes_loop1 {M0 : Mem} {s n : Int} {K L : Int → Int} (hs : 0 ≤ s ∧ s < 2) (hF : MF1 M0 s K L n) (hK : KOK K n) : ∀ (m i fu : Nat) (M : Mem) (st : List Int64), (i : Int) + (m : Int) = n → m < fu → Fr GO M0 M → evS K L (nmM M0) i = some st → Stk (M.2 221) st → M.1 191 54 = (st.length : Int) →
    ∃ N r, t_MO_goes_L12 s fu M (M0.1 203 s + (i : Int)) = some (N, r) ∧ Fr GO M0 N ∧ match evS K L (nmM M0) n.toNat with | none => r = 0 | some st => r = 1 ∧ Stk (N.2 221) st := by
  have hf := hF
  obtain ⟨f1, f2, f3, f4⟩ := hF
  intro m
  induction m with
  | zero =>
    intro i fu M st g0 g1 hM he hst hl
    obtain ⟨g, rfl⟩ : ∃ g, fu = g + 1 := ⟨fu - 1, by omega⟩
    have e4 : M.1 204 s = M0.1 204 s := (hM 204 s (by unfold GO; omega)).1
    rw [t_MO_goes_L12, qguard_pos ⟨by omega, by omega⟩, e4, if_pos (by omega)]
    refine ⟨_, _, rfl, hM, ?_⟩
    have hi : n.toNat = i := by omega
    rw [hi, he]
    exact ⟨rfl, hst⟩
  | succ m ih =>
    intro i fu M st g0 g1 hM he hst hl
    obtain ⟨g, rfl⟩ : ∃ g, fu = g + 1 := ⟨fu - 1, by omega⟩
    have e4 : M.1 204 s = M0.1 204 s := (hM 204 s (by unfold GO; omega)).1
    have hln := ev_len hK i (by omega) st he
    have q := f4 (i : Int) (by omega) (by omega)
    have e5 : M.1 205 (M0.1 203 s + (i : Int)) = ksort (K (i : Int)) := ((hM 205 _ (by unfold GO; omega)).1).trans q.1
    have e6 : M.1 206 (M0.1 203 s + (i : Int)) = kval (K (i : Int)) (L (i : Int)) := ((hM 206 _ (by unfold GO; omega)).1).trans q.2
    have gd : 0 ≤ M0.1 203 s + (i : Int) ∧ M0.1 203 s + (i : Int) < 128 := by omega
    have nx : w32 (M0.1 203 s + (i : Int) + 1) = M0.1 203 s + ((i + 1 : Nat) : Int) := by rw [w32_id (by unfold InR; omega)]; omega
    have en : nmM M = nmM M0 := funext fun j => (hM 220 j (by unfold GO; omega)).2
    rw [t_MO_goes_L12, qguard_pos ⟨by omega, by omega⟩, e4, if_neg (by omega)]
    simp only [qguard_pos gd]
    rw [e5, e6]
    -- what is pushed
    have push : ∀ v : Int64, knS K L (nmM M0) (i : Int) st = some (v :: st) → ∃ N r, t_MO_goes_L85 s (fun a0_ a1_ => t_MO_goes_L12 s g a0_ a1_) M (M0.1 203 s + (i : Int)) (M.1 191 54) v = some (N, r) ∧ Fr GO M0 N ∧ match evS K L (nmM M0) n.toNat with | none => r = 0 | some st => r = 1 ∧ Stk (N.2 221) st := by
      intro v hv
      unfold t_MO_goes_L85 t_MO_goes_L96
      have hle := hK.2.1
      rw [hl, qguard_pos ⟨by omega, by omega⟩]
      simp only [qlet]
      rw [nx]
      refine ih (i + 1) g _ (v :: st) (by omega) (by omega) ((hM.setL (Or.inr rfl)).setI (Or.inl ⟨rfl, rfl⟩)) (by rw [evS, he]; exact hv) ⟨?_, ?_⟩ ?_
      · rw [sI_snd, sL_self]
      · exact Stk.of (fun j hj => by rw [sI_snd, sL_ne (by omega)]) hst
      · rw [sI_self, hl, w32_id (by unfold InR; omega)]; simp only [List.length_cons]; omega
    have hk := hK.2.2.1 i (by omega)
    rcases hk with hk | hk | hk
    · rcases hk with hk | hk
      · have s0 : ksort (K (i : Int)) = 0 := by rw [hk]; rfl
        have v0 : kval (K (i : Int)) (L (i : Int)) = L (i : Int) := by rw [hk]; rfl
        rw [s0, v0, if_neg (by decide), if_pos rfl]
        exact push _ (knS_num hk st)
      · have s0 : ksort (K (i : Int)) = 1 := by unfold ksort; rw [if_neg (by omega), if_pos hk]
        have v0 : kval (K (i : Int)) (L (i : Int)) = K (i : Int) - 18 := by unfold kval; rw [if_neg (by omega), if_pos hk]
        rw [s0, v0, if_neg (by decide), if_neg (by decide), qguard_pos ⟨by omega, by omega⟩]
        refine push _ ?_
        rw [knS_name hk st]
        show some (nmM M0 _ :: st) = some (nmM M _ :: st)
        rw [en]
    · have s0 : ksort (K (i : Int)) = 2 := by unfold ksort; rw [if_neg (by omega), if_neg (by omega)]
      have v0 : kval (K (i : Int)) (L (i : Int)) = 260 := by rw [hk.1]; rfl
      rw [s0, v0, if_pos rfl]
      match st, he, hst, hl, hln with
      | [], he, hst, hl, hln => simp only [List.length_nil] at hln; omega
      | y :: r, he, hst, hl, hln =>
        have hle := hK.2.1
        simp only [List.length_cons] at hl hln
        obtain ⟨N, n1, n2, n3, n4⟩ := m_works_not (M := M) hl (by omega)
        rw [n1, obind_some, if_neg (show ¬ (1 : Int) = 0 by decide)]
        unfold t_MO_goes_L96
        rw [nx]
        have hy : M.2 221 (r.length : Int) = y := hst.1
        have er : ((r.length + 1 : Nat) : Int) - 1 = (r.length : Int) := by omega
        rw [er, hy] at n3
        rw [er] at n4
        refine ih (i + 1) g N ((if y = 0 then 1 else 0) :: r) (by omega) (by omega) (hM.trans (n2.mono (fun k j h => Or.inr h))) (by rw [evS, he]; exact knS_not hk.1 y r) ⟨n3, Stk.of (fun j hj => n4 j hj) hst.2⟩ ?_
        rw [(n2 191 54 (by omega)).1, hl]; simp only [List.length_cons]
    · have hkt := hk.1
      unfold ktwo at hkt
      have s0 : ksort (K (i : Int)) = 2 := by unfold ksort; rw [if_neg (by omega), if_neg (by omega)]
      rw [s0, if_pos rfl]
      match st, he, hst, hl, hln with
      | [], he, hst, hl, hln => simp only [List.length_nil] at hln; omega
      | [y], he, hst, hl, hln => simp only [List.length_cons, List.length_nil] at hln; omega
      | y :: x :: r, he, hst, hl, hln =>
        have hle := hK.2.1
        simp only [List.length_cons] at hl hln
        obtain ⟨N, q, n1, n2, n3⟩ := m_works (M := M) (n := L (i : Int)) hl (by omega) hk.1
        have hy : M.2 221 ((r.length + 1 : Nat) : Int) = y := hst.1
        have hx : M.2 221 (r.length : Int) = x := hst.2.1
        have er : ((r.length + 1 + 1 : Nat) : Int) - 1 = ((r.length + 1 : Nat) : Int) := by omega
        have er2 : ((r.length + 1 + 1 : Nat) : Int) - 2 = (r.length : Int) := by omega
        rw [er, er2, hy, hx] at n3
        rw [n1, obind_some]
        cases ej : joinS (K (i : Int)) x y with
        | none =>
          rw [ej] at n3
          have n3 : q = 0 := n3
          rw [if_pos n3]
          refine ⟨N, 0, rfl, hM.trans n2, ?_⟩
          have hno : ∀ a : Nat, evS K L (nmM M0) (i + 1 + a) = none := by
            intro a
            induction a with
            | zero => rw [Nat.add_zero, evS, he]; show knS K L (nmM M0) (i : Int) (y :: x :: r) = none; rw [knS_two hk.1, ej]; rfl
            | succ a iha => rw [show i + 1 + (a + 1) = (i + 1 + a) + 1 by omega, evS, iha]; rfl
          have hna : n.toNat = i + 1 + (n.toNat - (i + 1)) := by omega
          rw [hna, hno]
        | some v =>
          rw [ej] at n3
          obtain ⟨n4, n5, n6, n7⟩ : q = 1 ∧ N.1 191 54 = ((r.length + 1 : Nat) : Int) ∧ N.2 221 (r.length : Int) = v ∧ ∀ j, j < (r.length : Int) → N.2 221 j = M.2 221 j := n3
          rw [if_neg (show ¬ q = 0 by omega)]
          unfold t_MO_goes_L96
          rw [nx]
          refine ih (i + 1) g N (v :: r) (by omega) (by omega) (hM.trans n2) (by rw [evS, he]; show knS K L (nmM M0) (i : Int) (y :: x :: r) = _; rw [knS_two hk.1, ej]; rfl) ⟨n6, Stk.of n7 hst.2.2⟩ ?_
          rw [n5]; simp only [List.length_cons]
theorem m_goesL {M : Mem} {s n : Int} {K L : Int → Int} (hs : 0 ≤ s ∧ s < 2) (hF : MF1 M s K L n) (hK : KOK K n) : ∃ N r, t_MO_goes M s = some (N, r) ∧ Fr GO M N ∧ match evS K L (nmM M) n.toNat with | none => r = 0 | some st => r = 1 ∧ Stk (N.2 221) st := by
  unfold t_MO_goes
  simp only [qlet]
  rw [qguard_pos ⟨by omega, by omega⟩, uI_ne _ _ (by omega)]
  have h := m_goes_loop1 hs hF hK n.toNat 0 FU (setI M 191 54 0) [] (by have := hK.1; omega) (fu_big (by have := hK.2.1; omega)) (Fr.rf.setI (Or.inl ⟨rfl, rfl⟩)) rfl trivial (by rw [sI_self]; rfl)
  rwa [show M.1 203 s + ((0 : Nat) : Int) = M.1 203 s by omega] at h
/-- a law's value -/
theorem valS_some {K L : Int → Int} {nm : Int → Int64} {n : Int} (hK : KOK K n) (h0 : 0 < n) {st : List Int64} (h : evS K L nm n.toNat = some st) : ∃ v, st = [v] ∧ valS K L nm n = some v := by
  have := ev_len hK n.toNat (by omega) st h
  rw [hK.2.2.2 h0] at this
  match st, this with
  | [v], _ => exact ⟨v, rfl, by unfold valS; rw [h]⟩
  | [], t => have := t.1; simp only [List.length_nil] at this; omega
  | a :: b :: c, t => have := t.1; simp only [List.length_cons] at this; omega
theorem valS_none {K L : Int → Int} {nm : Int → Int64} {n : Int} (h : evS K L nm n.toNat = none) : valS K L nm n = none := by unfold valS; rw [h]
/-- goes: a law that has knots -/
theorem m_goesV {M : Mem} {s n : Int} {K L : Int → Int} (hs : 0 ≤ s ∧ s < 2) (hF : MF1 M s K L n) (hK : KOK K n) (h0 : 0 < n) : ∃ N r, t_MO_goes M s = some (N, r) ∧ Fr GO M N ∧ ((r = 0 ∧ valS K L (nmM M) n = none) ∨ (r = 1 ∧ valS K L (nmM M) n = some (N.2 221 0))) := by
  obtain ⟨N, r, e1, e2, e3⟩ := m_goesL hs hF hK
  refine ⟨N, r, e1, e2, ?_⟩
  cases e : evS K L (nmM M) n.toNat with
  | none => rw [e] at e3; exact Or.inl ⟨e3, valS_none e⟩
  | some st =>
    rw [e] at e3
    obtain ⟨v, rfl, hv⟩ := valS_some hK h0 e
    have h2 : N.2 221 0 = v := e3.2.1
    exact Or.inr ⟨e3.1, by rw [hv, h2]⟩
theorem m_hasLaw {M : Mem} {s n : Int} {K L : Int → Int} (hs : 0 ≤ s ∧ s < 2) (hF : MF1 M s K L n) : t_MO_hasLaw M s = some (if 0 < n then 1 else 0) := by
  unfold t_MO_hasLaw
  obtain ⟨f1, f2, f3, f4⟩ := hF
  rw [qguard_pos ⟨by omega, by omega⟩, qguard_pos ⟨by omega, by omega⟩]
  by_cases h : 0 < n
  · rw [if_neg (by omega), if_pos h]
  · rw [if_pos (by omega), if_neg h]
/-- put to 0 .. most; without, if there is none -/
def witS (K L : Int → Int) (nm : Int → Int64) (n most without : Int) : Int := if 0 < n then (match valS K L nm n with | none => without | some v => q_l2i (q_maxl 0 (q_minl (q_i2l most) v))) else without
theorem m_within {M : Mem} {s n most wo : Int} {K L : Int → Int} (hs : 0 ≤ s ∧ s < 2) (hF : MF1 M s K L n) (hK : KOK K n) : ∃ N, t_MO_within M s most wo = some (N, witS K L (nmM M) n most wo) ∧ Fr GO M N := by
  unfold t_MO_within witS
  rw [m_hasLaw hs hF, obind_some]
  by_cases h : 0 < n
  · rw [if_pos h, if_pos h, if_neg (by decide)]
    obtain ⟨N, r, e1, e2, e3⟩ := m_goesV hs hF hK h
    rw [e1, obind_some]
    rcases e3 with ⟨r0, hv⟩ | ⟨r1, hv⟩
    · rw [hv, if_pos r0]; exact ⟨N, rfl, e2⟩
    · rw [hv, if_neg (by show ¬ r = 0; omega)]; exact ⟨N, rfl, e2⟩
  · rw [if_neg h, if_neg h, if_pos rfl]
    exact ⟨M, rfl, Fr.rf⟩
end
section
/-! ===== joy, push, laws: what is to come out, and the reference's side ===== -/
theorem l2i_i2l {x : Int} (h : InR x) : q_l2i (q_i2l x) = x := by
  unfold q_l2i q_i2l
  rw [Int32.toInt32_toInt64, q_toInt_of h]
theorem sizeV_rng (V : TV) (w : Int) : ∀ n : Nat, 0 ≤ sizeV V w n ∧ sizeV V w n ≤ (n : Int) := by
  intro n
  induction n with
  | zero => exact ⟨by show (0 : Int) ≤ 0; omega, by show (0 : Int) ≤ 0; omega⟩
  | succ n ih =>
    rw [sizeV]
    split <;> omega
theorem m_sizeOf_loop {M : Mem} {V : TV} {w : Int} (h : MT0 M V) (hV : VOK V) (hw : 0 ≤ w ∧ w < 4) : ∀ (n i fu : Nat), (i : Int) + (n : Int) = cellsV V → n < fu → t_MO_sizeOf_L4 w fu M (sizeV V w i) (i : Int) = some (sizeV V w (cellsV V).toNat) := by
  have hC := hV.cells
  intro n
  induction n with
  | zero =>
    intro i fu g0 g1
    obtain ⟨g, rfl⟩ : ∃ g, fu = g + 1 := ⟨fu - 1, by omega⟩
    rw [t_MO_sizeOf_L4]
    simp only [qlet]
    rw [m_cells h hV, if_pos (by omega), show (cellsV V).toNat = i by omega]
  | succ n ih =>
    intro i fu g0 g1
    obtain ⟨g, rfl⟩ : ∃ g, fu = g + 1 := ⟨fu - 1, by omega⟩
    rw [t_MO_sizeOf_L4]
    simp only [qlet]
    have hs := sizeV_rng V w i
    rw [m_cells h hV, if_neg (by omega), qguard_pos ⟨by omega, by omega⟩, (h.2.2.2 (i : Int) (by omega) (by omega)).1, w32_id (x := w + 1) (by unfold InR; omega)]
    unfold t_MO_sizeOf_L30
    have hi : (i : Int) + 1 = ((i + 1 : Nat) : Int) := by omega
    have nx := ih (i + 1) g (by omega) (by omega)
    rw [sizeV] at nx
    by_cases e : V 7 (i : Int) = w
    · rw [if_pos e] at nx
      rw [if_pos (by omega), w32_id (x := sizeV V w i + 1) (by unfold InR; omega), w32_id (x := (i : Int) + 1) (by unfold InR; omega), hi]
      exact nx
    · rw [if_neg e] at nx
      rw [if_neg (by omega), w32_id (x := sizeV V w i + 0) (by unfold InR; omega), w32_id (x := (i : Int) + 1) (by unfold InR; omega), hi]
      exact nx
abbrev szV (V : TV) (w : Int) : Int := sizeV V w (cellsV V).toNat
theorem m_sizeOf {M : Mem} {V : TV} {w : Int} (h : MT0 M V) (hV : VOK V) (hw : 0 ≤ w ∧ w < 4) : t_MO_sizeOf M w = some (szV V w) := m_sizeOf_loop h hV hw (cellsV V).toNat 0 FU (by have := hV.cells; omega) (fu_big (by have := hV.cells; omega))
/-- here, worth, cross of the first n things -/
def jyS (V : TV) (f A : Int → Int) (w : Int) : Nat → Int × Int × Int
  | 0 => (0, 0, 0)
  | n + 1 => if (wayS f (A (n : Int))).2 = none ∧ V 7 (itr f (A (n : Int)) (wayS f (A (n : Int))).1) = w then ((jyS V f A w n).1 + 1, (jyS V f A w n).2.1 + V 5 (n : Int), (jyS V f A w n).2.2 + (if lcV V f (A (n : Int)) (wayS f (A (n : Int))).1 ≤ 0 then 0 else 1)) else jyS V f A w n
theorem jyS_rng {V : TV} (hV : VOK V) (f A : Int → Int) (w : Int) : ∀ n : Nat, (n : Int) ≤ V 0 3 → 0 ≤ (jyS V f A w n).1 ∧ (jyS V f A w n).1 ≤ (n : Int) ∧ 0 ≤ (jyS V f A w n).2.1 ∧ (jyS V f A w n).2.1 ≤ 99 * (n : Int) ∧ 0 ≤ (jyS V f A w n).2.2 ∧ (jyS V f A w n).2.2 ≤ (n : Int) := by
  intro n
  induction n with
  | zero => intro _; unfold jyS; simp only []; omega
  | succ n ih =>
    intro hn
    have h := ih (by omega)
    have h5 := hV.2.2.1 (n : Int) (by omega) (by omega)
    rw [jyS]
    split
    · simp only []
      split <;> omega
    · omega
def nmJ (V : TV) (f A : Int → Int) (w yr : Int) : Int → Int64 := fun j => if j = 0 then q_i2l (V 3 w) else if j = 1 then q_i2l (szV V w) else if j = 2 then q_i2l (jyS V f A w (V 0 3).toNat).1 else if j = 3 then q_i2l (jyS V f A w (V 0 3).toNat).2.1 else if j = 4 then q_i2l (jyS V f A w (V 0 3).toNat).2.2 else if j = 5 then 0 else q_i2l yr
theorem knS_congr {K N : Int → Int} {nm nm' : Int → Int64} (h : ∀ j, 0 ≤ j → j ≤ 6 → nm j = nm' j) (i : Int) (st : List Int64) : knS K N nm i st = knS K N nm' i st := by
  by_cases h31 : K i = 31
  · rw [knS_num h31, knS_num h31]
  · by_cases h18 : 18 ≤ K i ∧ K i ≤ 24
    · rw [knS_name h18, knS_name h18, h _ (by omega) (by omega)]
    · match st with
      | [] => rw [knS, knS, if_neg h31, if_neg h31, if_neg h18, if_neg h18]
      | [y] => rw [knS, knS, if_neg h31, if_neg h31, if_neg h18, if_neg h18]
      | y :: x :: r => rw [knS, knS, if_neg h31, if_neg h31, if_neg h18, if_neg h18]
theorem evS_congr {K N : Int → Int} {nm nm' : Int → Int64} (h : ∀ j, 0 ≤ j → j ≤ 6 → nm j = nm' j) : ∀ n : Nat, evS K N nm n = evS K N nm' n := by
  intro n
  induction n with
  | zero => rfl
  | succ n ih =>
    rw [evS, evS, ih]
    cases evS K N nm' n with
    | none => rfl
    | some st => exact knS_congr h _ st
theorem valS_congr {K N : Int → Int} {nm nm' : Int → Int64} {n : Int} (h : ∀ j, 0 ≤ j → j ≤ 6 → nm j = nm' j) : valS K N nm n = valS K N nm' n := by unfold valS; rw [evS_congr h]
theorem witS_congr {K N : Int → Int} {nm nm' : Int → Int64} {n a b : Int} (h : ∀ j, 0 ≤ j → j ≤ 6 → nm j = nm' j) : witS K N nm n a b = witS K N nm' n a b := by unfold witS; rw [valS_congr h]
theorem AT_fr {W : Nat → Int → Prop} {M N : Mem} {a : Int} (hF : Fr W M N) (hd : ∀ j, ¬ W 213 j) : AT N a = AT M a := funext fun t => (hF 213 _ (hd _)).1
theorem DN_fr {W : Nat → Int → Prop} {M N : Mem} {a : Int} (hF : Fr W M N) (hd : ∀ j, ¬ W 212 j) : DN N a = DN M a := funext fun t => (hF 212 _ (hd _)).1
def CJ : Nat → Int → Prop := fun k j => W_MO_goesFrom k j ∨ k = 220
theorem CJ_RIc : ∀ k j, RIc k j → ¬ CJ k j := by
  intro k j a q
  unfold RIc at a
  unfold CJ W_MO_goesFrom at q
  omega
theorem CJ_CW : ∀ a k j, CW a k j → ¬ CJ k j := by
  intro b k j a q
  unfold CW at a
  unfold CJ W_MO_goesFrom at q
  omega
theorem m_callsJoy_loop {M0 : Mem} {V : TV} {a w : Int} {D A : Int → Int} {nets : Int64} (ha : 0 ≤ a ∧ a < 23) (h : RI M0 V) (hm : MSc M0 a V D A nets) (hD : ∀ w, 0 ≤ w → w < V 0 2 → 0 ≤ D w ∧ D w ≤ 4) (hA : ∀ t, 0 ≤ t → t < V 0 3 → 0 ≤ A t ∧ A t < cellsV V) (hw : 0 ≤ w ∧ w < V 0 2) : ∀ (n t fu : Nat) (M : Mem), (t : Int) + (n : Int) = V 0 3 → n < fu → Fr CJ M0 M →
    ∃ N, t_MO_callsJoy_L11 a w fu M (jyS V (nxV V D nets (wlV V)) A w t).1 (jyS V (nxV V D nets (wlV V)) A w t).2.1 (jyS V (nxV V D nets (wlV V)) A w t).2.2 (t : Int) = some N ∧ Fr CJ M0 N ∧ ∀ j, 0 ≤ j → j ≤ 6 → N.2 220 j = nmJ V (nxV V D nets (wlV V)) A w (M0.1 207 a) j := by
  have hC := h.1.1.cells
  have hv := h.1.1.1
  intro n
  induction n with
  | zero =>
    intro t fu M g0 g1 hF
    obtain ⟨g, rfl⟩ : ∃ g, fu = g + 1 := ⟨fu - 1, by omega⟩
    have hM : RI M V := h.fr hF CJ_RIc
    have e6 : M.1 193 6 = V 0 3 := hM.1.2.1.1.2.2.2.1
    rw [t_MO_callsJoy_L11, e6, if_pos (by omega), qguard_pos ⟨by omega, by omega⟩]
    simp only [qlet]
    have hsz : t_MO_sizeOf (setL M 220 0 (q_i2l (M.1 196 w))) w = some (szV V w) := m_sizeOf (MT0.fr (W := fun k j => k = 220) (Fr.rf.setL rfl) (fun k j x y => by omega) hM.1.2.1) h.1.1 (by omega)
    rw [hsz, obind_some, qguard_pos ⟨by omega, by omega⟩]
    have et : t = (V 0 3).toNat := by omega
    refine ⟨_, rfl, ((((((hF.setL (Or.inr rfl)).setL (Or.inr rfl)).setL (Or.inr rfl)).setL (Or.inr rfl)).setL (Or.inr rfl)).setL (Or.inr rfl)).setL (Or.inr rfl), fun j j0 j1 => ?_⟩
    have hw3 : M.1 196 w = V 3 w := (hM.1.2.1.2.1 w (by omega) (by omega)).2.2
    have hy : M.1 207 a = M0.1 207 a := (hF 207 a (by unfold CJ W_MO_goesFrom; omega)).1
    unfold nmJ
    rw [← et]
    have hj : j = 0 ∨ j = 1 ∨ j = 2 ∨ j = 3 ∨ j = 4 ∨ j = 5 ∨ j = 6 := by omega
    rcases hj with rfl | rfl | rfl | rfl | rfl | rfl | rfl
    · rw [sL_ne (by omega), sL_ne (by omega), sL_ne (by omega), sL_ne (by omega), sL_ne (by omega), sL_ne (by omega), sL_self, hw3]; rfl
    · rw [sL_ne (by omega), sL_ne (by omega), sL_ne (by omega), sL_ne (by omega), sL_ne (by omega), sL_self]; rfl
    · rw [sL_ne (by omega), sL_ne (by omega), sL_ne (by omega), sL_ne (by omega), sL_self]; rfl
    · rw [sL_ne (by omega), sL_ne (by omega), sL_ne (by omega), sL_self]; rfl
    · rw [sL_ne (by omega), sL_ne (by omega), sL_self]; rfl
    · rw [sL_ne (by omega), sL_self]; rfl
    · rw [sL_self]; show q_i2l (M.1 207 a) = _; rw [hy]; rfl
  | succ n ih =>
    intro t fu M g0 g1 hF
    obtain ⟨g, rfl⟩ : ∃ g, fu = g + 1 := ⟨fu - 1, by omega⟩
    have hM : RI M V := h.fr hF CJ_RIc
    have hmM : MSc M a V D A nets := hm.fr hF (fun k j x q => by unfold CJ W_MO_goesFrom at q; omega)
    have e6 : M.1 193 6 = V 0 3 := hM.1.2.1.1.2.2.2.1
    have hAt := hA (t : Int) (by omega) (by omega)
    have hj := jyS_rng h.1.1 (nxV V D nets (wlV V)) A w t (by omega)
    have h5 := h.1.1.2.2.1 (t : Int) (by omega) (by omega)
    have nx := fun N (q : Fr CJ M0 N) => ih (t + 1) g N (by omega) (by omega) q
    rw [t_MO_callsJoy_L11, e6, if_neg (by omega), w32_id (x := 8 * a) (by unfold InR; omega), w32_id (x := 8 * a + (t : Int)) (by unfold InR; omega), qguard_pos ⟨by omega, by omega⟩]
    obtain ⟨N, n1, n2, n3⟩ := m_goes hM.1.1 hM.1.2.1 hmM hD hM.2.1 ha hAt.1 hAt.2
    rw [hmM.2.1 (t : Int) (by omega) (by omega), n1, obind_some]
    have hFN : Fr CJ M0 N := hF.trans (n2.mono (fun k j q => Or.inl q))
    have hN : RI N V := h.fr hFN CJ_RIc
    obtain ⟨q46, q48, q47, q49, -⟩ := n3
    rw [q48, q47, q49]
    obtain ⟨wf0, wf1, wf2, wf3, wf4, wf5⟩ := way_facts hC.2 (nx_ok h.1.1 D nets (wlV V)) hAt.1 hAt.2
    have wsp := way_spec hC.2 (nx_ok h.1.1 D nets (wlV V)) hAt.1 hAt.2
    have hjs : jyS V (nxV V D nets (wlV V)) A w (t + 1) = if (wayS (nxV V D nets (wlV V)) (A (t : Int))).2 = none ∧ V 7 (itr (nxV V D nets (wlV V)) (A (t : Int)) (wayS (nxV V D nets (wlV V)) (A (t : Int))).1) = w then ((jyS V (nxV V D nets (wlV V)) A w t).1 + 1, (jyS V (nxV V D nets (wlV V)) A w t).2.1 + V 5 (t : Int), (jyS V (nxV V D nets (wlV V)) A w t).2.2 + (if lcV V (nxV V D nets (wlV V)) (A (t : Int)) (wayS (nxV V D nets (wlV V)) (A (t : Int))).1 ≤ 0 then 0 else 1)) else jyS V (nxV V D nets (wlV V)) A w t := by rw [jyS]
    generalize jyS V (nxV V D nets (wlV V)) A w t = p at *
    have hend := wf5 (wayS (nxV V D nets (wlV V)) (A (t : Int))).1 (Nat.le_refl _)
    change 0 ≤ itr (nxV V D nets (wlV V)) (A (t : Int)) (wayS (nxV V D nets (wlV V)) (A (t : Int))).1 ∧ itr (nxV V D nets (wlV V)) (A (t : Int)) (wayS (nxV V D nets (wlV V)) (A (t : Int))).1 < cellsV V at hend
    cases e : (wayS (nxV V D nets (wlV V)) (A (t : Int))).2 with
    | some b =>
      have hb : ¬ ((wayS (nxV V D nets (wlV V)) (A (t : Int))).2 = none ∧ V 7 (itr (nxV V D nets (wlV V)) (A (t : Int)) (wayS (nxV V D nets (wlV V)) (A (t : Int))).1) = w) := by rw [e]; exact fun q => by cases q.1
      rw [if_neg hb] at hjs
      have hpos : 0 < wRound (wayS (nxV V D nets (wlV V)) (A (t : Int))) := by
        rcases wsp.2.2 with q | ⟨b', q1, q2, -⟩
        · rw [e] at q; cases q.1
        · change (wayS (nxV V D nets (wlV V)) (A (t : Int))).2 = some b' at q1
          change b' ≤ (wayS (nxV V D nets (wlV V)) (A (t : Int))).1 at q2
          unfold wRound
          rw [q1]
          show 0 < ((wayS (nxV V D nets (wlV V)) (A (t : Int))).1 : Int) + 1 - (b' : Int)
          omega
      rw [if_pos hpos]
      unfold t_MO_callsJoy_L97
      rw [w32_succ (t := t) (by omega)]
      have := nx N hFN
      rw [hjs] at this
      exact this
    | none =>
      have hz : wRound (wayS (nxV V D nets (wlV V)) (A (t : Int))) = 0 := by unfold wRound; rw [e]
      have he : wEnd (nxV V D nets (wlV V)) (A (t : Int)) (wayS (nxV V D nets (wlV V)) (A (t : Int))) = itr (nxV V D nets (wlV V)) (A (t : Int)) (wayS (nxV V D nets (wlV V)) (A (t : Int))).1 := by unfold wEnd; rw [e]
      have hl : wLines V (nxV V D nets (wlV V)) (A (t : Int)) (wayS (nxV V D nets (wlV V)) (A (t : Int))) = lcV V (nxV V D nets (wlV V)) (A (t : Int)) (wayS (nxV V D nets (wlV V)) (A (t : Int))).1 := by unfold wLines; rw [e]
      rw [hz, he, hl, if_neg (by omega), qguard_pos ⟨by omega, by omega⟩, (hN.1.2.1.2.2.2 _ hend.1 (by omega)).1, w32_id (x := w + 1) (by unfold InR; omega)]
      by_cases hw7 : V 7 (itr (nxV V D nets (wlV V)) (A (t : Int)) (wayS (nxV V D nets (wlV V)) (A (t : Int))).1) = w
      · rw [if_pos ⟨e, hw7⟩] at hjs
        rw [if_pos (by omega), qguard_pos ⟨by omega, by omega⟩, (hN.1.2.1.2.2.1 (t : Int) (by omega) (by omega)).2.1]
        unfold t_MO_callsJoy_L94 t_MO_callsJoy_L97
        rw [w32_succ (t := t) (by omega), w32_id (x := p.1 + 1) (by unfold InR; omega), w32_id (x := p.2.1 + V 5 (t : Int)) (by unfold InR; omega), w32_id (x := p.2.2 + 0) (by unfold InR; omega), w32_id (x := p.2.2 + 1) (by unfold InR; omega)]
        have := nx N hFN
        rw [hjs] at this
        simp only [] at this
        by_cases hlc : lcV V (nxV V D nets (wlV V)) (A (t : Int)) (wayS (nxV V D nets (wlV V)) (A (t : Int))).1 ≤ 0
        · rw [if_pos hlc]
          rw [if_pos hlc] at this
          exact this
        · rw [if_neg hlc]
          rw [if_neg hlc] at this
          exact this
      · rw [if_neg (fun q => hw7 q.2)] at hjs
        rw [if_neg (by omega)]
        unfold t_MO_callsJoy_L97
        rw [w32_succ (t := t) (by omega)]
        have := nx N hFN
        rw [hjs] at this
        exact this
theorem m_callsJoy {M : Mem} {V : TV} {a w : Int} {D A : Int → Int} {nets : Int64} (ha : 0 ≤ a ∧ a < 23) (h : RI M V) (hm : MSc M a V D A nets) (hD : ∀ w, 0 ≤ w → w < V 0 2 → 0 ≤ D w ∧ D w ≤ 4) (hA : ∀ t, 0 ≤ t → t < V 0 3 → 0 ≤ A t ∧ A t < cellsV V) (hw : 0 ≤ w ∧ w < V 0 2) : ∃ N, t_MO_callsJoy M a w = some N ∧ Fr CJ M N ∧ ∀ j, 0 ≤ j → j ≤ 6 → N.2 220 j = nmJ V (nxV V D nets (wlV V)) A w (M.1 207 a) j :=
  m_callsJoy_loop ha h hm hD hA hw (V 0 3).toNat 0 FU M (by have := h.1.1.1; omega) (fu_big (by have := h.1.1.1; omega)) Fr.rf
def joyS (V : TV) (f A : Int → Int) (w yr : Int) : Int := witS (V 12) (V 13) (nmJ V f A w yr) (V 0 12) 9999 (jyS V f A w (V 0 3).toNat).2.1
def JW : Nat → Int → Prop := fun k j => W_MO_goesFrom k j ∨ k = 220 ∨ GO k j
theorem JW_RIc : ∀ k j, RIc k j → ¬ JW k j := by
  intro k j a q
  unfold RIc at a
  unfold JW W_MO_goesFrom GO at q
  omega
theorem CJ_JW : ∀ k j, CJ k j → JW k j := by
  intro k j q
  rcases q with q | q
  · exact Or.inl q
  · exact Or.inr (Or.inl q)
theorem GO_JW : ∀ k j, GO k j → JW k j := fun k j q => Or.inr (Or.inr q)
theorem m_joyOf {M : Mem} {V : TV} {a w : Int} {D A : Int → Int} {nets : Int64} (ha : 0 ≤ a ∧ a < 23) (h : RI M V) (hm : MSc M a V D A nets) (hD : ∀ w, 0 ≤ w → w < V 0 2 → 0 ≤ D w ∧ D w ≤ 4) (hA : ∀ t, 0 ≤ t → t < V 0 3 → 0 ≤ A t ∧ A t < cellsV V) (hw : 0 ≤ w ∧ w < V 0 2) : ∃ N, t_MO_joyOf M a w = some (N, joyS V (nxV V D nets (wlV V)) A w (M.1 207 a)) ∧ Fr JW M N := by
  obtain ⟨N, n1, n2, n3⟩ := m_callsJoy ha h hm hD hA hw
  have hN : RI N V := h.fr n2 CJ_RIc
  have hv := h.1.1.1
  have hj := jyS_rng h.1.1 (nxV V D nets (wlV V)) A w (V 0 3).toNat (by omega)
  obtain ⟨O, o1, o2⟩ := m_within (M := N) (s := 1) (most := 9999) (wo := q_l2i (N.2 220 3)) (by omega) hN.1.2.2.2.2 hN.1.2.2.1.2.1
  have e3 : q_l2i (N.2 220 3) = (jyS V (nxV V D nets (wlV V)) A w (V 0 3).toNat).2.1 := by
    rw [n3 3 (by omega) (by omega)]
    exact l2i_i2l (by unfold InR; omega)
  unfold t_MO_joyOf
  rw [n1, obind_some, o1, obind_some]
  refine ⟨O, ?_, (n2.mono CJ_JW).trans (o2.mono GO_JW)⟩
  unfold joyS
  rw [e3, witS_congr (nm := nmM N) (nm' := nmJ V (nxV V D nets (wlV V)) A w (M.1 207 a)) (fun j a b => n3 j a b)]
theorem RI.msc {M : Mem} {V : TV} (_h : RI M V) (a : Int) : MSc M a V (DN M a) (AT M a) (M.2 210 a) := MSc.self M a V
theorem m_joyOf0 {M : Mem} {V : TV} {a w : Int} (ha : 0 ≤ a ∧ a < 23) (h : RI M V) (hr : RowOK M a V) (hw : 0 ≤ w ∧ w < V 0 2) : ∃ N, t_MO_joyOf M a w = some (N, joyS V (nxR M a V) (AT M a) w (M.1 207 a)) ∧ Fr JW M N := m_joyOf ha h (MSc.self M a V) hr.1 hr.2.1 hw
/-! push -/
def thV (V : TV) (A : Int → Int) (c : Int) : Int := fI (fnd (fun a => A (a : Int)) c (V 0 3).toNat)
theorem th_rng {V : TV} (hV : VOK V) (A : Int → Int) (c : Int) : -1 ≤ thV V A c ∧ thV V A c < V 0 3 := by
  have hv := hV.1
  unfold thV
  cases e : fnd (fun a => A (a : Int)) c (V 0 3).toNat with
  | none => show -1 ≤ (-1 : Int) ∧ (-1 : Int) < _; omega
  | some b => have := (fnd_some e).1; show -1 ≤ (b : Int) ∧ (b : Int) < _; omega
def nmP (V : TV) (D A : Int → Int) (c d yr : Int) : Int → Int64 := fun j =>
  if j = 0 then (if V 7 (bsV V c d) < 0 then 0 else q_i2l (V 3 (V 7 (bsV V c d))))
  else if j = 1 then (if V 7 (bsV V c d) < 0 then 0 else q_i2l (szV V (V 7 (bsV V c d))))
  else if j = 2 then (if thV V A (bsV V c d) < 0 then 0 else 1)
  else if j = 3 then (if thV V A (bsV V c d) < 0 then 0 else q_i2l (V 5 (thV V A (bsV V c d))))
  else if j = 4 then (if lnV V c (bsV V c d) = 0 then 0 else 1)
  else if j = 5 then (if dnV V D c = 4 then 0 else if q_rem (dnV V D c + 2) 4 = d then 1 else 0)
  else q_i2l yr
def W20 : Nat → Int → Prop := fun k j => k = 220
theorem W20_RIc : ∀ k j, RIc k j → ¬ W20 k j := by intro k j a q; unfold RIc at a; unfold W20 at q; omega
theorem RI.thing0 {M : Mem} {V : TV} (h : RI M V) {c : Int} (hc : 0 ≤ c) : t_MO_thingIn M 0 c = some (thV V (AT M 0) c) := m_thingIn (by omega) h.1.1 h.1.2.1 hc (h.th 0)
end
section
/-! push: the names -/
/-- the names so far -/
def NmU (M N : Mem) (V : TV) (c d k : Int) : Prop := Fr W20 M N ∧ ∀ j, 0 ≤ j → j ≤ k → N.2 220 j = nmP V (DN M 0) (AT M 0) c d (M.1 207 0) j
theorem NmU.put {M N : Mem} {V : TV} {c d k : Int} {v : Int64} (h : NmU M N V c d k) (h0 : -1 ≤ k) (hv : v = nmP V (DN M 0) (AT M 0) c d (M.1 207 0) (k + 1)) : NmU M (setL N 220 (k + 1) v) V c d (k + 1) := by
  refine ⟨h.1.setL rfl, fun j j0 j1 => ?_⟩
  by_cases e : j = k + 1
  · rw [e, sL_self]; exact hv
  · rw [sL_ne (by omega)]; exact h.2 j j0 (by omega)
theorem NmU.ri {M N : Mem} {V : TV} {c d k : Int} (hu : NmU M N V c d k) (h : RI M V) : RI N V ∧ AT N 0 = AT M 0 ∧ DN N 0 = DN M 0 ∧ N.1 207 0 = M.1 207 0 :=
  ⟨h.fr hu.1 W20_RIc, AT_fr hu.1 (fun j x => by unfold W20 at x; omega), DN_fr hu.1 (fun j x => by unfold W20 at x; omega), (hu.1 207 0 (by unfold W20; omega)).1⟩
theorem nmP0 (V : TV) (D A : Int → Int) (c d yr : Int) : nmP V D A c d yr 0 = if V 7 (bsV V c d) < 0 then 0 else q_i2l (V 3 (V 7 (bsV V c d))) := by unfold nmP; rw [if_pos rfl]
theorem nmP1 (V : TV) (D A : Int → Int) (c d yr : Int) : nmP V D A c d yr 1 = if V 7 (bsV V c d) < 0 then 0 else q_i2l (szV V (V 7 (bsV V c d))) := by unfold nmP; rw [if_neg (by decide), if_pos rfl]
theorem nmP2 (V : TV) (D A : Int → Int) (c d yr : Int) : nmP V D A c d yr 2 = if thV V A (bsV V c d) < 0 then 0 else 1 := by unfold nmP; rw [if_neg (by decide), if_neg (by decide), if_pos rfl]
theorem nmP3 (V : TV) (D A : Int → Int) (c d yr : Int) : nmP V D A c d yr 3 = if thV V A (bsV V c d) < 0 then 0 else q_i2l (V 5 (thV V A (bsV V c d))) := by unfold nmP; rw [if_neg (by decide), if_neg (by decide), if_neg (by decide), if_pos rfl]
theorem nmP4 (V : TV) (D A : Int → Int) (c d yr : Int) : nmP V D A c d yr 4 = if lnV V c (bsV V c d) = 0 then 0 else 1 := by unfold nmP; rw [if_neg (by decide), if_neg (by decide), if_neg (by decide), if_neg (by decide), if_pos rfl]
theorem nmP5 (V : TV) (D A : Int → Int) (c d yr : Int) : nmP V D A c d yr 5 = if dnV V D c = 4 then 0 else if q_rem (dnV V D c + 2) 4 = d then 1 else 0 := by unfold nmP; rw [if_neg (by decide), if_neg (by decide), if_neg (by decide), if_neg (by decide), if_neg (by decide), if_pos rfl]
theorem nmP6 (V : TV) (D A : Int → Int) (c d yr : Int) : nmP V D A c d yr 6 = q_i2l yr := by unfold nmP; rw [if_neg (by decide), if_neg (by decide), if_neg (by decide), if_neg (by decide), if_neg (by decide), if_neg (by decide)]
theorem m_is0 (M : Mem) : t_MO_is M 0 = 0 := rfl
theorem m_is1 (M : Mem) : t_MO_is M 1 = 1 := rfl
theorem m_cp_L165 {M N : Mem} {V : TV} {c d v : Int} {ag : Int64} (h : NmU M N V c d 4) (hag : t_MO_is N v = ag) (h5 : ag = nmP V (DN M 0) (AT M 0) c d (M.1 207 0) 5) : ∃ O, t_MO_callsPush_L165 c d N 5 v = some O ∧ NmU M O V c d 6 := by
  unfold t_MO_callsPush_L165
  rw [hag]
  have h6 := h.put (v := ag) (by omega) h5
  have y : N.1 207 0 = M.1 207 0 := (h.1 207 0 (by unfold W20; omega)).1
  have h7 := h6.put (v := q_i2l (N.1 207 0)) (by omega) (by rw [y]; exact (nmP6 _ _ _ _ _ _).symm)
  simp only [qlet]
  rw [qguard_pos ⟨by omega, by omega⟩]
  exact ⟨_, rfl, h7⟩
theorem m_cp_L115 {M N : Mem} {V : TV} {c d : Int} {v : Int64} (hR : RI M V) (c0 : 0 ≤ c) (c1 : c < cellsV V) (hb : 0 ≤ bsV V c d) (h : NmU M N V c d 2) (h3 : v = nmP V (DN M 0) (AT M 0) c d (M.1 207 0) 3) : ∃ O, t_MO_callsPush_L115 c d N (bsV V c d) 3 v = some O ∧ NmU M O V c d 6 := by
  have hC := hR.1.1.cells
  have hbr := bs_rng hR.1.1 c0 c1 d
  have u3 := h.put (v := v) (by omega) h3
  have r3 := u3.ri hR
  unfold t_MO_callsPush_L115 t_MO_callsPush_L164
  rw [qguard_pos ⟨by omega, by omega⟩]
  simp only [qlet]
  have u3' : NmU M (setL N 220 3 v) V c d 3 := u3
  have l3 : t_MO_isLine (setL N 220 3 v) c (bsV V c d) = some (lnV V c (bsV V c d)) := m_line r3.1.1.2.1 c0 (by omega) hb (by omega)
  rw [l3, obind_some]
  have u4 := u3'.put (v := t_MO_is (setL N 220 3 v) (lnV V c (bsV V c d))) (by omega) (by rw [m_is]; exact (nmP4 _ _ _ _ _ _).symm)
  have u4' : NmU M (setL (setL N 220 3 v) 220 4 (t_MO_is (setL N 220 3 v) (lnV V c (bsV V c d)))) V c d 4 := u4
  generalize setL (setL N 220 3 v) 220 4 (t_MO_is (setL N 220 3 v) (lnV V c (bsV V c d))) = N4 at u4' ⊢
  have r4 := u4'.ri hR
  have hdn := dn_rng hR.1.1 hR.row0.1 c0 (c := c) (by omega)
  change 0 ≤ dnV V (DN M 0) c ∧ dnV V (DN M 0) c ≤ 4 at hdn
  rw [m_down r4.1.1.2.1 r4.1.1.1 (MSc.self N4 0 V) (by rw [r4.1.2.1]; decide) (by omega) c0 (by omega), obind_some, r4.2.2.1]
  by_cases e : dnV V (DN M 0) c = 4
  · rw [if_pos e]
    exact m_cp_L165 u4' (m_is0 _) (by rw [nmP5, if_pos e])
  · rw [if_neg e, w32_id (x := dnV V (DN M 0) c + 2) (by unfold InR; omega)]
    by_cases e2 : q_rem (dnV V (DN M 0) c + 2) 4 = d
    · rw [if_pos e2]
      exact m_cp_L165 u4' (m_is1 _) (by rw [nmP5, if_neg e, if_pos e2])
    · rw [if_neg e2]
      exact m_cp_L165 u4' (m_is0 _) (by rw [nmP5, if_neg e, if_neg e2])
theorem m_cp_L63 {M N : Mem} {V : TV} {c d : Int} {v : Int64} (hR : RI M V) (c0 : 0 ≤ c) (c1 : c < cellsV V) (hb : 0 ≤ bsV V c d) (h : NmU M N V c d 0) (h1 : v = nmP V (DN M 0) (AT M 0) c d (M.1 207 0) 1) : ∃ O, t_MO_callsPush_L63 c d N (bsV V c d) 1 v = some O ∧ NmU M O V c d 6 := by
  have hC := hR.1.1.cells
  have hv := hR.1.1.1
  have hth := th_rng hR.1.1 (AT M 0) (bsV V c d)
  have u1 : NmU M (setL N 220 1 v) V c d 1 := h.put (v := v) (by omega) h1
  unfold t_MO_callsPush_L63 t_MO_callsPush_L88
  rw [qguard_pos ⟨by omega, by omega⟩]
  simp only [qlet]
  generalize setL N 220 1 v = N1 at u1 ⊢
  have r1 := u1.ri hR
  rw [r1.1.thing0 hb, obind_some, r1.2.1, qguard_pos ⟨by omega, by omega⟩, m_is0, m_is1]
  by_cases e : thV V (AT M 0) (bsV V c d) < 0
  · rw [if_pos (by omega), if_pos (by omega)]
    exact m_cp_L115 hR c0 c1 hb (u1.put (v := 0) (by omega) (by show _ = nmP _ _ _ _ _ _ 2; rw [nmP2, if_pos e])) (by rw [nmP3, if_pos e])
  · have u2 : NmU M (setL N1 220 2 1) V c d 2 := u1.put (v := 1) (by omega) (by show _ = nmP _ _ _ _ _ _ 2; rw [nmP2, if_neg e])
    have r2 := u2.ri hR
    have w5 : N.1 201 (thV V (AT M 0) (bsV V c d)) = V 5 (thV V (AT M 0) (bsV V c d)) := ((h.ri hR).1.1.2.1.2.2.1 _ (by omega) (by omega)).2.1
    rw [if_neg (by omega), qguard_pos ⟨by omega, by omega⟩, if_neg (by omega), qguard_pos ⟨by omega, by omega⟩]
    exact m_cp_L115 hR c0 c1 hb u2 (by rw [nmP3, if_neg e, ← w5])
theorem m_callsPush {M : Mem} {V : TV} {c d : Int} (h : RI M V) (c0 : 0 ≤ c) (c1 : c < cellsV V) (d0 : 0 ≤ d) (d1 : d < 4) (hb : 0 ≤ bsV V c d) : ∃ N, t_MO_callsPush M c d = some N ∧ Fr W20 M N ∧ ∀ j, 0 ≤ j → j ≤ 6 → N.2 220 j = nmP V (DN M 0) (AT M 0) c d (M.1 207 0) j := by
  have hC := h.1.1.cells
  have hv := h.1.1.1
  have hbr := bs_rng h.1.1 c0 c1 d
  have hV7 := h.1.1.2.2.2 (bsV V c d) hb (by omega)
  have u : NmU M M V c d (-1) := ⟨Fr.rf, fun j a b => by omega⟩
  unfold t_MO_callsPush t_MO_callsPush_L40
  rw [m_beside h.1.2.1 h.1.1 c0 c1 d0 (by omega), obind_some, qguard_pos ⟨by omega, by omega⟩, (h.1.2.1.2.2.2 _ hb (by omega)).1, w32_id (x := V 7 (bsV V c d) + 1 - 1) (by unfold InR; omega), show V 7 (bsV V c d) + 1 - 1 = V 7 (bsV V c d) by omega]
  simp only [qlet]
  by_cases e : V 7 (bsV V c d) < 0
  · rw [if_pos (by omega), qguard_pos ⟨by omega, by omega⟩, if_pos (by omega)]
    exact m_cp_L63 h c0 c1 hb (u.put (v := 0) (by omega) (by show _ = nmP _ _ _ _ _ _ 0; rw [nmP0, if_pos e])) (by rw [nmP1, if_pos e])
  · rw [if_neg (by omega), qguard_pos ⟨by omega, by omega⟩, qguard_pos ⟨by omega, by omega⟩, if_neg (by omega), (h.1.2.1.2.1 _ (by omega) (by omega)).2.2]
    have u0 : NmU M (setL M 220 0 (q_i2l (V 3 (V 7 (bsV V c d))))) V c d 0 := u.put (v := q_i2l (V 3 (V 7 (bsV V c d)))) (by omega) (by show _ = nmP _ _ _ _ _ _ 0; rw [nmP0, if_neg e])
    have r0 := u0.ri h
    have sz : t_MO_sizeOf (setL M 220 0 (q_i2l (V 3 (V 7 (bsV V c d))))) (V 7 (bsV V c d)) = some (szV V (V 7 (bsV V c d))) := m_sizeOf r0.1.1.2.1 h.1.1 (by omega)
    rw [sz, obind_some]
    exact m_cp_L63 h c0 c1 hb u0 (by rw [nmP1, if_neg e])
end
