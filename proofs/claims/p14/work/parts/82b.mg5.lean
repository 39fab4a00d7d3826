/-! ===== formulas: the last piece, and all ===== -/
section MG5
variable {B : Int → Int} {n : Int}
theorem EP.opn {M : Mem} {i : Nat} {c o q : Int} (h : EP M B n i c o q) (o' : Int) : EP (setI M 191 28 o') B n i c o' q := by
  have hF : Fr (fun k j => k = 191 ∧ j = 28) M (setI M 191 28 o') := Fr.rf.setI ⟨rfl, rfl⟩
  obtain ⟨h1, h2, h3, h4, h5, h6⟩ := h
  exact ⟨h1.fr hF (fun k j a z => by omega), h2.fr hF (fun k j a z => by unfold TkW at a; omega), by rw [sI_ne (by omega)]; exact h3, by rw [sI_ne (by omega)]; exact h4, sI_self _ _ _ _, by rw [sI_ne (by omega)]; exact h6⟩
/-- a faulty end of a number or name -/
theorem m_p_fault {M : Mem} {rc : Nat → Mem → Option Mem} (h : ¬ M.1 191 24 = 0) (v : Int) : t_MO_primary_L162 rc M v = some M := by
  unfold t_MO_primary_L162 t_MO_primary_L176 t_MO_primary_L194
  simp only [qlet]
  rw [flt_knot h]
  simp only [flt_puts h, obind_some, flt_goOn h, ite_self]
theorem m_G5 {d : Nat} (hd : MG B n d) : ∀ (o : Int) (i : Nat) (c q : Int) (M : Mem) (r : ER), 0 ≤ o → o ≤ 8 → 0 ≤ q → q ≤ c → c ≤ 64 → nd 5 o c ≤ (d : Int) + 1 → EP M B n i c o q → exG (tK B n) (tW B n) (d + 1) 5 o i c = some r → XR M B n o q r (t_MO_G (d + 1) 5 M) := by
  intro o i c q M r o0 o1 q0 q1 c1 hn hE h
  have hN := hE.nr
  have hT : ∀ x, n.toNat ≤ x → tK B n x = 32 := tK_T hN
  unfold nd at hn
  rw [exG, if_neg (by decide), if_pos rfl] at h
  rw [t_MO_G, if_neg (by decide), if_neg (by decide), if_neg (by decide), if_neg (by decide), if_neg (by decide), if_pos rfl]
  unfold t_MO_primary_B
  simp only [qlet]
  rw [if_pos hE.2.2.1, hE.sign (w := 41) (v := 40) (by omega) (by omega) rfl]
  have hkk := hE.kok
  by_cases k41 : tK B n i = 41
  · rw [if_pos k41] at h ⊢
    rw [if_neg (show ¬ (1 : Int) = 0 by decide), hE.2.2.2.2.1]
    unfold t_MO_primary_L31
    by_cases o8 : o = 8
    · rw [if_pos o8] at h ⊢
      have h := Option.some.inj h
      subst h
      obtain ⟨w1, w2, w3⟩ := hE.fault 2
      rw [if_neg (by rw [w2]; decide)]
      exact ⟨_, rfl, w1, Or.inr ⟨by show ¬ (2 : Int) = 0; decide, w2, w3⟩⟩
    · rw [if_neg o8] at h ⊢
      rw [if_pos hE.2.2.1]
      simp only [qlet]
      rw [hE.2.2.2.2.1, w32_id (x := o + 1) (by unfold InR; omega)]
      obtain ⟨N8, g1, g2, g3⟩ := (hE.opn (o + 1)).next
      have hF0 : Fr (XW q) M (setI M 191 28 (o + 1)) := Fr.rf.setI (by unfold XW; omega)
      rw [g1, obind_some]
      cases e1 : exG (tK B n) (tW B n) d 0 (o + 1) (i + 1) c with
      | none => rw [e1] at h; cases h
      | some r1 =>
        rw [e1] at h
        have h : (if r1.1 = 0 then (if tK B n r1.2.1 = 42 then some (0, r1.2.1 + 1, r1.2.2.1, r1.2.2.2) else some (1, r1.2.1, r1.2.2.1, r1.2.2.2)) else some r1) = some r := h
        obtain ⟨N1, x1, x2, x3⟩ := hd 0 (o + 1) (i + 1) c q N8 r1 (by omega) (by omega) (by omega) q0 q1 c1 (by unfold nd; omega) g3 e1
        obtain ⟨rr, ea, eb⟩ := exG_facts (K := tK B n) (W := tW B n) hT (by omega) d 0 (o + 1) (i + 1) c (by omega) (by omega) (by omega) (by omega) c1 (by unfold nd; omega)
        rw [e1] at ea
        have ea := Option.some.inj ea
        subst ea
        have hF := (hF0.trans (g2.mono TkW_XW)).trans x2
        rw [x1, obind_some]
        unfold t_MO_primary_L78
        simp only [qlet]
        rcases x3 with ⟨z, y1, y2⟩ | ⟨z, y1, y2⟩
        · rw [if_pos z] at h
          rw [if_pos y1.2.2.1, y1.sign (w := 42) (v := 41) (by omega) (by omega) rfl]
          by_cases k42 : tK B n r1.2.1 = 42
          · rw [if_pos k42] at h ⊢
            have h := Option.some.inj h
            subst h
            rw [if_neg (show ¬ (1 : Int) = 0 by decide), if_pos y1.2.2.1, y1.2.2.2.2.1, w32_id (x := o + 1 - 1) (by unfold InR; omega), show o + 1 - 1 = o by omega]
            obtain ⟨N9, p1, p2, p3⟩ := (y1.opn o).next
            rw [p1, obind_some]
            have hF9 : Fr (XW (q + (r1.2.2.2.length : Int))) N1 (setI N1 191 28 o) := Fr.rf.setI (by unfold XW; omega)
            refine ⟨N9, rfl, (hF.trans (hF9.mono (XW.mono (by omega)))).trans (p2.mono TkW_XW), Or.inl ⟨rfl, p3, ?_⟩⟩
            exact (y2.fr hF9 (fun k j a b z => by unfold XW at z; omega)).fr p2 (fun k j a b z => by unfold TkW at z; omega)
          · rw [if_neg k42] at h ⊢
            have h := Option.some.inj h
            subst h
            obtain ⟨w1, w2, w3⟩ := y1.fault 1
            rw [if_pos (show (0 : Int) = 0 from rfl), if_neg (by rw [w2]; decide)]
            exact ⟨_, rfl, hF.trans (w1.mono (XW.mono (by omega))), Or.inr ⟨by show ¬ (1 : Int) = 0; decide, w2, w3⟩⟩
        · rw [if_neg z] at h
          have h := Option.some.inj h
          subst h
          have hz : ¬ N1.1 191 24 = 0 := by rw [y1]; exact z
          rw [if_neg hz, if_neg hz]
          exact ⟨N1, rfl, hF, Or.inr ⟨z, y1, y2⟩⟩
  · rw [if_neg k41] at h ⊢
    rw [if_pos (show (0 : Int) = 0 from rfl)]
    have s2 := srt_num hE.2.1 hkk
    unfold t_MO_primary_L114 t_MO_primary_L137 t_MO_primary_L157
    simp only [qlet]
    -- full, and not
    have full : ∀ v : Int, c = 64 → t_MO_primary_L162 (fun i_ M_ => t_MO_G d i_ M_) M v = some (t_MO_wrong M 2) := by
      intro v c64
      subst c64
      obtain ⟨w1, w2, w3⟩ := hE.fault 2
      have hz : ¬ (t_MO_wrong M 2).1 191 24 = 0 := by rw [w2]; decide
      unfold t_MO_primary_L162 t_MO_primary_L176 t_MO_primary_L194
      simp only [qlet]
      rw [hE.knotFull]
      simp only [flt_puts hz, obind_some, flt_goOn hz, ite_self]
    by_cases k31 : tK B n i = 31
    · rw [if_pos k31] at h
      rw [if_pos (s2.mpr k31), if_neg (show ¬ (1 : Int) = 0 by decide), if_neg (show ¬ (1 : Int) = 0 by decide)]
      have hv : nvR (M.1 191 23) (tW B n i) := hE.2.1.2.2.2.2.2.1 k31
      unfold nvR at hv
      by_cases w9 : 9999 < tW B n i
      · rw [if_pos w9] at h
        have h := Option.some.inj h
        subst h
        obtain ⟨w1, w2, w3⟩ := hE.fault 2
        rw [if_neg (show ¬ M.1 191 23 ≤ 9999 by omega), m_p_fault (by rw [w2]; decide)]
        exact ⟨_, rfl, w1, Or.inr ⟨by show ¬ (2 : Int) = 0; decide, w2, w3⟩⟩
      · rw [if_neg w9] at h
        rw [if_pos (show M.1 191 23 ≤ 9999 by omega)]
        by_cases c64 : c = 64
        · rw [if_pos c64] at h
          have h := Option.some.inj h
          subst h
          obtain ⟨w1, w2, w3⟩ := hE.fault 2
          rw [full 1 c64]
          exact ⟨_, rfl, w1, Or.inr ⟨by show ¬ (2 : Int) = 0; decide, w2, w3⟩⟩
        · rw [if_neg c64] at h
          have h := Option.some.inj h
          subst h
          obtain ⟨k1, k2, k3⟩ := hE.knot (by omega) (by omega)
          unfold t_MO_primary_L162 t_MO_primary_L176 t_MO_primary_L194
          simp only [qlet]
          rw [if_neg (show ¬ (1 : Int) = 0 by decide), if_neg (show ¬ (1 : Int) = 0 by decide), k3]
          obtain ⟨N, n1, n2, n3, n4⟩ := k1.putOne q0 (by omega) 0 (M.1 191 23) 31 (tW B n i) rfl (by show M.1 191 23 = tW B n i; omega)
          exact ⟨N, n1, k2.trans n2, Or.inl ⟨rfl, n3, n4⟩⟩
    · rw [if_neg k31] at h
      rw [if_neg (fun z => k31 (s2.mp z)), if_pos trivial, if_pos trivial]
      have hsort := hE.2.1.2.2.1
      have bad : r = (1, i, c, []) → XR M B n o q r (t_MO_primary_L162 (fun i_ M_ => t_MO_G d i_ M_) (t_MO_wrong M 1) 0) := by
        intro hr
        subst hr
        obtain ⟨w1, w2, w3⟩ := hE.fault 1
        rw [m_p_fault (by rw [w2]; decide)]
        exact ⟨_, rfl, w1, Or.inr ⟨by show ¬ (1 : Int) = 0; decide, w2, w3⟩⟩
      by_cases k18 : 18 ≤ tK B n i ∧ tK B n i ≤ 24
      · rw [if_pos k18] at h
        have hs := (srt_word hE.2.1 hkk (tK B n i) (by omega) (by omega)).mpr rfl
        rw [if_pos hs.1, if_pos (show 18 ≤ M.1 191 23 by omega)]
        by_cases c64 : c = 64
        · rw [if_pos c64] at h
          have h := Option.some.inj h
          subst h
          obtain ⟨w1, w2, w3⟩ := hE.fault 2
          rw [full 0 c64]
          exact ⟨_, rfl, w1, Or.inr ⟨by show ¬ (2 : Int) = 0; decide, w2, w3⟩⟩
        · rw [if_neg c64] at h
          have h := Option.some.inj h
          subst h
          obtain ⟨k1, k2, k3⟩ := hE.knot (by omega) (by omega)
          unfold t_MO_primary_L162 t_MO_primary_L176 t_MO_primary_L194
          simp only [qlet]
          rw [if_pos trivial, if_pos trivial, k3, hs.2, w32_id (x := tK B n i - 18) (by unfold InR; omega)]
          obtain ⟨N, n1, n2, n3, n4⟩ := k1.putOne q0 (by omega) 1 (tK B n i - 18) (tK B n i) 0 (by unfold ksort; rw [if_neg (by omega), if_pos k18]) (by unfold kval; rw [if_neg (by omega), if_pos k18])
          exact ⟨N, n1, k2.trans n2, Or.inl ⟨rfl, n3, n4⟩⟩
      · rw [if_neg k18] at h
        have h := Option.some.inj h
        by_cases s0 : M.1 191 22 = 0
        · rw [if_pos s0]
          have hk : tK B n i ≤ 24 := by
            apply Classical.byContradiction
            intro y
            rw [hsort] at s0
            unfold srtV at s0
            repeat (first | omega | split at s0)
          have hv := hE.2.1.2.2.2.1 ⟨by omega, hk⟩
          rw [if_neg (show ¬ 18 ≤ M.1 191 23 by omega)]
          exact bad h.symm
        · rw [if_neg s0]
          exact bad h.symm
theorem m_G : ∀ d : Nat, MG B n d := by
  intro d
  induction d with
  | zero => intro nt o i c q M r h1 h2 h3 h4 h5 h6 h7; unfold nd at h7; omega
  | succ d ih =>
    intro nt o i c q M r h1 h2 h3 h4 h5 h6 h7 hE h
    have h7' : nd nt o c ≤ (d : Int) + 1 := by push_cast at h7; exact h7
    have hn : nt = 0 ∨ nt = 1 ∨ nt = 2 ∨ nt = 3 ∨ nt = 4 ∨ nt = 5 := by omega
    rcases hn with rfl | rfl | rfl | rfl | rfl | rfl
    · exact m_G0 ih o i c q M r h2 h3 h4 h5 h6 h7' hE h
    · exact m_G1 ih o i c q M r h2 h3 h4 h5 h6 h7' hE h
    · exact m_G2 ih o i c q M r h2 h3 h4 h5 h6 h7' hE h
    · exact m_G3 ih o i c q M r h2 h3 h4 h5 h6 h7' hE h
    · exact m_G4 ih o i c q M r h2 h3 h4 h5 h6 h7' hE h
    · exact m_G5 ih o i c q M r h2 h3 h4 h5 h6 h7' hE h
/-- a whole formula from token i on -/
def frS (B : Int → Int) (n : Int) (i : Nat) (c : Int) : ER := (exG (tK B n) (tW B n) 200 0 0 i c).getD (0, 0, 0, [])
theorem fr_facts (h : 0 ≤ n ∧ n ≤ 700) {i : Nat} {c : Int} (c0 : 0 ≤ c) (c1 : c ≤ 64) : exG (tK B n) (tW B n) 200 0 0 i c = some (frS B n i c) ∧ RG i c (frS B n i c) := by
  obtain ⟨r, r1, r2⟩ := exG_facts (K := tK B n) (W := tW B n) (tK_T h) (by omega) 200 0 0 i c (by omega) (by omega) (by omega) c0 c1 (by unfold nd; omega)
  unfold frS
  rw [r1]
  exact ⟨rfl, r2⟩
theorem m_expression {M : Mem} {i : Nat} {c q : Int} (q0 : 0 ≤ q) (q1 : q ≤ c) (c1 : c ≤ 64) (hE : EP M B n i c 0 q) : XR M B n 0 q (frS B n i c) (t_MO_expression M) :=
  m_G 200 0 0 i c q M _ (by omega) (by omega) (by omega) q0 q1 c1 (by unfold nd; omega) hE (fr_facts hE.nr (by omega) c1).1
end MG5
