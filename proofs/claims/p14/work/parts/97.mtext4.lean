/-! ===== a text: the operation, and what it keeps -/
theorem m_text {M : Mem} {x1 : Int} (hT : TInv M) : (¬ (0 ≤ x1 ∧ x1 ≤ M.1 191 2) ∧ t_MO_text M x1 = some (setI M 191 0 0, -2)) ∨ ((0 ≤ x1 ∧ x1 ≤ M.1 191 2) ∧ ∃ N r, t_MO_text M x1 = some (N, r) ∧ TxO M N r (txA (fun j => M.1 192 j) x1)) := by
  obtain ⟨⟨t0, t1⟩, t2⟩ := hT
  unfold t_MO_text
  simp (config := { proj := false }) only [qlet]
  have e2 : (setI M 191 0 0).1 191 2 = M.1 191 2 := sI_ne (by omega)
  rw [e2]
  by_cases a : x1 < 0
  · rw [if_pos a]; exact Or.inl ⟨by omega, rfl⟩
  · rw [if_neg a]
    by_cases b : x1 ≤ M.1 191 2
    · rw [if_pos b]
      refine Or.inr ⟨⟨by omega, b⟩, ?_⟩
      have hn : 0 ≤ x1 ∧ x1 ≤ 700 := by omega
      have f9 : Fr TfW M (setI (setI (setI (setI (setI (setI M 191 0 0) 191 19 x1) 191 2 0) 191 20 0) 191 24 0) 191 25 (-1)) := (((((Fr.rf.setI (by unfold TfW; omega)).setI (by unfold TfW; omega)).setI (by unfold TfW; omega)).setI (by unfold TfW StW; omega)).setI (by unfold TfW StW; omega)).setI (by unfold TfW StW; omega)
      have v19 : (setI (setI (setI (setI (setI (setI M 191 0 0) 191 19 x1) 191 2 0) 191 20 0) 191 24 0) 191 25 (-1)).1 191 19 = x1 := by rw [sI_ne (by omega), sI_ne (by omega), sI_ne (by omega), sI_ne (by omega), sI_self]
      have v2 : (setI (setI (setI (setI (setI (setI M 191 0 0) 191 19 x1) 191 2 0) 191 20 0) 191 24 0) 191 25 (-1)).1 191 2 = 0 := by rw [sI_ne (by omega), sI_ne (by omega), sI_ne (by omega), sI_self]
      have v20 : (setI (setI (setI (setI (setI (setI M 191 0 0) 191 19 x1) 191 2 0) 191 20 0) 191 24 0) 191 25 (-1)).1 191 20 = 0 := by rw [sI_ne (by omega), sI_ne (by omega), sI_self]
      have v24 : (setI (setI (setI (setI (setI (setI M 191 0 0) 191 19 x1) 191 2 0) 191 20 0) 191 24 0) 191 25 (-1)).1 191 24 = 0 := by rw [sI_ne (by omega), sI_self]
      generalize setI (setI (setI (setI (setI (setI M 191 0 0) 191 19 x1) 191 2 0) 191 20 0) 191 24 0) 191 25 (-1) = M9 at *
      obtain ⟨P1, p1, g1, h1⟩ := m_text_L47 (x1 := x1) 9 FU M9 0 (by omega) (by omega) (fu_big (by omega))
      obtain ⟨P2, p2, g2, h2⟩ := m_text_L80 (x1 := x1) 48 FU P1 0 (by omega) (by omega) (fu_big (by omega))
      obtain ⟨P3, p3, g3, h3⟩ := m_text_L124 (x1 := x1) 2 FU P2 2 (by omega) (by omega) (fu_big (by omega))
      rw [p1, p2, p3]
      have f4 : Fr (fun k j => k = 191 ∧ (j = 17 ∨ j = 18 ∨ j = 28 ∨ j = 29)) P3 (setI (setI (setI (setI P3 191 17 0) 191 18 0) 191 28 0) 191 29 0) := (((Fr.rf.setI (by omega)).setI (by omega)).setI (by omega)).setI (by omega)
      have w17 : (setI (setI (setI (setI P3 191 17 0) 191 18 0) 191 28 0) 191 29 0).1 191 17 = 0 := by rw [sI_ne (by omega), sI_ne (by omega), sI_ne (by omega), sI_self]
      have w18 : (setI (setI (setI (setI P3 191 17 0) 191 18 0) 191 28 0) 191 29 0).1 191 18 = 0 := by rw [sI_ne (by omega), sI_ne (by omega), sI_self]
      have w28 : (setI (setI (setI (setI P3 191 17 0) 191 18 0) 191 28 0) 191 29 0).1 191 28 = 0 := by rw [sI_ne (by omega), sI_self]
      have w29 : (setI (setI (setI (setI P3 191 17 0) 191 18 0) 191 28 0) 191 29 0).1 191 29 = 0 := sI_self _ _ _ _
      generalize setI (setI (setI (setI P3 191 17 0) 191 18 0) 191 28 0) 191 29 0 = P4 at *
      have g9 : ∀ k j, ¬ (193 ≤ k ∧ k ≤ 204) → ¬ (k = 191 ∧ (j = 17 ∨ j = 18 ∨ j = 28 ∨ j = 29)) → P4.1 k j = M9.1 k j := fun k j a b => (((f4 k j b).1.trans (g3 k j (by omega)).1).trans (g2 k j (by omega)).1).trans (g1 k j (by omega)).1
      have hTp : TpOK P4 (fun j => M.1 192 j) x1 := ⟨hn, by rw [g9 191 19 (by omega) (by omega)]; exact v19, fun j u v => ⟨by rw [g9 192 j (by omega) (by omega)]; exact (f9 192 j (by unfold TfW StW; omega)).1, t2 j u (by omega)⟩⟩
      obtain ⟨N, n1, n2, n3⟩ := m_token hTp (a := 0) (Int.le_refl _) hn.1 (by rw [g9 191 20 (by omega) (by omega)]; exact v20)
      have hTS : TS N (fun j => M.1 192 j) x1 0 := ⟨hTp.fr n2 (fun k j u v => by unfold TkW at v; omega), n3, by rw [(n2 191 24 (by unfold TkW; omega)).1, g9 191 24 (by omega) (by omega)]; exact v24⟩
      have hq : ∀ k j, ¬ (k = 191 ∧ 20 ≤ j ∧ j ≤ 25) → N.1 k j = P4.1 k j := fun k j u => (n2 k j (by unfold TkW; omega)).1
      have hLB : LB N TV0 0 := by
        have z : ∀ j, ¬ (j = 0 ∨ j = 1) → TV0 0 j = 0 := fun j h => by
          unfold TV0
          rw [if_neg (fun q => h q.2), if_neg (by decide)]
        have s0 : ∀ j, 0 ≤ j → j < 9 → N.1 193 (9 + j) = if j = 0 ∨ j = 1 then 4 else 0 := fun j u v => by
          rw [hq 193 _ (by omega), (f4 193 _ (by omega)).1, (g3 193 _ (by omega)).1, (g2 193 _ (by omega)).1]
          exact h1 j u v
        have c0 : ∀ j, 0 ≤ j → j < 48 → N.1 197 (48 + j) = 0 ∧ N.1 198 (48 + j) = 0 ∧ N.1 199 (48 + j) = 0 := fun j u v => by
          rw [hq 197 _ (by omega), (f4 197 _ (by omega)).1, (g3 197 _ (by omega)).1, hq 198 _ (by omega), (f4 198 _ (by omega)).1, (g3 198 _ (by omega)).1, hq 199 _ (by omega), (f4 199 _ (by omega)).1, (g3 199 _ (by omega)).1]
          exact h2 j u v
        have k0 : ∀ j, 2 ≤ j → j < 4 → N.1 203 j = 0 ∧ N.1 204 j = 0 := fun j u v => by
          rw [hq 203 _ (by omega), (f4 203 _ (by omega)).1, hq 204 _ (by omega), (f4 204 _ (by omega)).1]
          exact h3 j u v
        have law : ∀ s : Nat, s < 2 → SLw N TV0 s := by
          intro s hs
          unfold SLw
          rw [(k0 (2 + (s : Int)) (by omega) (by omega)).1, (k0 (2 + (s : Int)) (by omega) (by omega)).2, z (11 + (s : Int)) (by omega), z 4 (by omega)]
          exact ⟨by omega, by omega, by omega, fun i u v => by omega⟩
        refine ⟨⟨⟨s0 0 (by omega) (by omega), s0 1 (by omega) (by omega), s0 2 (by omega) (by omega), s0 3 (by omega) (by omega), s0 4 (by omega) (by omega), s0 5 (by omega) (by omega), s0 6 (by omega) (by omega), s0 7 (by omega) (by omega), s0 8 (by omega) (by omega)⟩, fun w u v => ?_, fun t u v => ?_, fun c u v => ?_⟩, ⟨law 0 (by omega), law 1 (by omega)⟩, ?_, ?_, ?_⟩
        · rw [z 2 (by omega)] at v; omega
        · rw [z 3 (by omega)] at v; omega
        · have c7 : TV0 7 c = -1 := by unfold TV0; rw [if_neg (fun q => absurd q.1 (by decide)), if_pos rfl]
          have c8 : TV0 8 c = 0 := by unfold TV0; rw [if_neg (fun q => absurd q.1 (by decide)), if_neg (by decide)]
          have c9 : TV0 9 c = 0 := by unfold TV0; rw [if_neg (fun q => absurd q.1 (by decide)), if_neg (by decide)]
          have := c0 c u v
          rw [c7, c8, c9]
          exact ⟨by omega, this.2.1, this.2.2⟩
        · rw [hq 191 28 (by omega)]; exact w28
        · rw [hq 191 29 (by omega), z 4 (by omega)]; exact w29
        · rw [hq 191 18 (by omega)]; exact w18
      have hTB : TBd N TV0 := by
        intro x hx
        rw [hq 191 17 (by omega), w17]
        have e : tbI 0 x = false := by
          unfold tbI
          show (0#32).getLsbD x.toNat = false
          simp
        rw [e]
        have hx' : x = 0 ∨ x = 2 ∨ x = 3 ∨ x = 4 ∨ x = 5 ∨ x = 6 ∨ x = 10 ∨ x = 11 := by omega
        rcases hx' with rfl | rfl | rfl | rfl | rfl | rfl | rfl | rfl <;> rfl
      rw [n1, obind_some]
      obtain ⟨Q, q1, q2, q3⟩ := m_tx (x1 := x1) hn 700 FU 1000 N TV0 0 0 (by omega) (fu_big (by omega)) (by omega) hTS hLB hTB pok0 (by omega) (by omega)
      rw [q1]
      have fQ : Fr TfW M Q := ((((f9.trans (g1.mono (fun k j z => by unfold TfW StW; omega))).trans (g2.mono (fun k j z => by unfold TfW StW; omega))).trans (g3.mono (fun k j z => by unfold TfW StW; omega))).trans (f4.mono (fun k j z => by unfold TfW StW; omega))).trans ((n2.mono (fun k j z => by unfold TkW at z; unfold TfW StW; omega)).trans (q2.mono (fun k j z => Or.inl z)))
      refine m_text_L195 (l := 0) fQ ?_ q3
      rw [(q2 191 2 (by unfold StW; omega)).1, hq 191 2 (by omega), g9 191 2 (by omega) (by omega)]
      exact v2
    · rw [if_neg b]; exact Or.inl ⟨by omega, rfl⟩
/-! the reference's picture stays where only what is read into changes -/
def RIt : Nat → Int → Prop := fun k j => (k = 193 ∧ j < 9) ∨ (194 ≤ k ∧ k ≤ 196 ∧ j < 4) ∨ (197 ≤ k ∧ k ≤ 199 ∧ j < 48) ∨ (200 ≤ k ∧ k ≤ 202 ∧ j < 8) ∨ ((k = 203 ∨ k = 204) ∧ j < 2) ∨ ((k = 205 ∨ k = 206) ∧ j < 64) ∨ (RIc k j ∧ ¬ (193 ≤ k ∧ k ≤ 206))
theorem MF1.frS {W : Nat → Int → Prop} {M N : Mem} {s n : Int} {K L : Int → Int} (hF : Fr W M N) (hs : s < 2) (hd : ∀ k j, RIt k j → ¬ W k j) (h : MF1 M s K L n) : MF1 N s K L n := by
  obtain ⟨h1, h2, h3, h4⟩ := h
  have e3 : N.1 203 s = M.1 203 s := (hF _ _ (hd _ _ (by unfold RIt; omega))).1
  have e4 : N.1 204 s = M.1 204 s := (hF _ _ (hd _ _ (by unfold RIt; omega))).1
  refine ⟨by rw [e3]; exact h1, by rw [e3, e4]; exact h2, by rw [e4]; exact h3, fun i a b => ?_⟩
  rw [e3, (hF 205 _ (hd _ _ (by unfold RIt; omega))).1, (hF 206 _ (hd _ _ (by unfold RIt; omega))).1]
  exact h4 i a b
theorem MT0.frS {W : Nat → Int → Prop} {M N : Mem} {V : TV} (hF : Fr W M N) (hV : VOK V) (hd : ∀ k j, RIt k j → ¬ W k j) (h : MT0 M V) : MT0 N V := by
  have hv := hV.1
  obtain ⟨⟨a0, a1, a2, a3, a4, a5⟩, b, c, d⟩ := h
  have f : ∀ j, j < 9 → N.1 193 j = M.1 193 j := fun j z => (hF 193 j (hd _ _ (Or.inl ⟨rfl, z⟩))).1
  refine ⟨⟨(f _ (by omega)).trans a0, (f _ (by omega)).trans a1, (f _ (by omega)).trans a2, (f _ (by omega)).trans a3, (f _ (by omega)).trans a4, (f _ (by omega)).trans a5⟩, fun w x y => ?_, fun t x y => ?_, fun q x y => ?_⟩
  · rw [(hF 194 w (hd _ _ (by unfold RIt; omega))).1, (hF 195 w (hd _ _ (by unfold RIt; omega))).1, (hF 196 w (hd _ _ (by unfold RIt; omega))).1]; exact b w x y
  · rw [(hF 200 t (hd _ _ (by unfold RIt; omega))).1, (hF 201 t (hd _ _ (by unfold RIt; omega))).1, (hF 202 t (hd _ _ (by unfold RIt; omega))).1]; exact c t x y
  · rw [(hF 197 q (hd _ _ (by unfold RIt; omega))).1, (hF 198 q (hd _ _ (by unfold RIt; omega))).1, (hF 199 q (hd _ _ (by unfold RIt; omega))).1]; exact d q x y
theorem RI.frS {W : Nat → Int → Prop} {M N : Mem} {V : TV} (hF : Fr W M N) (hd : ∀ k j, RIt k j → ¬ W k j) (h : RI M V) : RI N V := by
  obtain ⟨⟨a1, a2, a3, a4⟩, b, ⟨c1, c2⟩, ⟨d1, d2⟩, ⟨e1, e2, e3⟩, f⟩ := h
  have hd' : ∀ k j, RIc k j → ¬ (193 ≤ k ∧ k ≤ 206) → ¬ W k j := fun k j x y => hd k j (by unfold RIt; exact Or.inr (Or.inr (Or.inr (Or.inr (Or.inr (Or.inr ⟨x, y⟩))))))
  have row : ∀ a : Int, 0 ≤ a → a ≠ 1 → RowEq N a M a := fun a x y => RowEq.fr hF (fun k j hk => hd' k j (CW_RIc ⟨x, y⟩ k j hk) (by unfold CW at hk; omega))
  have q : ∀ j : Int, (j = 42 ∨ j = 43 ∨ j = 44) → N.1 191 j = M.1 191 j := fun j hj => (hF 191 j (hd' _ _ (by unfold RIc; omega) (by omega))).1
  have q0 := row 0 (by omega) (by omega)
  refine ⟨⟨a1, MT0.frS hF a1 hd a2, a3, MF1.frS hF (by omega) hd a4.1, MF1.frS hF (by omega) hd a4.2⟩, by rw [q 44 (by omega)]; exact b, ⟨c1.of a1 q0, by rw [q0.1.1, q0.1.2.2.1]; exact c2⟩, ⟨by rw [q 42 (by omega)]; exact d1, fun h => ?_⟩, ⟨by rw [q 43 (by omega)]; exact e1, by rw [q 43 (by omega)]; exact e2, fun k x y => ?_⟩, f.fr hF (fun k j x => hd' k j (by unfold RIc; omega) (by omega))⟩
  · have q2 := row 2 (by omega) (by omega)
    obtain ⟨r1, r2⟩ := d2 (by rw [← q 42 (by omega)]; exact h)
    exact ⟨r1.of a1 q2, by rw [q2.1.1, q2.1.2.2.1]; exact r2⟩
  · rw [q 43 (by omega)] at y
    have q3 := row (3 + k) (by omega) (by omega)
    obtain ⟨r1, r2, r3, r4⟩ := e3 k x y
    exact ⟨r1.of a1 q3, by rw [q3.1.1, q0.1.1]; exact r2, by rw [q3.1.2.1, q0.1.2.1]; exact r3, by rw [q3.1.2.2.1, q0.1.2.2.1]; exact r4⟩
theorem ri_text {M : Mem} {V : TV} (h : RI M V) (hT : TInv M) (x1 : Int) : Ok (fun r => (∃ V', RI r.1 V') ∧ TInv r.1) (t_MO_text M x1) := by
  rcases m_text (x1 := x1) hT with ⟨a, e⟩ | ⟨a, N, r, e, o⟩
  · have hF : Fr (fun k j => k = 191 ∧ j = 0) M (setI M 191 0 0) := Fr.rf.setI ⟨rfl, rfl⟩
    refine ⟨_, e, ⟨V, h.set0 0⟩, ?_⟩
    unfold TInv
    show (0 ≤ (setI M 191 0 0).1 191 2 ∧ (setI M 191 0 0).1 191 2 ≤ 700) ∧ _
    rw [(hF 191 2 (by omega)).1]
    refine ⟨hT.1, fun j u v => ?_⟩
    rw [(hF 192 j (by omega)).1]
    exact hT.2 j u v
  · have ti : N.1 191 2 = 0 → TInv N := fun z => ⟨by rw [z]; omega, fun j u v => by rw [z] at v; omega⟩
    rcases o with ⟨o1, o2, o3, o4, o5, o6⟩ | ⟨o1, o2, o3, o4, o5, o6, o7, o8, o9, o10, o11, o12, o13⟩
    · exact ⟨_, e, ⟨V, h.frS o3 (fun k j u z => by unfold RIt RIc at u; unfold TfW StW at z; omega)⟩, ti o6⟩
    · generalize (txA (fun j => M.1 192 j) x1).2.2.2 = V' at *
      have hv := o6.1.1
      refine ⟨_, e, ⟨V', ⟨o6.1, o7, o6.2.1, o8⟩, ?_, ⟨⟨fun w u v => ?_, fun t u v => ?_, fun c u v => ?_⟩, ?_⟩, ⟨Or.inl o10, fun z => ?_⟩, ⟨?_, ?_, fun k u v => ?_⟩, ?_⟩, ti o5⟩
      · rw [(o3 191 44 (by unfold TsW TfW StW BgW; omega)).1]; exact h.2.1
      · have := o9.2.1 w u (by omega)
        have hw := o6.1.2.1 w u v
        rw [show 4 * (0 : Int) + w = w by omega]
        show 0 ≤ N.1 212 w ∧ N.1 212 w ≤ 4
        rw [this, if_neg (by omega)]; omega
      · have := (o9.2.2 t u (by omega)).1
        have hw := o6.1.2.2.1 t u v
        rw [show 8 * (0 : Int) + t = t by omega]
        show 0 ≤ N.1 213 t ∧ N.1 213 t < cellsV V'
        rw [this, if_neg (by omega)]; omega
      · have z1 := o9.1.2.2.2.1
        have z2 := o9.1.2.2.2.2
        show tb (N.2 210 0) c = false ∧ tb (N.2 211 0) c = false
        rw [z1, z2, tb_zero]
        exact ⟨rfl, rfl⟩
      · have z1 := o9.1.1
        have z2 := o9.1.2.2.1
        show 0 ≤ N.1 207 0 ∧ N.1 207 0 ≤ 99 ∧ 0 ≤ N.1 209 0 ∧ N.1 209 0 ≤ 2147483647
        rw [z1, z2]; omega
      · have o10 : N.1 191 42 = 0 := o10
        have z : N.1 191 42 = 1 := z
        omega
      · show 0 ≤ N.1 191 43
        omega
      · show N.1 191 43 ≤ 20
        omega
      · have v : k < N.1 191 43 := v
        omega
      · unfold NotesOK
        show 0 ≤ N.1 191 60 ∧ N.1 191 60 ≤ 24 ∧ -1 ≤ N.1 191 61 ∧ N.1 191 61 ≤ N.1 191 60 ∧ _
        rw [o12, o13]
        exact ⟨by omega, by omega, by omega, by omega, fun k u v => by omega⟩
