/-! ===== the reference's moves ===== -/
theorem RI.now {W : Nat → Int → Prop} {M N : Mem} {V : TV} (h : RI M V) (hF : Fr W M N) (hd : ∀ k j, RIc k j → W k j → CW 0 k j ∨ (k = 191 ∧ j = 43)) (hr : RowOK N 0 V) (hy : 0 ≤ N.1 207 0 ∧ N.1 207 0 ≤ 99) (hs : 0 ≤ N.1 209 0 ∧ N.1 209 0 ≤ 2147483647) (hu : 0 ≤ N.1 191 43 ∧ N.1 191 43 ≤ M.1 191 43) (hq : 0 < N.1 191 43 → N.1 207 0 = M.1 207 0 ∧ N.1 208 0 = M.1 208 0 ∧ N.1 209 0 = M.1 209 0) : RI N V := by
  obtain ⟨⟨a1, a2, a3, a4⟩, b, ⟨c1, c2⟩, ⟨d1, d2⟩, ⟨e1, e2, e3⟩, f⟩ := h
  have row : ∀ a : Int, 2 ≤ a → RowEq N a M a := fun a x => RowEq.fr hF (fun k j hk q => by
    rcases hd k j (CW_RIc (by omega) k j hk) q with q | q
    · unfold CW at hk q; omega
    · unfold CW at hk; omega)
  have nn : ∀ k j, RIc k j → ¬ CW 0 k j → ¬ (k = 191 ∧ j = 43) → ¬ W k j := fun k j x y z q => (hd k j x q).elim y z
  have q : ∀ j : Int, (j = 42 ∨ j = 44) → N.1 191 j = M.1 191 j := fun j hj => (hF 191 j (nn _ _ (by unfold RIc; omega) (by unfold CW; omega) (by omega))).1
  refine ⟨⟨a1, MT0.fr hF (fun k j x y => nn _ _ (by unfold RIc; omega) (by unfold CW; omega) (by omega)) a2, a3, MF1.fr hF (fun k j x y => nn _ _ (by unfold RIc; omega) (by unfold CW; omega) (by omega)) a4.1, MF1.fr hF (fun k j x y => nn _ _ (by unfold RIc; omega) (by unfold CW; omega) (by omega)) a4.2⟩, by rw [q 44 (by omega)]; exact b, ⟨hr, hy.1, hy.2, hs.1, hs.2⟩, ⟨by rw [q 42 (by omega)]; exact d1, fun h => ?_⟩, ⟨hu.1, by omega, fun k x y => ?_⟩, f.fr hF (fun k j x => nn _ _ (by unfold RIc; omega) (by unfold CW; omega) (by omega))⟩
  · have q2 := row 2 (by omega)
    obtain ⟨r1, r2⟩ := d2 (by rw [← q 42 (by omega)]; exact h)
    exact ⟨r1.of a1 q2, by rw [q2.1.1, q2.1.2.2.1]; exact r2⟩
  · have q3 := row (3 + k) (by omega)
    obtain ⟨r1, r2, r3, r4⟩ := e3 k x (by omega)
    obtain ⟨s1, s2, s3⟩ := hq (by omega)
    exact ⟨r1.of a1 q3, by rw [q3.1.1, s1]; exact r2, by rw [q3.1.2.1, s2]; exact r3, by rw [q3.1.2.2.1, s3]; exact r4⟩
/-- what a step needs -/
def NB (M : Mem) (a : Int) (V : TV) : Prop := VOK V ∧ MT0 M V ∧ M.1 191 44 = -1 ∧ ∀ w, 0 ≤ w → w < V 0 2 → 0 ≤ M.1 212 (4 * a + w) ∧ M.1 212 (4 * a + w) ≤ 4
theorem RI.nb {M : Mem} {V : TV} (h : RI M V) {a : Int} (hr : RowOK M a V) : NB M a V := ⟨h.1.1, h.1.2.1, h.2.1, hr.1⟩
theorem NB.fr {W : Nat → Int → Prop} {M N : Mem} {a : Int} {V : TV} (h : NB M a V) (hF : Fr W M N) (hd : ∀ k j, ((193 ≤ k ∧ k ≤ 202) ∨ k = 212 ∨ (k = 191 ∧ j = 44)) → ¬ W k j) : NB N a V :=
  ⟨h.1, h.2.1.fr hF (fun k j x y => hd k j (by omega)), by rw [(hF 191 44 (hd _ _ (by omega))).1]; exact h.2.2.1, fun w x y => by rw [(hF 212 _ (hd _ _ (by omega))).1]; exact h.2.2.2 w x y⟩
theorem NB.next {M : Mem} {a : Int} {V : TV} (h : NB M a V) (ha : 0 ≤ a ∧ a < 23) {c : Int} (h0 : 0 ≤ c) (h1 : c < cellsV V) : t_MO_nextOf M a c = some (nxR M a V c) := m_next h.2.1 h.1 (MSc.self M a V) h.2.2.2 h.2.2.1 ha h0 h1
theorem NB.floods {M : Mem} {a : Int} {V : TV} (h : NB M a V) (ha : 0 ≤ a ∧ a < 23) : ∃ N, t_MO_floods M a = some N ∧ N.2 211 a = flS (nxR M a V) (M.2 211 a) (cellsV V).toNat ∧ Fr (fun k j => k = 211 ∧ j = a) M N := by
  have hC := h.1.cells
  refine m_floods ha ⟨by omega, hC.2⟩ (nx_ok h.1 _ _ _) (fun N hF => ?_)
  have hN := h.fr hF (fun k j x q => by omega)
  have e : nxR N a V = nxR M a V := nxR_fr hF (fun k j x q => by omega)
  exact ⟨m_cells hN.2.1 h.1, fun c x y => by rw [hN.next ha x y, e]⟩
theorem NB.pours {M : Mem} {a x2 : Int} {V : TV} (h : NB M a V) (ha : 0 ≤ a ∧ a < 23) (c0 : 0 ≤ x2) (c1 : x2 < cellsV V) : ∃ N, t_MO_pours M a x2 = some (N, (prS (nxR M a V) 49 (M.2 211 a) x2).2) ∧ N.2 211 a = (prS (nxR M a V) 49 (M.2 211 a) x2).1 ∧ Fr (fun k j => k = 211 ∧ j = a) M N :=
  m_pours ha h.1.cells.2 (nx_ok h.1 _ _ _) (fun c x y => h.next ha x y) c0 c1
theorem prS_bits {f : Int → Int} {C i : Int} (hf : stepOK f C) (hC : C ≤ 48) (hi : C ≤ i ∧ i < 64) (c9 : 0 ≤ C) : ∀ (n : Nat) (w : Int64) (c : Int), 0 ≤ c → c < C → tb w i = false → tb (prS f n w c).1 i = false := by
  intro n
  induction n with
  | zero => intro w c _ _ h; exact h
  | succ n ih =>
    intro w c h0 h1 h
    have hs := hf c h0 h1
    rw [prS]
    by_cases e : f c < 0 ∨ tb w (f c) = true
    · rw [if_pos e]
      by_cases e2 : tb w c = true
      · rw [if_pos e2]; exact h
      · rw [if_neg e2]
        show tb (w ||| q_lshl 1 c) i = false
        rw [tb_or w h0 (by omega) (by omega) hi.2, h]
        simp; omega
    · rw [if_neg e]
      exact ih w (f c) (by omega) (by omega) h
theorem flS_bits {f : Int → Int} {C i : Int} {was : Int64} (hf : stepOK f C) (hC : C ≤ 48) (hi : C ≤ i ∧ i < 64) (c9 : 0 ≤ C) : ∀ (n : Nat), (n : Int) ≤ C → tb (flS f was n) i = false := by
  intro n
  induction n with
  | zero => intro _; exact tb_zero i
  | succ n ih =>
    intro hn
    rw [flS]
    split
    · exact prS_bits hf hC hi c9 49 _ _ (by omega) (by omega) (ih (by omega))
    · exact ih (by omega)
theorem ri_vote {M : Mem} {V : TV} (h : RI M V) (x1 x2 : Int) : Ok (fun r => RI r.1 V) (t_MO_vote M x1 x2) := by
  unfold t_MO_vote
  refine ok_let (fun M1 e1 => ?_)
  have h1 : RI M1 V := by rw [e1]; exact h.set0 0
  simp only [qlet]
  rw [m_isWard h1.1.2.1]
  by_cases c1 : 0 ≤ x1 ∧ x1 < V 0 2
  · have hv := h.1.1.1
    have hC := h.1.1.cells
    rw [if_pos c1, if_neg (by decide)]
    by_cases c2 : 0 ≤ x2 ∧ x2 ≤ 4
    · have ed : t_MO_isDown M1 x2 = 1 := by unfold t_MO_isDown; rw [if_neg (by omega), if_neg (by omega)]
      rw [ed, if_neg (by decide), qguard_pos ⟨c1.1, by omega⟩]
      refine ok_ite (fun _ => ok_some h1) (fun _ => ?_)
      refine ok_bind (ri_keepNow h1) (fun N hN => ?_)
      rw [qguard_pos ⟨c1.1, by omega⟩]
      have hr0 := hN.1.row0
      have hs : RowOK (setI N 212 x1 x2) 0 V := by
        refine ⟨fun w a b => ?_, fun t a b => ?_, hr0.2.2⟩
        · by_cases e : 4 * 0 + w = x1
          · rw [e, sI_self]; exact c2
          · rw [sI_ne (by omega)]; exact hr0.1 w a b
        · rw [sI_ne (by omega)]; exact hr0.2.1 t a b
      have hy := hN.1.2.2.1.2
      have h3 : RI (setI N 212 x1 x2) V := by
        refine hN.1.now (W := fun k j => k = 212 ∧ j = x1) (Fr.rf.setI ⟨rfl, rfl⟩) (fun k j _ q => Or.inl (by unfold CW; omega)) hs ?_ ?_ ?_ (fun _ => ?_)
        · rw [sI_ne (by omega)]; exact ⟨hy.1, hy.2.1⟩
        · rw [sI_ne (by omega)]; exact ⟨hy.2.2.1, hy.2.2.2⟩
        · rw [sI_ne (by omega)]; exact ⟨hN.1.2.2.2.2.1.1, Int.le_refl _⟩
        · rw [sI_ne (by omega), sI_ne (by omega), sI_ne (by omega)]; exact ⟨rfl, rfl, rfl⟩
      generalize setI N 212 x1 x2 = M14 at *
      obtain ⟨O, e1, e2, e3⟩ := (h3.nb h3.row0).floods (by omega)
      rw [e1, obind_some]
      refine ok_some ?_
      have hy3 := h3.2.2.1.2
      have hr3 := h3.row0
      refine h3.now e3 (fun k j _ q => Or.inl (by unfold CW; omega)) ⟨fun w a b => ?_, fun t a b => ?_, fun c a b => ⟨?_, ?_⟩⟩ ?_ ?_ ?_ (fun _ => ?_)
      · rw [(e3 212 _ (by omega)).1]; exact hr3.1 w a b
      · rw [(e3 213 _ (by omega)).1]; exact hr3.2.1 t a b
      · rw [(e3 210 _ (by omega)).2]; exact (hr3.2.2 c a b).1
      · rw [e2]; exact flS_bits (nx_ok h.1.1 _ _ _) hC.2 ⟨a, b⟩ (by omega) _ (by omega)
      · rw [(e3 207 _ (by omega)).1]; exact ⟨hy3.1, hy3.2.1⟩
      · rw [(e3 209 _ (by omega)).1]; exact ⟨hy3.2.2.1, hy3.2.2.2⟩
      · rw [(e3 191 _ (by omega)).1]; exact ⟨h3.2.2.2.2.1.1, Int.le_refl _⟩
      · rw [(e3 207 _ (by omega)).1, (e3 208 _ (by omega)).1, (e3 209 _ (by omega)).1]; exact ⟨rfl, rfl, rfl⟩
    · have ed : t_MO_isDown M1 x2 = 0 := by
        unfold t_MO_isDown
        by_cases q : x2 < 0
        · rw [if_pos q]
        · rw [if_neg q, if_pos (by omega)]
      rw [ed, if_pos rfl]; exact ok_some h1
  · rw [if_neg c1, if_pos rfl]; exact ok_some h1
