/-! ===== years and the clock of the reference ===== -/
theorem RI.floods0 {M : Mem} {V : TV} (h : RI M V) : ∃ N, t_MO_floods M 0 = some N ∧ N.2 211 0 = flS (nxR M 0 V) (M.2 211 0) (cellsV V).toNat ∧ Fr (fun k j => k = 211 ∧ j = 0) M N ∧ RI N V := by
  have hC := h.1.1.cells
  obtain ⟨O, e1, e2, e3⟩ := (h.nb h.row0).floods (by omega)
  exact ⟨O, e1, e2, e3, h.now0 e3 (fun k j _ q => by omega) (RowOK.water e3 h.row0 (fun c a b => by rw [e2]; exact flS_bits (nx_ok h.1.1 _ _ _) hC.2 ⟨a, b⟩ (by omega) _ (by omega)))⟩
theorem RI.scr {M : Mem} {V : TV} {k : Nat} {j v : Int} (h : RI M V) (hk : k = 216 ∨ k = 217 ∨ k = 218) : RI (setI M k j v) V := h.fr (W := fun k' j' => k' = k ∧ j' = j) (Fr.rf.setI ⟨rfl, rfl⟩) (fun k' j' a q => by unfold RIc at a; omega)
/-- a change of row 0's numbers where nothing can be brought back -/
theorem RI.set9 {M : Mem} {V : TV} {k : Nat} {v : Int} (h : RI M V) (hu : M.1 191 43 = 0) (hk : (k = 209 ∧ 0 ≤ v ∧ v ≤ 2147483647) ∨ (k = 207 ∧ 0 ≤ v ∧ v ≤ 99)) : RI (setI M k 0 v) V := by
  have hy := h.2.2.1.2
  have hr := h.row0
  refine h.now (W := fun k' j' => k' = k ∧ j' = 0) (Fr.rf.setI ⟨rfl, rfl⟩) (fun k' j' a q => Or.inl (by unfold CW; omega)) ⟨fun w a b => ?_, fun t a b => ?_, fun c a b => hr.2.2 c a b⟩ ?_ ?_ ?_ (fun q => ?_)
  · rw [sI_ne (by omega)]; exact hr.1 w a b
  · rw [sI_ne (by omega)]; exact hr.2.1 t a b
  · rcases hk with ⟨rfl, hk⟩ | ⟨rfl, hk⟩
    · rw [sI_ne (by omega)]; exact ⟨hy.1, hy.2.1⟩
    · rw [sI_self]; exact hk
  · rcases hk with ⟨rfl, hk⟩ | ⟨rfl, hk⟩
    · rw [sI_self]; exact hk
    · rw [sI_ne (by omega)]; exact hy.2.2
  · rw [sI_ne (by omega)]; omega
  · rw [sI_ne (by omega)] at q; omega
theorem RI.down0 {M : Mem} {V : TV} {w d : Int} (h : RI M V) (hw : 0 ≤ w ∧ w < 4) (hd : 0 ≤ d ∧ d ≤ 4) : RI (setI M 212 w d) V := by
  have hr := h.row0
  refine h.now0 (W := fun k j => k = 212 ∧ j = w) (Fr.rf.setI ⟨rfl, rfl⟩) (fun k j _ q => by omega) ⟨fun x a b => ?_, fun t a b => ?_, fun c a b => hr.2.2 c a b⟩
  · by_cases e : 4 * 0 + x = w
    · rw [e, sI_self]; exact hd
    · rw [sI_ne (by omega)]; exact hr.1 x a b
  · rw [sI_ne (by omega)]; exact hr.2.1 t a b
theorem draw_rng {d b : Int} (hd : 0 ≤ d ∧ d ≤ 2147483647) (hb : 0 < b ∧ b ≤ 4) : 0 ≤ q_rem (q_shr d 16) b ∧ q_rem (q_shr d 16) b < b := by
  rw [q_shr16 (by unfold InR; omega), q_rem_nn (by unfold InR; omega) (by unfold InR; omega) (by omega) hb.1]
  have h1 := Int.emod_nonneg (d / 65536) (b := b) (by omega)
  have h2 := Int.emod_lt_of_pos (d / 65536) hb.1
  omega
theorem RI.draw {M : Mem} {V : TV} (h : RI M V) (hu : M.1 191 43 = 0) {b : Int} (hb : 0 < b ∧ b ≤ 4) : Ok (fun r => RI r.1 V ∧ (0 ≤ r.2 ∧ r.2 < b) ∧ Fr (fun k j => k = 209 ∧ j = 0) M r.1) (t_MO_draw M b) := by
  unfold t_MO_draw
  refine ok_let (fun M2 e2 => ?_)
  have hd := q_and_low (x := w32 (w32 (M.1 209 0 * 1103515245) + 12345))
  rw [if_neg (by omega)]
  refine ok_some ⟨by rw [e2]; exact h.set9 hu (Or.inl ⟨rfl, hd⟩), ?_, by rw [e2]; exact Fr.rf.setI ⟨rfl, rfl⟩⟩
  have e : M2.1 209 0 = q_and (w32 (w32 (M.1 209 0 * 1103515245) + 12345)) 2147483647 := by rw [e2, sI_self]
  show 0 ≤ q_rem (q_shr (M2.1 209 0) 16) b ∧ _
  rw [e]
  exact draw_rng hd hb
theorem ri_years_loop {x1 : Int} {V : TV} : ∀ (n fu : Nat) (M : Mem) (v2 : Int), v2 + (n : Int) = x1 → 0 ≤ v2 → x1 ≤ 99 → n < fu → RI M V → M.1 207 0 + (n : Int) ≤ 99 → (0 < n → M.1 191 43 = 0) → Ok (fun r => RI r.1 V) (t_MO_years_L41 x1 fu M v2) := by
  intro n
  induction n with
  | zero =>
    intro fu M v2 g0 g1 g3 g2 h hy hu
    obtain ⟨g, rfl⟩ : ∃ g, fu = g + 1 := ⟨fu - 1, by omega⟩
    rw [t_MO_years_L41, if_pos (by omega)]
    exact ok_some h
  | succ n ih =>
    intro fu M v2 g0 g1 g3 g2 h hy hu
    obtain ⟨g, rfl⟩ : ∃ g, fu = g + 1 := ⟨fu - 1, by omega⟩
    have h43 := hu (by omega)
    have hy0 := h.2.2.1.2
    have hyy : M.1 207 0 = M.1 207 0 := rfl
    have hv := h.1.1.1
    have h2 := h.1.2.1.1.2.2.1
    rw [t_MO_years_L41, if_neg (by omega)]
    have nx : ∀ N : Mem, RI N V → N.1 191 43 = 0 → N.1 207 0 = M.1 207 0 → Ok (fun r => RI r.1 V) (t_MO_years_L149 x1 (fun a0_ a1_ => t_MO_years_L41 x1 g a0_ a1_) N v2) := by
      intro N hN n43 n7
      unfold t_MO_years_L149
      refine ok_let (fun M39 e39 => ?_)
      rw [w32_id (x := v2 + 1) (by unfold InR; omega)]
      rw [n7, w32_id (by unfold InR; omega)] at e39
      refine ih g M39 (v2 + 1) (by omega) (by omega) g3 (by omega) (by rw [e39]; exact hN.set9 n43 (Or.inr ⟨rfl, by omega, by omega⟩)) ?_ (fun _ => ?_)
      · rw [e39, sI_self]; omega
      · rw [e39, sI_ne (by omega)]; exact n43
    have h7 : ∀ N, Fr (fun k j => k = 216 ∨ k = 217 ∨ k = 218) M N → N.1 207 0 = M.1 207 0 := fun N q => (q 207 0 (by omega)).1
    generalize M.1 207 0 = y at *
    refine ok_guard (by omega) (ok_let (fun M12 e12 => ok_guard (by omega) (ok_let (fun M14 e14 => ok_guard (by omega) (ok_let (fun M16 e16 => ?_))))))
    have hF : Fr (fun k j => k = 216 ∨ k = 217 ∨ k = 218) M M16 := by
      rw [e16, e14, e12]; exact ((Fr.rf.setI (by omega)).setI (by omega)).setI (by omega)
    have r16 : RI M16 V := h.fr hF (fun k j a q => by unfold RIc at a; omega)
    have u16 : M16.1 191 43 = 0 := by rw [(hF 191 43 (by omega)).1]; exact h43
    have y16 : M16.1 207 0 = y := h7 M16 hF
    have w16 : M16.1 193 2 = V 0 2 := r16.1.2.1.1.2.2.1
    rw [w16]
    refine ok_ite (fun _ => nx M16 r16 u16 y16) (fun c => ?_)
    refine ok_bind (r16.draw u16 (b := V 0 2) (by omega)) (fun q20 h20 => ?_)
    have hq := h20.2.1
    have u20 : q20.1.1 191 43 = 0 := by rw [(h20.2.2 191 43 (by omega)).1]; exact u16
    have y20 : q20.1.1 207 0 = y := by rw [(h20.2.2 207 0 (by omega)).1]; exact y16
    refine ok_guard (by omega) (ok_let (fun M23 e23 => ok_guard (by omega) (ok_guard (by omega) (ok_let (fun M27 e27 => ?_)))))
    have r27 : RI M27 V := by rw [e27, e23]; exact (h20.1.scr (by omega)).scr (by omega)
    have u27 : M27.1 191 43 = 0 := by rw [e27, sI_ne (by omega), e23, sI_ne (by omega)]; exact u20
    have y27 : M27.1 207 0 = y := by rw [e27, sI_ne (by omega), e23, sI_ne (by omega)]; exact y20
    refine ok_bind (r27.draw u27 (b := 4) (by omega)) (fun q28 h28 => ?_)
    have u28 : q28.1.1 191 43 = 0 := by rw [(h28.2.2 191 43 (by omega)).1]; exact u27
    have y28 : q28.1.1 207 0 = y := by rw [(h28.2.2 207 0 (by omega)).1]; exact y27
    refine ok_guard (by omega) (ok_let (fun M31 e31 => ok_guard (by omega) (ok_guard (by omega) (ok_let (fun M35 e35 => ?_)))))
    have r35 : RI M35 V := by rw [e35, e31]; exact (h28.1.down0 (by omega) (by have := h28.2.1; omega)).scr (by omega)
    have u35 : M35.1 191 43 = 0 := by rw [e35, sI_ne (by omega), e31, sI_ne (by omega)]; exact u28
    have y35 : M35.1 207 0 = y := by rw [e35, sI_ne (by omega), e31, sI_ne (by omega)]; exact y28
    obtain ⟨N, n1, n2, n3, n4⟩ := r35.floods0
    rw [n1, obind_some]
    exact nx N n4 (by rw [(n3 191 43 (by omega)).1]; exact u35) (by rw [(n3 207 0 (by omega)).1]; exact y35)
theorem ri_years {M : Mem} {V : TV} (h : RI M V) (x1 : Int) : Ok (fun r => RI r.1 V) (t_MO_years M x1) := by
  unfold t_MO_years t_MO_years_L39
  refine ok_let (fun M1 e1 => ?_)
  have h1 : RI M1 V := by rw [e1]; exact h.set0 0
  have hy := h1.2.2.1.2
  refine ok_ite (fun _ => ok_some h1) (fun c1 => ok_ite (fun _ => ok_some h1) (fun c2 => ?_))
  rw [w32_id (x := M1.1 207 0 + x1) (by unfold InR; omega)]
  refine ok_ite (fun c3 => ?_) (fun _ => ok_some h1)
  refine ok_ite (fun c4 => ?_) (fun c4 => ok_let (fun M7 e7 => ?_))
  · exact ri_years_loop x1.toNat FU M1 0 (by omega) (by omega) (by omega) (fu_big (by omega)) h1 (by omega) (fun q => by omega)
  · have y7 : M7.1 207 0 = M1.1 207 0 := by rw [e7, sI_ne (by omega)]
    exact ri_years_loop x1.toNat FU M7 0 (by omega) (by omega) (by omega) (fu_big (by omega)) (by rw [e7]; exact h1.no_undo) (by rw [y7]; omega) (fun _ => by rw [e7, sI_self])
