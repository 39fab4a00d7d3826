/-! ===== feeding: the bytes, both sides ===== -/
theorem sh_am32u : ∀ k : Nat, k < 32 → (((Int32.ofInt (k : Int)).toUInt32 &&& Int32.toUInt32 31).toBitVec % 32).toNat = k := by decide +kernel
theorem ushr_bv {x i : Int} (h0 : 0 ≤ i) (h1 : i < 32) : (Int32.ofInt (q_ushr x i)).toBitVec = (Int32.ofInt x).toBitVec >>> i.toNat := by
  have a := sh_am32u i.toNat (by omega)
  rw [Int.toNat_of_nonneg h0] at a
  unfold q_ushr
  rw [q_of_toInt]
  show ((Int32.ofInt x).toUInt32 >>> ((Int32.ofInt i).toUInt32 &&& Int32.toUInt32 31)).toBitVec = _
  rw [UInt32.toBitVec_shiftRight]
  show (Int32.ofInt x).toBitVec >>> (((Int32.ofInt i).toUInt32 &&& Int32.toUInt32 31).toBitVec % 32).toNat = _
  rw [a]
def byF (x s : Int) : Int := q_and (q_ushr x s) 255
theorem by_eq (x : Int) {s : Int} (h0 : 0 ≤ s) (h1 : s ≤ 24) : q_and (q_shr x s) 255 = byF x s := by
  have e : ∀ y : Int, q_and y 255 = ((Int32.ofInt y).toBitVec &&& 255#32).toInt := fun y => by
    unfold q_and
    rw [← Int32.toInt_toBitVec, Int32.toBitVec_and]
    rfl
  unfold byF
  rw [e, e, shr_bv h0 (by omega), ushr_bv h0 (by omega)]
  congr 1
  apply BitVec.eq_of_getLsbD_eq
  intro i hi
  rw [BitVec.getLsbD_and, BitVec.getLsbD_and, BitVec.getLsbD_sshiftRight, BitVec.getLsbD_ushiftRight]
  have m : (255#32).getLsbD i = decide (i < 8) := by
    have : ∀ j : Nat, j < 32 → (255#32).getLsbD j = decide (j < 8) := by decide +kernel
    exact this i hi
  rw [m]
  by_cases c : i < 8
  · have h2 : s.toNat + i < 32 := by omega
    have h3 : ¬ 32 ≤ i := by omega
    simp [h2, h3]
  · simp [c]
def fdX (x1 x2 x3 x4 x5 j : Int) : Int := if j < 4 then x1 else if j < 8 then x2 else if j < 12 then x3 else if j < 16 then x4 else x5
def fdB (x1 x2 x3 x4 x5 j : Int) : Int := byF (fdX x1 x2 x3 x4 x5 j) (24 - 8 * (j % 4))
section FD
variable {x1 x2 x3 x4 x5 : Int}
theorem m_fd_loop {M0 : Mem} {l : Int} (l0 : 0 ≤ l) (l1 : l ≤ 680) : ∀ (fu : Nat) (M : Mem) (v : Int), 0 ≤ v → v ≤ 20 → M.1 191 2 = l → (∀ j, 0 ≤ j → j < v → M.1 192 (l + j) = fdB x1 x2 x3 x4 x5 j) → (∀ j, j < l → M.1 192 j = M0.1 192 j) → Post (fun r => (∀ j, 0 ≤ j → j < 20 → r.1.1 192 (l + j) = fdB x1 x2 x3 x4 x5 j) ∧ (∀ j, j < l → r.1.1 192 j = M0.1 192 j)) (t_MO_feed_L20 x1 x2 x3 x4 x5 fu M v) := by
  intro fu
  induction fu with
  | zero => intro M v a b c d e; rw [t_MO_feed_L20]; exact post_none
  | succ g ih =>
    intro M v g0 g1 h2 hb ho
    rw [t_MO_feed_L20]
    have step : ∀ x, x = fdX x1 x2 x3 x4 x5 v → v < 20 → Post (fun r => (∀ j, 0 ≤ j → j < 20 → r.1.1 192 (l + j) = fdB x1 x2 x3 x4 x5 j) ∧ (∀ j, j < l → r.1.1 192 j = M0.1 192 j)) (t_MO_feed_L73 x1 x2 x3 x4 x5 (fun a0_ a1_ => t_MO_feed_L20 x1 x2 x3 x4 x5 g a0_ a1_) M v x) := by
      intro x hx hv
      unfold t_MO_feed_L73
      rw [h2, w32_id (x := l + v) (by unfold InR; omega), w32_id (x := v + 1) (by unfold InR; omega), q_rem_nn (by unfold InR; omega) (by unfold InR; omega) g0 (by omega), w32_id (x := 8 * (v % 4)) (by unfold InR; omega), w32_id (x := 24 - 8 * (v % 4)) (by unfold InR; omega), by_eq _ (by omega) (by omega)]
      refine post_guard (fun _ => post_letX (fun N eN => ih N (v + 1) (by omega) (by omega) ?_ (fun j a b => ?_) (fun j a => ?_)))
      · rw [eN, sI_ne (by omega)]; exact h2
      · rw [eN]
        by_cases q : j = v
        · rw [q, sI_self, hx]; rfl
        · rw [sI_ne (by omega)]; exact hb j a (by omega)
      · rw [eN, sI_ne (by omega)]; exact ho j a
    refine post_ite (fun a => ?_) (fun c20 => post_ite (fun _ => post_ite (fun _ => post_ite (fun _ => post_ite (fun _ => step _ ?_ (by omega)) (fun _ => step _ ?_ (by omega))) (fun _ => step _ ?_ (by omega))) (fun _ => step _ ?_ (by omega))) (fun _ => step _ ?_ (by omega)))
    · refine post_letX (fun N eN => post_some ⟨fun j p q => ?_, fun j p => ?_⟩)
      · show N.1 192 (l + j) = _
        rw [eN, sI_ne (by omega)]; exact hb j p (by omega)
      · show N.1 192 j = _
        rw [eN, sI_ne (by omega)]; exact ho j p
    · unfold fdX; rw [if_neg (by omega), if_neg (by omega), if_neg (by omega), if_neg (by omega)]
    · unfold fdX; rw [if_neg (by omega), if_neg (by omega), if_neg (by omega), if_pos (by omega)]
    · unfold fdX; rw [if_neg (by omega), if_neg (by omega), if_pos (by omega)]
    · unfold fdX; rw [if_neg (by omega), if_pos (by omega)]
    · unfold fdX; rw [if_pos (by omega)]
theorem m_fd {M : Mem} (l0 : 0 ≤ M.1 191 2) (l1 : M.1 191 2 ≤ 680) : Post (fun r => (∀ j, 0 ≤ j → j < 20 → r.1.1 192 (M.1 191 2 + j) = fdB x1 x2 x3 x4 x5 j) ∧ (∀ j, j < M.1 191 2 → r.1.1 192 j = M.1 192 j)) (t_MO_feed M x1 x2 x3 x4 x5) := by
  unfold t_MO_feed
  refine post_letX (fun N eN => ?_)
  have h2 : N.1 191 2 = M.1 191 2 := by rw [eN, sI_ne (by omega)]
  rw [if_pos (by omega)]
  exact m_fd_loop l0 l1 FU N 0 (by omega) (by omega) h2 (fun j a b => by omega) (fun j a => by rw [eN, sI_ne (by omega)])
theorem m_fd_no {M : Mem} (l1 : ¬ M.1 191 2 ≤ 680) : Post (fun r => ∀ j, r.1.1 192 j = M.1 192 j) (t_MO_feed M x1 x2 x3 x4 x5) := by
  unfold t_MO_feed
  refine post_letX (fun N eN => ?_)
  have h2 : N.1 191 2 = M.1 191 2 := by rw [eN, sI_ne (by omega)]
  rw [if_neg (by omega)]
  exact post_some (fun j => by show N.1 192 j = _; rw [eN, sI_ne (by omega)])
/-- the class: four bytes -/
theorem c_fd4 {x l : Int} {M0 : Mem} (l0 : 0 ≤ l) (l1 : l ≤ 696) : ∀ (fu : Nat) (M : Mem) (k : Int), 0 ≤ k → k ≤ 4 → M.1 0 1 = l + k → (∀ j, 0 ≤ j → j < k → M.1 1 (l + j) = byF x (24 - 8 * j)) → (∀ j, j < l → M.1 1 j = M0.1 1 j) → Post (fun r => r.1 0 1 = l + 4 ∧ (∀ j, 0 ≤ j → j < 4 → r.1 1 (l + j) = byF x (24 - 8 * j)) ∧ (∀ j, j < l → r.1 1 j = M0.1 1 j)) (t_WF_feedFour_L3 x fu M (24 - 8 * k)) := by
  intro fu
  induction fu with
  | zero => intro M k a b c d e; rw [t_WF_feedFour_L3]; exact post_none
  | succ g ih =>
    intro M k g0 g1 h2 hb ho
    rw [t_WF_feedFour_L3]
    refine post_ite (fun a => post_some ⟨by rw [h2]; omega, fun j p q => hb j p (by omega), ho⟩) (fun c => ?_)
    rw [h2, put_in (by omega) (by omega), w32_id (x := 24 - 8 * k + -8) (by unfold InR; omega)]
    refine post_letX (fun N eN => ?_)
    have n1 : N.1 0 1 = l + k := by rw [eN, sI_ne (by omega)]; exact h2
    rw [n1, w32_id (x := l + k + 1) (by unfold InR; omega), show 24 - 8 * k + -8 = 24 - 8 * (k + 1) by omega]
    refine post_letX (fun P eP => ih P (k + 1) (by omega) (by omega) (by rw [eP, sI_self]; omega) (fun j p q => ?_) (fun j p => ?_))
    · rw [eP, sI_ne (by omega), eN]
      by_cases z : j = k
      · rw [z, sI_self]; rfl
      · rw [sI_ne (by omega)]; exact hb j p (by omega)
    · rw [eP, sI_ne (by omega), eN, sI_ne (by omega)]; exact ho j p
theorem c_fd1 {x : Int} {M : Mem} (l0 : 0 ≤ M.1 0 1) (l1 : M.1 0 1 ≤ 696) : Post (fun r => r.1 0 1 = M.1 0 1 + 4 ∧ (∀ j, 0 ≤ j → j < 4 → r.1 1 (M.1 0 1 + j) = byF x (24 - 8 * j)) ∧ (∀ j, j < M.1 0 1 → r.1 1 j = M.1 1 j)) (t_WF_feedFour M x) := by
  unfold t_WF_feedFour
  have := c_fd4 (x := x) (M0 := M) l0 l1 FU M 0 (by omega) (by omega) (by omega) (fun j a b => by omega) (fun j a => rfl)
  rw [show (24 : Int) - 8 * 0 = 24 by omega] at this
  exact this
theorem c_fd {M : Mem} (l0 : 0 ≤ M.1 0 1) (l1 : M.1 0 1 ≤ 680) : Post (fun r => (∀ j, 0 ≤ j → j < 20 → r.1.1 1 (M.1 0 1 + j) = fdB x1 x2 x3 x4 x5 j) ∧ (∀ j, j < M.1 0 1 → r.1.1 1 j = M.1 1 j)) (t_WF_feed M x1 x2 x3 x4 x5) := by
  unfold t_WF_feed
  rw [w32_id (x := M.1 0 1 + 20) (by unfold InR; omega), if_pos (by omega)]
  refine post_bind (c_fd1 l0 (by omega)) (fun a ha => post_bind (c_fd1 (by omega) (by omega)) (fun b hb => post_bind (c_fd1 (by omega) (by omega)) (fun c hc => post_bind (c_fd1 (by omega) (by omega)) (fun d hd => post_bind (c_fd1 (by omega) (by omega)) (fun e he => post_some ?_)))))
  obtain ⟨a1, a2, a3⟩ := ha
  obtain ⟨b1, b2, b3⟩ := hb
  obtain ⟨c1, c2, c3⟩ := hc
  obtain ⟨d1, d2, d3⟩ := hd
  obtain ⟨e1, e2, e3⟩ := he
  refine ⟨fun j p q => ?_, fun j p => ?_⟩
  · show e.1 1 (M.1 0 1 + j) = _
    unfold fdB fdX
    by_cases j1 : j < 4
    · rw [if_pos j1, e3 _ (by omega), d3 _ (by omega), c3 _ (by omega), b3 _ (by omega), a2 j p j1, show j % 4 = j by omega]
    · rw [if_neg j1]
      by_cases j2 : j < 8
      · have := b2 (j - 4) (by omega) (by omega)
        rw [show a.1 0 1 + (j - 4) = M.1 0 1 + j by omega] at this
        rw [if_pos j2, e3 _ (by omega), d3 _ (by omega), c3 _ (by omega), this, show j % 4 = j - 4 by omega]
      · rw [if_neg j2]
        by_cases j3 : j < 12
        · have := c2 (j - 8) (by omega) (by omega)
          rw [show b.1 0 1 + (j - 8) = M.1 0 1 + j by omega] at this
          rw [if_pos j3, e3 _ (by omega), d3 _ (by omega), this, show j % 4 = j - 8 by omega]
        · rw [if_neg j3]
          by_cases j4 : j < 16
          · have := d2 (j - 12) (by omega) (by omega)
            rw [show c.1 0 1 + (j - 12) = M.1 0 1 + j by omega] at this
            rw [if_pos j4, e3 _ (by omega), this, show j % 4 = j - 12 by omega]
          · have := e2 (j - 16) (by omega) (by omega)
            rw [show d.1 0 1 + (j - 16) = M.1 0 1 + j by omega] at this
            rw [if_neg j4, this, show j % 4 = j - 16 by omega]
  · show e.1 1 j = _
    rw [e3 j (by omega), d3 j (by omega), c3 j (by omega), b3 j (by omega), a3 j p]
theorem c_fd_no {M : Mem} (l0 : M.1 0 1 ≤ 1000) (l1 : ¬ M.1 0 1 ≤ 680) : Post (fun r => r.1 = M) (t_WF_feed M x1 x2 x3 x4 x5) := by
  unfold t_WF_feed
  rw [w32_id (x := M.1 0 1 + 20) (by unfold InR; omega), if_neg (by omega)]
  exact post_some rfl
end FD
/-! a cleared town -/
theorem c_clear {M : Mem} {T : Nat} (hT : T ≤ 22) : ∃ N, t_Town_clear M T = some N ∧ Fr (W_Town_clear T) M N ∧ CT0 N T TV0 ∧ (cntT (N.2 T 18) 64 = 0 ∧ cntT (N.2 T 19) 64 = 0) ∧ CFm N T TV0 := by
  have z : ∀ j, ¬ (j = 0 ∨ j = 1) → TV0 0 j = 0 := fun j h => by
    unfold TV0
    rw [if_neg (fun q => h q.2), if_neg (by decide)]
  have hfr := fr_Town_clear (k0 := T) (W := W_Town_clear T) (M0 := M) (fun k j a => a) (M := M) Fr.rf
  unfold t_Town_clear t_Formula_clear at *
  simp (config := { proj := false }) only [qlet] at *
  obtain ⟨M1, e1⟩ : ∃ M1, M1 = setI (setI (setI (setI (setI (setI M T 11 4) T 12 4) T 14 0) T 15 0) T 16 0) T 17 0 := ⟨_, rfl⟩
  rw [← e1] at hfr ⊢
  have a11 : M1.1 T 11 = 4 := by rw [e1, sI_ne (by omega), sI_ne (by omega), sI_ne (by omega), sI_ne (by omega), sI_ne (by omega), sI_self]
  have a12 : M1.1 T 12 = 4 := by rw [e1, sI_ne (by omega), sI_ne (by omega), sI_ne (by omega), sI_ne (by omega), sI_self]
  have a14 : M1.1 T 14 = 0 := by rw [e1, sI_ne (by omega), sI_ne (by omega), sI_ne (by omega), sI_self]
  have a15 : M1.1 T 15 = 0 := by rw [e1, sI_ne (by omega), sI_ne (by omega), sI_self]
  have a16 : M1.1 T 16 = 0 := by rw [e1, sI_ne (by omega), sI_self]
  have a17 : M1.1 T 17 = 0 := by rw [e1, sI_self]
  obtain ⟨M2, e2⟩ : ∃ M2, M2 = setL (setL M1 T 18 0) T 19 0 := ⟨_, rfl⟩
  rw [← e2] at hfr ⊢
  have b18 : M2.2 T 18 = 0 := by rw [e2, sL_ne (by omega), sL_self]
  have b19 : M2.2 T 19 = 0 := by rw [e2, sL_self]
  have bI : ∀ k j, M2.1 k j = M1.1 k j := fun k j => by rw [e2, sL_fst, sL_fst]
  obtain ⟨M3, e3⟩ : ∃ M3, M3 = setI (setI (setI (setI M2 (T + 10) 3 0) (T + 10) 4 0) (T + 15) 3 0) (T + 15) 4 0 := ⟨_, rfl⟩
  rw [← e3] at hfr ⊢
  have c1 : M3.1 (T + 10) 3 = 0 := by rw [e3, sI_ne (by omega), sI_ne (by omega), sI_ne (by omega), sI_self]
  have c2 : M3.1 (T + 10) 4 = 0 := by rw [e3, sI_ne (by omega), sI_ne (by omega), sI_self]
  have c3 : M3.1 (T + 15) 3 = 0 := by rw [e3, sI_ne (by omega), sI_self]
  have c4 : M3.1 (T + 15) 4 = 0 := by rw [e3, sI_self]
  have f3 : Fr (fun k j => (k = T + 10 ∨ k = T + 15) ∧ (j = 3 ∨ j = 4)) M2 M3 := by rw [e3]; exact (((Fr.rf.setI (by omega)).setI (by omega)).setI (by omega)).setI (by omega)
  obtain ⟨N, n1, n2, n3⟩ := c_fill (M := M3) (r := T + 8) (N1 := 48) (x := -1) (by omega)
  rw [n1, obind_some] at hfr ⊢
  have g : ∀ j, N.1 T j = M1.1 T j := fun j => by rw [(n2 T j (by omega)).1, (f3 T j (by omega)).1, bI]
  have gL : ∀ j, N.2 T j = M2.2 T j := fun j => by rw [(n2 T j (by omega)).2, (f3 T j (by omega)).2]
  have r : ∀ k j, k ≠ T + 8 → N.1 k j = M3.1 k j := fun k j q => (n2 k j (by omega)).1
  refine ⟨N, rfl, hfr _ rfl, ⟨⟨?_, ?_, ?_, ?_, ?_, ?_⟩, fun w x y => ?_, fun t x y => ?_, fun c x y => ⟨?_, ?_, ?_⟩⟩, ⟨?_, ?_⟩, ⟨?_, ?_, fun j x y => ?_⟩, ?_, ?_, fun j x y => ?_⟩
  · rw [g, a11]; rfl
  · rw [g, a12]; rfl
  · rw [g, a14, z 2 (by omega)]
  · rw [g, a15, z 3 (by omega)]
  · rw [g, a16, z 4 (by omega)]
  · rw [g, a17, z 5 (by omega)]
  · rw [z 2 (by omega)] at y; omega
  · rw [z 3 (by omega)] at y; omega
  · rw [n3 c x y]; unfold TV0; rw [if_neg (fun q => absurd q.1 (by decide)), if_pos rfl]
  · rw [gL, b18, tb_zero]; exact (decide_eq_false (by unfold TV0; rw [if_neg (fun q => absurd q.1 (by decide)), if_neg (by decide)]; decide)).symm
  · rw [gL, b19, tb_zero]; exact (decide_eq_false (by unfold TV0; rw [if_neg (fun q => absurd q.1 (by decide)), if_neg (by decide)]; decide)).symm
  · rw [gL, b18]; exact cnt_zero 64
  · rw [gL, b19]; exact cnt_zero 64
  · rw [r _ _ (by omega), c2, z 9 (by omega)]
  · rw [r _ _ (by omega), c1, z 11 (by omega)]
  · rw [z 11 (by omega)] at y; omega
  · rw [r _ _ (by omega), c4, z 10 (by omega)]
  · rw [r _ _ (by omega), c3, z 12 (by omega)]
  · rw [z 12 (by omega)] at y; omega
/-! a new start -/
theorem cpy_get {M : Mem} {r1 r2 : Nat} {n j : Int} (h0 : 0 ≤ j) (h1 : j < n) : (cpyM M r1 r2 n).1 r2 j = M.1 r1 j := by
  unfold cpyM
  exact if_pos ⟨rfl, h0, h1⟩
def BgC (N : Mem) (T : Nat) : Prop := (∀ w, 0 ≤ w → w < 4 → N.1 48 w = N.1 (T + 2) w) ∧ (∀ t, 0 ≤ t → t < 8 → N.1 49 t = N.1 (T + 7) t ∧ N.1 50 t = 0 ∧ N.1 51 t = 0) ∧ (N.2 47 4 = N.2 T 18 ∧ N.2 47 5 = 0 ∧ N.2 47 6 = 0) ∧ (N.1 62 3 = 0 ∧ N.1 62 4 = 0 ∧ N.2 62 5 = q_i2l (N.1 T 17)) ∧ N.1 0 13 = 0 ∧ N.1 70 2 = 0 ∧ N.1 172 5 = 0 ∧ N.1 172 6 = -1 ∧ N.1 177 8 = 0
theorem c_anew {M : Mem} {T : Nat} (hT : T ≤ 22) (hT2 : 2 ≤ T) (h4 : M.1 0 4 = (T : Int)) : ∃ N, t_WF_startAnew M = some N ∧ Fr W_WF_startAnew M N ∧ BgC N T := by
  suffices hs : ∃ N, t_WF_startAnew M = some N ∧ BgC N T by
    obtain ⟨N, n1, n2⟩ := hs
    exact ⟨N, n1, fr_WF_startAnew (W := W_WF_startAnew) (M0 := M) (fun k j a => a) (M := M) Fr.rf N n1, n2⟩
  unfold t_WF_startAnew
  rw [h4, Int.toNat_natCast]
  unfold t_Scene_begin
  have q4 : q_min ((4 : Nat) : Int) ((4 : Nat) : Int) = 4 := rfl
  have q8 : q_min ((8 : Nat) : Int) ((8 : Nat) : Int) = 8 := rfl
  unfold t_WF_copyRow
  rw [q4, q8]
  simp (config := { proj := false }) only [qlet]
  obtain ⟨M1, e1⟩ : ∃ M1, M1 = cpyM (cpyM M (T + 2) (47 + 1) 4) (T + 7) (47 + 2) 8 := ⟨_, rfl⟩
  rw [← e1]
  have f1 : Fr (fun k j => k = 48 ∨ k = 49) M M1 := by rw [e1]; exact (Fr.rf.cpy (fun j => by omega)).cpy (fun j => by omega)
  have d48 : ∀ w, 0 ≤ w → w < 4 → M1.1 48 w = M.1 (T + 2) w := fun w a b => by
    have z : Fr (fun k _ => k = 49) (cpyM M (T + 2) (47 + 1) 4) M1 := by rw [e1]; exact Fr.rf.cpy (fun j => rfl)
    rw [(z 48 w (by omega)).1]
    exact cpy_get a b
  have d49 : ∀ t, 0 ≤ t → t < 8 → M1.1 49 t = M.1 (T + 7) t := fun t a b => by
    have z : Fr (fun k _ => k = 48) M (cpyM M (T + 2) (47 + 1) 4) := Fr.rf.cpy (fun j => rfl)
    rw [e1, cpy_get a b, (z (T + 7) t (by omega)).1]
  obtain ⟨M2, a1, a2, a3⟩ := c_fill (M := M1) (r := 50) (N1 := 8) (x := 0) (by omega)
  obtain ⟨M3, b1, b2, b3⟩ := c_fill (M := M2) (r := 51) (N1 := 8) (x := 0) (by omega)
  show ∃ N, obind (obind (t_Arrays_fill M1 50 8 0) _) _ = some N ∧ _
  rw [a1, obind_some]
  show ∃ N, obind (obind (t_Arrays_fill M2 51 8 0) _) _ = some N ∧ _
  rw [b1, obind_some, obind_some]
  unfold t_Chronicle_begin t_Past_clear t_Notes_clear
  simp (config := { proj := false }) only [qlet]
  have f3 : Fr (fun k j => 48 ≤ k ∧ k ≤ 51) M M3 := ((f1.mono (fun k j z => by omega)).trans (a2.mono (fun k j z => by omega))).trans (b2.mono (fun k j z => by omega))
  obtain ⟨M4, e4⟩ : ∃ M4, M4 = setL (setL (setL M3 47 4 (M3.2 T 18)) 47 5 0) 47 6 0 := ⟨_, rfl⟩
  rw [← e4]
  have m44 : M4.2 47 4 = M3.2 T 18 := by rw [e4, sL_ne (by omega), sL_ne (by omega), sL_self]
  have m45 : M4.2 47 5 = 0 := by rw [e4, sL_ne (by omega), sL_self]
  have m46 : M4.2 47 6 = 0 := by rw [e4, sL_self]
  have mI : ∀ k j, M4.1 k j = M3.1 k j := fun k j => by rw [e4, sL_fst, sL_fst, sL_fst]
  have h44 : M4.1 0 4 = (T : Int) := by rw [mI, (f3 0 4 (by omega)).1]; exact h4
  rw [h44, Int.toNat_natCast]
  obtain ⟨N, eN⟩ : ∃ N, N = setI (setI (setI (setI (setI (setL (setI (setI M4 62 3 0) 62 4 0) 62 5 (q_i2l ((setI (setI M4 62 3 0) 62 4 0).1 T 17))) 0 13 0) 70 2 0) 172 5 0) 172 6 (-1)) 177 8 0 := ⟨_, rfl⟩
  rw [← eN]
  have fN : Fr (fun k j => k = 62 ∨ k = 0 ∨ k = 70 ∨ k = 172 ∨ k = 177) M4 N := by rw [eN]; exact ((((((((Fr.rf.setI (by omega)).setI (by omega)).setL (by omega)).setI (by omega)).setI (by omega)).setI (by omega)).setI (by omega)).setI (by omega))
  have r : ∀ k j, (1 ≤ k ∧ k ≤ 47) → N.1 k j = M.1 k j := fun k j a => by rw [(fN k j (by omega)).1, mI, (f3 k j (by omega)).1]
  refine ⟨N, rfl, fun w a b => ?_, fun t a b => ⟨?_, ?_, ?_⟩, ⟨?_, ?_, ?_⟩, ⟨?_, ?_, ?_⟩, ?_, ?_, ?_, ?_, ?_⟩
  · rw [r (T + 2) w (by omega), (fN 48 w (by omega)).1, mI, (b2 48 w (by omega)).1, (a2 48 w (by omega)).1, d48 w a b]
  · rw [r (T + 7) t (by omega), (fN 49 t (by omega)).1, mI, (b2 49 t (by omega)).1, (a2 49 t (by omega)).1, d49 t a b]
  · rw [(fN 50 t (by omega)).1, mI, (b2 50 t (by omega)).1, a3 t a b]
  · rw [(fN 51 t (by omega)).1, mI, b3 t a b]
  · rw [(fN 47 4 (by omega)).2, m44, (fN T 18 (by omega)).2, e4, sL_ne (by omega), sL_ne (by omega), sL_ne (by omega)]
  · rw [(fN 47 5 (by omega)).2, m45]
  · rw [(fN 47 6 (by omega)).2, m46]
  · rw [eN, sI_ne (by omega), sI_ne (by omega), sI_ne (by omega), sI_ne (by omega), sI_ne (by omega), sL_fst, sI_ne (by omega), sI_self]
  · rw [eN, sI_ne (by omega), sI_ne (by omega), sI_ne (by omega), sI_ne (by omega), sI_ne (by omega), sL_fst, sI_self]
  · have : N.2 62 5 = q_i2l ((setI (setI M4 62 3 0) 62 4 0).1 T 17) := by
      rw [eN, sI_snd, sI_snd, sI_snd, sI_snd, sI_snd, sL_self]
    rw [this, r T 17 (by omega), sI_ne (by omega), sI_ne (by omega), mI, (f3 T 17 (by omega)).1]
  · rw [eN, sI_ne (by omega), sI_ne (by omega), sI_ne (by omega), sI_ne (by omega), sI_self]
  · rw [eN, sI_ne (by omega), sI_ne (by omega), sI_ne (by omega), sI_self]
  · rw [eN, sI_ne (by omega), sI_ne (by omega), sI_self]
  · rw [eN, sI_ne (by omega), sI_self]
  · rw [eN, sI_self]
