/-! ===== years ===== -/
theorem qand_mod {x : Int} : q_and x 2147483647 = x % 2147483648 := by
  have hl := q_and_low (x := x)
  have e : (Int32.ofInt x &&& Int32.ofInt 2147483647).toBitVec.toNat = (x % 4294967296).toNat % 2147483648 := by
    rw [Int32.toBitVec_and, BitVec.toNat_and]
    have e1 : (Int32.ofInt 2147483647).toBitVec.toNat = 2 ^ 31 - 1 := by decide
    have e2 : (Int32.ofInt x).toBitVec.toNat = (x % 4294967296).toNat := by
      show (BitVec.ofInt 32 x).toNat = _
      rw [BitVec.toNat_ofInt]
      rfl
    rw [e1, e2, Nat.and_two_pow_sub_one_eq_mod]
  unfold q_and
  rw [← Int32.toInt_toBitVec, BitVec.toInt_eq_toNat_cond, e, if_pos (by omega)]
  omega
theorem i2l_nat {e : Int} (h0 : 0 ≤ e) (h1 : e ≤ 2147483647) : (q_i2l e).toBitVec.toNat = e.toNat := by
  have t : (q_i2l e).toBitVec.toInt = e := by
    show (q_i2l e).toInt = e
    unfold q_i2l
    rw [Int32.toInt_toInt64, q_toInt_of (by unfold InR; omega)]
  have hl := (q_i2l e).toBitVec.isLt
  rw [BitVec.toInt_eq_toNat_cond] at t
  split at t <;> omega
def LC (d : Int) : Int := q_and (w32 (w32 (d * 1103515245) + 12345)) 2147483647
theorem LC_rng (d : Int) : 0 ≤ LC d ∧ LC d ≤ 2147483647 := q_and_low
theorem num_a1 (n : Nat) : (n * 1103515245 % 18446744073709551616 + 12345) % 18446744073709551616 % 2147483648 = (n * 1103515245 + 12345) % 2147483648 := by omega
theorem num_a2 (p : Int) : (w32 (w32 p + 12345)) % 2147483648 = (p + 12345) % 2147483648 := by unfold w32; omega
theorem num_c1 : (1103515245 : Int64).toBitVec.toNat = 1103515245 := by decide +kernel
theorem num_c2 : (12345 : Int64).toBitVec.toNat = 12345 := by decide +kernel
theorem num_c3 : (2147483647 : Int64).toBitVec.toNat = 2 ^ 31 - 1 := by decide +kernel
theorem num_p : (2 : Nat) ^ 64 = 18446744073709551616 ∧ (2 : Nat) ^ 31 = 2147483648 := by decide +kernel
theorem num_l (x : Int64) : ((x * 1103515245) + 12345 &&& 2147483647).toBitVec.toNat = (x.toBitVec.toNat * 1103515245 + 12345) % 2147483648 := by
  rw [Int64.toBitVec_and, BitVec.toNat_and, Int64.toBitVec_add, BitVec.toNat_add, Int64.toBitVec_mul, BitVec.toNat_mul, num_c1, num_c2, num_c3, Nat.and_two_pow_sub_one_eq_mod, num_p.1, num_p.2, num_a1]
theorem num_r (d : Int) : LC d = (d * 1103515245 + 12345) % 2147483648 := by
  unfold LC
  rw [qand_mod, num_a2]
theorem num_v (n a b m : Nat) : (((n * a + b) % m : Nat) : Int) = ((n : Int) * (a : Int) + (b : Int)) % (m : Int) := by
  rw [Int.natCast_emod, Int.natCast_add, Int.natCast_mul]
theorem num_w (n a b m : Nat) (A B Q e : Int) (hA : A = (a : Int)) (hB : B = (b : Int)) (hQ : Q = (m : Int)) (he : e = ((n : Int) * A + B) % Q) : (n * a + b) % m = e.toNat := by
  rw [he, hA, hB, hQ, ← num_v, Int.toNat_natCast]
theorem num_t {d e : Int} (h0 : 0 ≤ d) (he : e = (d * 1103515245 + 12345) % 2147483648) : (d.toNat * 1103515245 + 12345) % 2147483648 = e.toNat :=
  num_w d.toNat 1103515245 12345 2147483648 1103515245 12345 2147483648 e rfl rfl rfl (by rw [Int.toNat_of_nonneg h0]; exact he)
theorem num_e {x y : Int64} {d e : Int} (h0 : 0 ≤ d) (hx : x.toBitVec.toNat = d.toNat) (hy : y.toBitVec.toNat = e.toNat) (he : e = (d * 1103515245 + 12345) % 2147483648) : (x * 1103515245) + 12345 &&& 2147483647 = y := by
  apply Int64.toBitVec_inj.mp
  apply BitVec.eq_of_toNat_eq
  exact (num_l x).trans ((congrArg (fun t => (t * 1103515245 + 12345) % 2147483648) hx).trans ((num_t h0 he).trans hy.symm))
theorem num_eq {d : Int} (h0 : 0 ≤ d) (h1 : d ≤ 2147483647) : ((q_i2l d * 1103515245) + 12345) &&& 2147483647 = q_i2l (LC d) :=
  num_e h0 (i2l_nat h0 h1) (i2l_nat (LC_rng d).1 (LC_rng d).2) (num_r d)
theorem num_val {e : Int} (h0 : 0 ≤ e) (h1 : e ≤ 2147483647) : q_l2i (q_lushr (q_i2l e) 16) = e / 65536 := by
  unfold q_l2i
  rw [← Int32.toInt_toBitVec, Int64.toBitVec_toInt32, lushr_bv (by omega) (by omega), BitVec.signExtend_eq_setWidth_of_le _ (by decide)]
  have e1 : (((q_i2l e).toBitVec >>> (16 : Int).toNat).setWidth 32).toNat = e.toNat / 65536 := by
    rw [BitVec.toNat_setWidth, BitVec.toNat_ushiftRight, i2l_nat h0 h1]
    show (e.toNat >>> 16) % 2 ^ 32 = _
    rw [Nat.shiftRight_eq_div_pow]
    omega
  rw [BitVec.toInt_eq_toNat_cond, e1, if_pos (by omega)]
  omega
theorem c_number {M : Mem} {k0 : Nat} {d : Int} (h0 : 0 ≤ d) (h1 : d ≤ 2147483647) (h : M.2 k0 5 = q_i2l d) : t_Chronicle_number M k0 = (setL M k0 5 (q_i2l (LC d)), LC d / 65536) := by
  unfold t_Chronicle_number
  simp (config := { proj := false }) only [qlet]
  rw [h, num_eq h0 h1, sL_self, num_val (LC_rng d).1 (LC_rng d).2]
theorem m_drawn {M : Mem} {b d : Int} (hd : M.1 209 0 = d) (hb : 0 < b ∧ b ≤ 4) : t_MO_draw M b = some (setI M 209 0 (LC d), LC d / 65536 % b) := by
  have hl := LC_rng d
  unfold t_MO_draw
  simp (config := { proj := false }) only [qlet]
  rw [if_neg (show ¬ b = 0 by omega), hd]
  show some (setI M 209 0 (LC d), q_rem (q_shr ((setI M 209 0 (LC d)).1 209 0) 16) b) = _
  rw [sI_self, q_shr16 (show InR (LC d) by unfold InR; omega), q_rem_nn (by unfold InR; omega) (by unfold InR; omega) (by omega) hb.1]
def yrW (V : TV) (d : Int) : Int := LC d / 65536 % V 0 2
def yrN (d : Int) : Int := LC (LC d) / 65536 % 4
abbrev YS : Type := Int × (Int → Int) × Int64
def yrS (V : TV) (nets : Int64) (wl : Int → Bool) (s : YS) : YS := if V 0 2 ≤ 0 then s else (LC (LC s.1), upA s.2.1 (yrW V s.1) (yrN s.1), flS (nxV V (upA s.2.1 (yrW V s.1) (yrN s.1)) nets wl) s.2.2 (cellsV V).toNat)
def yrE (V : TV) (s : YS) : Int × Int × Int := if V 0 2 ≤ 0 then (-2, -2, -2) else (yrW V s.1, yrN s.1, s.2.1 (yrW V s.1))
def yrI (V : TV) (nets : Int64) (wl : Int → Bool) : Nat → YS → YS
  | 0, s => s
  | n + 1, s => yrI V nets wl n (yrS V nets wl s)
theorem yrS_rng {V : TV} {nets : Int64} {wl : Int → Bool} {s : YS} (h : 0 ≤ s.1 ∧ s.1 ≤ 2147483647) : 0 ≤ (yrS V nets wl s).1 ∧ (yrS V nets wl s).1 ≤ 2147483647 := by
  unfold yrS
  by_cases c : V 0 2 ≤ 0
  · rw [if_pos c]; exact h
  · rw [if_neg c]; exact LC_rng _
theorem yrW_rng {V : TV} (hV : VOK V) (c : ¬ V 0 2 ≤ 0) (d : Int) : 0 ≤ yrW V d ∧ yrW V d < V 0 2 := by
  unfold yrW
  exact ⟨Int.emod_nonneg _ (by omega), Int.emod_lt_of_pos _ (by omega)⟩
def YfW (y : Int) : Nat → Int → Prop := fun q j => (q = 62 ∧ j = 3) ∨ ((q = 63 ∨ q = 64 ∨ q = 65) ∧ j = y)
theorem c_goFin {K : Mem} {T : Nat} {V : TV} {D A S L : Int → Int} {nets wat : Int64} {wl : Int → Bool} {y : Int} (h : CScF K 47 V D A S L nets wat wl) (hy : K.1 62 3 = y) (h0 : 0 ≤ y) (h1 : y < 99) (a b c : Int) : ∃ N, t_Chronicle_goOn_L61 62 T 47 K a b c = some N ∧ Fr (YfW y) K N ∧ CScF N 47 V D A S L nets wat wl ∧ N.1 62 3 = y + 1 ∧ N.1 63 y = a ∧ N.1 64 y = b ∧ N.1 65 y = c := by
  have p1 : t_WF_put K (62 + 1) 99 (K.1 62 3) a = setI K 63 y a := by rw [hy]; exact put_in h0 (by omega)
  have g1 : (setI K 63 y a).1 62 3 = y := by rw [sI_ne (by omega)]; exact hy
  have p2 : t_WF_put (setI K 63 y a) (62 + 2) 99 ((setI K 63 y a).1 62 3) b = setI (setI K 63 y a) 64 y b := by rw [g1]; exact put_in h0 (by omega)
  have g2 : (setI (setI K 63 y a) 64 y b).1 62 3 = y := by rw [sI_ne (by omega)]; exact g1
  have p3 : t_WF_put (setI (setI K 63 y a) 64 y b) (62 + 3) 99 ((setI (setI K 63 y a) 64 y b).1 62 3) c = setI (setI (setI K 63 y a) 64 y b) 65 y c := by rw [g2]; exact put_in h0 (by omega)
  have g3 : (setI (setI (setI K 63 y a) 64 y b) 65 y c).1 62 3 = y := by rw [sI_ne (by omega)]; exact g2
  have hF : Fr (YfW y) K (setI (setI (setI (setI K 63 y a) 64 y b) 65 y c) 62 3 (y + 1)) := (((Fr.rf.setI (by unfold YfW; omega)).setI (by unfold YfW; omega)).setI (by unfold YfW; omega)).setI (by unfold YfW; omega)
  refine ⟨setI (setI (setI (setI K 63 y a) 64 y b) 65 y c) 62 3 (y + 1), ?_, hF, h.fr hF (fun q j z x => by unfold CsW at z; unfold YfW at x; omega), sI_self _ _ _ _, ?_, ?_, ?_⟩
  · unfold t_Chronicle_goOn_L61
    simp (config := { proj := false }) only [qlet]
    rw [p1, p2, p3, g3, w32_id (by unfold InR; omega)]
  · rw [sI_ne (by omega), sI_ne (by omega), sI_ne (by omega), sI_self]
  · rw [sI_ne (by omega), sI_ne (by omega), sI_self]
  · rw [sI_ne (by omega), sI_self]
def YcW (y : Int) : Nat → Int → Prop := fun q j => q = 48 ∨ (q = 47 ∧ j = 6) ∨ (q = 62 ∧ (j = 3 ∨ j = 5)) ∨ ((q = 63 ∨ q = 64 ∨ q = 65) ∧ y ≤ j)
theorem c_goOn {M : Mem} {T : Nat} {V : TV} {s : YS} {A S L : Int → Int} {nets : Int64} {wl : Int → Bool} {y : Int} (hV : VOK V) (hT : T = 2 ∨ T = 22) (hX : CT0 M T V ∧ CTs M T V) (h : CScF M 47 V s.2.1 A S L nets s.2.2 wl) (hd : 0 ≤ s.1 ∧ s.1 ≤ 2147483647) (h5 : M.2 62 5 = q_i2l s.1) (hy : M.1 62 3 = y) (h0 : 0 ≤ y) (h1 : y < 99) :
    ∃ N, t_Chronicle_goOn M 62 T 47 = some N ∧ Fr (YcW y) M N ∧ CScF N 47 V (yrS V nets wl s).2.1 A S L nets (yrS V nets wl s).2.2 wl ∧ N.2 62 5 = q_i2l (yrS V nets wl s).1 ∧ N.1 62 3 = y + 1 ∧ N.1 63 y = (yrE V s).1 ∧ N.1 64 y = (yrE V s).2.1 ∧ N.1 65 y = (yrE V s).2.2 := by
  have hv := hV.1
  have e14 : M.1 T 14 = V 0 2 := hX.1.1.2.2.1
  by_cases c : V 0 2 ≤ 0
  · obtain ⟨N, n1, n2, n3, n4, n5, n6, n7⟩ := c_goFin (T := T) h hy h0 h1 (-2) (-2) (-2)
    have eS : yrS V nets wl s = s := if_pos c
    have eE : yrE V s = (-2, -2, -2) := if_pos c
    rw [eS, eE]
    refine ⟨N, ?_, n2.mono (fun q j z => by unfold YfW at z; unfold YcW; omega), n3, ?_, n4, n5, n6, n7⟩
    · unfold t_Chronicle_goOn
      rw [e14, if_pos c]
      exact n1
    · rw [(n2 62 5 (by unfold YfW; omega)).2]; exact h5
  · have eS : yrS V nets wl s = (LC (LC s.1), upA s.2.1 (yrW V s.1) (yrN s.1), flS (nxV V (upA s.2.1 (yrW V s.1) (yrN s.1)) nets wl) s.2.2 (cellsV V).toNat) := if_neg c
    have eE : yrE V s = (yrW V s.1, yrN s.1, s.2.1 (yrW V s.1)) := if_neg c
    have l1 := LC_rng s.1
    have l2 := LC_rng (LC s.1)
    have hw := yrW_rng hV c s.1
    rw [eS, eE]
    have a1 := c_number (k0 := 62) hd.1 hd.2 h5
    have a2 := c_number (M := setL M 62 5 (q_i2l (LC s.1))) (k0 := 62) l1.1 l1.2 (sL_self _ _ _ _)
    have r1 : q_rem (LC s.1 / 65536) (V 0 2) = yrW V s.1 := q_rem_nn (by unfold InR; omega) (by unfold InR; omega) (by omega) (by omega)
    have r2 : q_rem (LC (LC s.1) / 65536) 4 = yrN s.1 := q_rem_nn (by unfold InR; omega) (by unfold InR; omega) (by omega) (by omega)
    have f2 : Fr (fun q j => q = 62 ∧ j = 5) M (setL (setL M 62 5 (q_i2l (LC s.1))) 62 5 (q_i2l (LC (LC s.1)))) := (Fr.rf.setL ⟨rfl, rfl⟩).setL ⟨rfl, rfl⟩
    have v5 : (setL (setL M 62 5 (q_i2l (LC s.1))) 62 5 (q_i2l (LC (LC s.1)))).2 62 5 = q_i2l (LC (LC s.1)) := sL_self _ _ _ _
    have g14 : (setL M 62 5 (q_i2l (LC s.1))).1 T 14 = V 0 2 := e14
    have body : t_Chronicle_goOn M 62 T 47 = obind (t_Scene_pourAnew (t_WF_put (setL (setL M 62 5 (q_i2l (LC s.1))) 62 5 (q_i2l (LC (LC s.1)))) (47 + 1) 4 (yrW V s.1) (yrN s.1)) 47 T) fun q13 => t_Chronicle_goOn_L61 62 T 47 q13 (yrW V s.1) (yrN s.1) (t_WF_look (setL (setL M 62 5 (q_i2l (LC s.1))) 62 5 (q_i2l (LC (LC s.1)))) (47 + 1) 4 (yrW V s.1)) := by
      unfold t_Chronicle_goOn
      rw [e14, if_neg c, a1]
      simp (config := { proj := false }) only [qlet]
      dsimp only
      rw [a2]
      dsimp only
      rw [g14, if_neg (show ¬ V 0 2 = 0 by omega), r1, r2]
    rw [body]
    generalize setL (setL M 62 5 (q_i2l (LC s.1))) 62 5 (q_i2l (LC (LC s.1))) = M2 at *
    have h2 := h.fr f2 (fun q j z x => by unfold CsW at z; omega)
    have lk : t_WF_look M2 (47 + 1) 4 (yrW V s.1) = s.2.1 (yrW V s.1) := by rw [look_in hw.1 (by omega)]; exact h2.1 _ hw.1 hw.2
    have pt : t_WF_put M2 (47 + 1) 4 (yrW V s.1) (yrN s.1) = setI M2 48 (yrW V s.1) (yrN s.1) := put_in hw.1 (by omega)
    rw [lk, pt]
    have f3 : Fr (fun q j => q = 48 ∧ j = yrW V s.1) M2 (setI M2 48 (yrW V s.1) (yrN s.1)) := Fr.rf.setI ⟨rfl, rfl⟩
    have s3 : CScF (setI M2 48 (yrW V s.1) (yrN s.1)) 47 V (upA s.2.1 (yrW V s.1) (yrN s.1)) A S L nets s.2.2 wl := by
      obtain ⟨b1, b2, b3, b4, b5⟩ := h2
      refine ⟨fun w x z => ?_, fun t x z => ?_, b3, b4, b5⟩
      · by_cases e : w = yrW V s.1
        · rw [e, upA_self]; exact sI_self _ _ _ _
        · rw [upA_ne _ e, (f3 (47 + 1) w (by omega)).1]; exact b1 w x z
      · rw [(f3 (47 + 2) t (by omega)).1, (f3 (47 + 3) t (by omega)).1, (f3 (47 + 4) t (by omega)).1]; exact b2 t x z
    have f23 : Fr (fun q j => (q = 62 ∧ j = 5) ∨ (q = 48 ∧ j = yrW V s.1)) M (setI M2 48 (yrW V s.1) (yrN s.1)) := (f2.mono (fun q j z => Or.inl z)).trans (f3.mono (fun q j z => Or.inr z))
    have v5' : (setI M2 48 (yrW V s.1) (yrN s.1)).2 62 5 = q_i2l (LC (LC s.1)) := v5
    generalize setI M2 48 (yrW V s.1) (yrN s.1) = M3 at *
    have X3 : CT0 M3 T V ∧ CTs M3 T V := ⟨CT0.fr f23 (fun q j x y z => by omega) hX.1, CTs.fr f23 (fun q j x y z => by omega) hX.2⟩
    obtain ⟨M4, m1, m2, m3⟩ := c_flood hV hT (by omega) X3 s3
    have f4 : Fr (fun q j => ((q = 62 ∧ j = 5) ∨ (q = 48 ∧ j = yrW V s.1)) ∨ PoW 47 q j) M M4 := (f23.mono (fun q j z => Or.inl z)).trans (m3.mono (fun q j z => Or.inr z))
    have y4 : M4.1 62 3 = y := by rw [(f4 62 3 (by unfold PoW; omega)).1]; exact hy
    have w5 : M4.2 62 5 = q_i2l (LC (LC s.1)) := by rw [(m3 62 5 (by unfold PoW; omega)).2]; exact v5'
    obtain ⟨N, n1, n2, n3, n4, n5, n6, n7⟩ := c_goFin (T := T) m2 y4 h0 h1 (yrW V s.1) (yrN s.1) (s.2.1 (yrW V s.1))
    rw [m1, obind_some]
    refine ⟨N, n1, (f4.mono (fun q j z => by unfold PoW at z; unfold YcW; omega)).trans (n2.mono (fun q j z => by unfold YfW at z; unfold YcW; omega)), n3, ?_, n4, n5, n6, n7⟩
    rw [(n2 62 5 (by unfold YfW; omega)).2]; exact w5
def yeE (x1 : Int) (M : Mem) : Option (Mem × Int) := if x1 ≤ 0 then some (M, M.1 62 3) else some (setI (setI M 70 2 0) 177 8 0, (setI (setI M 70 2 0) 177 8 0).1 62 3)
theorem c_years_loop {M0 : Mem} {x1 : Int} {T : Nat} {V : TV} {A S L : Int → Int} {nets : Int64} {wl : Int → Bool} (hV : VOK V) (hT : T = 2 ∨ T = 22) (hX : CT0 M0 T V ∧ CTs M0 T V) (hT0 : (M0.1 0 4).toNat = T) (h2 : x1 ≤ 99) : ∀ (n fu : Nat) (M : Mem) (s : YS) (v y y0 : Int), v + (n : Int) = x1 → 0 ≤ v → n < fu → 0 ≤ y0 → y0 ≤ y → y + (n : Int) ≤ 99 → Fr (YcW y0) M0 M → CScF M 47 V s.2.1 A S L nets s.2.2 wl → (0 ≤ s.1 ∧ s.1 ≤ 2147483647) → M.2 62 5 = q_i2l s.1 → M.1 62 3 = y →
    ∃ N, t_WF_years_L28 x1 fu M v = yeE x1 N ∧ Fr (YcW y0) M0 N ∧ Fr (YcW y) M N ∧ CScF N 47 V (yrI V nets wl n s).2.1 A S L nets (yrI V nets wl n s).2.2 wl ∧ N.2 62 5 = q_i2l (yrI V nets wl n s).1 ∧ N.1 62 3 = y + (n : Int) ∧ ∀ i : Nat, i < n → N.1 63 (y + (i : Int)) = (yrE V (yrI V nets wl i s)).1 ∧ N.1 64 (y + (i : Int)) = (yrE V (yrI V nets wl i s)).2.1 ∧ N.1 65 (y + (i : Int)) = (yrE V (yrI V nets wl i s)).2.2 := by
  intro n
  induction n with
  | zero =>
    intro fu M s v y y0 g0 g1 g2 a1 a2 a3 hF h hd h5 hy
    obtain ⟨g, rfl⟩ : ∃ g, fu = g + 1 := ⟨fu - 1, by omega⟩
    rw [t_WF_years_L28, if_pos (by omega)]
    exact ⟨M, rfl, hF, Fr.rf, h, h5, by omega, fun i hi => by omega⟩
  | succ n ih =>
    intro fu M s v y y0 g0 g1 g2 a1 a2 a3 hF h hd h5 hy
    obtain ⟨g, rfl⟩ : ∃ g, fu = g + 1 := ⟨fu - 1, by omega⟩
    have hX' : CT0 M T V ∧ CTs M T V := ⟨CT0.fr hF (fun q j x y z => by unfold YcW at z; omega) hX.1, CTs.fr hF (fun q j x y z => by unfold YcW at z; omega) hX.2⟩
    have eT : (M.1 0 4).toNat = T := by rw [(hF 0 4 (by unfold YcW; omega)).1]; exact hT0
    rw [t_WF_years_L28, if_neg (by omega), eT, w32_id (x := v + 1) (by unfold InR; omega)]
    obtain ⟨K, k1, k2, k3, k4, k5, k6, k7, k8⟩ := c_goOn hV hT hX' h hd h5 hy (by omega) (by omega)
    rw [k1, obind_some]
    have k2' : Fr (YcW y0) M K := k2.mono (fun q j z => by unfold YcW at z ⊢; omega)
    obtain ⟨N, n1, n2, n3, n4, n5, n6, n7⟩ := ih g K (yrS V nets wl s) (v + 1) (y + 1) y0 (by omega) (by omega) (by omega) a1 (by omega) (by omega) (hF.trans k2') k3 (yrS_rng hd) k4 k5
    refine ⟨N, n1, n2, k2.trans (n3.mono (fun q j z => by unfold YcW at z ⊢; omega)), n4, n5, by omega, fun i hi => ?_⟩
    cases i with
    | zero =>
      have e0 : y + ((0 : Nat) : Int) = y := by omega
      rw [e0, (n3 63 y (by unfold YcW; omega)).1, (n3 64 y (by unfold YcW; omega)).1, (n3 65 y (by unfold YcW; omega)).1]
      exact ⟨k6, k7, k8⟩
    | succ i =>
      have e1 : y + ((i + 1 : Nat) : Int) = y + 1 + (i : Int) := by omega
      rw [e1]
      exact n7 i (by omega)
