theorem d_WF_strike_0 : decode b_WF_strike 0 = .ok (.iload_n 1, 1) := dc_27 (by decide +kernel)
theorem d_WF_strike_1 : decode b_WF_strike 1 = .ok (.ifCond .lt 14, 3) := dc_155 (by decide +kernel)
theorem d_WF_strike_4 : decode b_WF_strike 4 = .ok (.iload_n 1, 1) := dc_27 (by decide +kernel)
theorem d_WF_strike_5 : decode b_WF_strike 5 = .ok (.aload_n 0, 1) := dc_42 (by decide +kernel)
theorem d_WF_strike_6 : decode b_WF_strike 6 = .ok (.getfield 76, 3) := dc_180 (by decide +kernel)
theorem d_WF_strike_9 : decode b_WF_strike 9 = .ok (.getfield 375, 3) := dc_180 (by decide +kernel)
theorem d_WF_strike_12 : decode b_WF_strike 12 = .ok (.if_icmp .lt 5, 3) := dc_161 (by decide +kernel)
theorem d_WF_strike_15 : decode b_WF_strike 15 = .ok (.iconst (-1), 1) := dc_2 (by decide +kernel)
theorem d_WF_strike_16 : decode b_WF_strike 16 = .ok (.ireturn, 1) := dc_172 (by decide +kernel)
theorem d_WF_strike_17 : decode b_WF_strike 17 = .ok (.aload_n 0, 1) := dc_42 (by decide +kernel)
theorem d_WF_strike_18 : decode b_WF_strike 18 = .ok (.getfield 76, 3) := dc_180 (by decide +kernel)
theorem d_WF_strike_21 : decode b_WF_strike 21 = .ok (.iconst (-1), 1) := dc_2 (by decide +kernel)
theorem d_WF_strike_22 : decode b_WF_strike 22 = .ok (.iconst (-1), 1) := dc_2 (by decide +kernel)
theorem d_WF_strike_23 : decode b_WF_strike 23 = .ok (.iload_n 1, 1) := dc_27 (by decide +kernel)
theorem d_WF_strike_24 : decode b_WF_strike 24 = .ok (.invokevirtual 371, 3) := dc_182 (by decide +kernel)
theorem d_WF_strike_27 : decode b_WF_strike 27 = .ok (.ireturn, 1) := dc_172 (by decide +kernel)
def t_WF_strike (M : Mem) (x1 : Int) : Mem × Int := (if x1 < 0 then (M, (-1)) else (if x1 < (M.1 172 5) then (qlet (t_Notes_add M (-1) (-1) x1) fun q4 => ((q4.1), (q4.2))) else (M, (-1))))
set_option maxHeartbeats 4000000 in
set_option maxRecDepth 100000 in
theorem c_WF_strike (l : Launch) {b n : Nat} {C : CT} (hlo : 191 ≤ n) (M : Mem) (x1 : Int) (hx1 : InR x1) (res : Mem × Int) (hT : t_WF_strike M x1 = res) : CM l b C n 2 y_WF_strike b_WF_strike 2 (some .int) [.ref (b + 0), vI x1] M (QI b C n res.1 res.2) := by
  refine CM.of (lo := 191) (ow := "WardFalls") (by decide) rfl (Nat.le_of_ble_eq_true rfl) hlo (fun p e s m below meth c F hlk hr hS ls hl => ?_)
  have hl : lv_has ls 2 [(0, .ref (b + 0)), (1, vI x1)] := hl
  unfold t_WF_strike at hT
  refine lv_iload_n F.hx F.hb d_WF_strike_0 rfl (lv_at hl 1 rfl) ?_
  refine r_if_lt (tgt := 15) F.hx F.hb hx1 d_WF_strike_1 (by decide) (fun c1 => ?_) (fun c1 => ?_)
  · replace hT := (if_pos c1).symm.trans hT
    refine r_iconst F.hx F.hb d_WF_strike_15 ?_
    subst hT
    exact r_iret F hlk hr rfl hS (inr_c rfl) d_WF_strike_16
  · replace hT := (if_neg c1).symm.trans hT
    refine lv_iload_n F.hx F.hb d_WF_strike_4 rfl (lv_at hl 1 rfl) ?_
    refine lv_aload_n F.hx F.hb d_WF_strike_5 rfl (lv_at hl 0 rfl) ?_
    refine r_get (v := .ref (b + 172)) (N := 19) (T := T0) (j := 15) F hS (show 0 < 191 by decide) (show shK 0 = 4 from rfl) (show shN 0 = 19 from rfl) rfl (Nat.le_of_ble_eq_true rfl) ing0 mw_565 (fv_sg rfl rfl rfl) d_WF_strike_6 ?_
    refine r_get (v := vI (M.1 172 5)) (N := 7) (T := T5) (j := 5) F hS (show 172 < 191 by decide) (show shK 172 = 9 from rfl) (show shN 172 = 7 from rfl) rfl (Nat.le_of_ble_eq_true rfl) ing5 mw_372 (fv_int rfl) d_WF_strike_9 ?_
    have i2 := hS.rng 172 5
    refine r_icmp_lt (tgt := 17) F.hx F.hb hx1 i2 d_WF_strike_12 (by decide) (fun c3 => ?_) (fun c3 => ?_)
    · replace hT := (if_pos c3).symm.trans hT
      refine lv_aload_n F.hx F.hb d_WF_strike_17 rfl (lv_at hl 0 rfl) ?_
      refine r_get (v := .ref (b + 172)) (N := 19) (T := T0) (j := 15) F hS (show 0 < 191 by decide) (show shK 0 = 4 from rfl) (show shN 0 = 19 from rfl) rfl (Nat.le_of_ble_eq_true rfl) ing0 mw_565 (fv_sg rfl rfl rfl) d_WF_strike_18 ?_
      refine r_iconst F.hx F.hb d_WF_strike_21 ?_
      refine r_iconst F.hx F.hb d_WF_strike_22 ?_
      refine lv_iload_n F.hx F.hb d_WF_strike_23 rfl (lv_at hl 1 rfl) ?_
      obtain ⟨q4, hq4⟩ : ∃ q, q = (t_Notes_add M (-1) (-1) x1) := ⟨_, rfl⟩
      replace hT := qlet_eq hT hq4
      refine r_backI F hS (r_runV (k := 172) (N := 7) (T := T5) (As := [vI (-1), vI (-1), vI x1]) F hS (show 172 < 191 by decide) (show shK 172 = 9 from rfl) rfl (c_Notes_add l F.2.2.1 M (-1) (-1) x1 (inr_c rfl) (inr_c rfl) hx1 _ hq4.symm) gs_WF_371 hd_Notes_add ⟨Nat.le_of_ble_eq_true rfl, Nat.le_of_ble_eq_true rfl⟩ rfl hl.1 (Nat.le_of_ble_eq_true rfl) ⟨Nat.zero_le _, Nat.zero_le _⟩ rfl d_WF_strike_24) (fun H locs hS h5 => ?_)
      subst hT
      exact r_iret F hlk hr rfl hS h5 d_WF_strike_27
    · replace hT := (if_neg c3).symm.trans hT
      refine r_iconst F.hx F.hb d_WF_strike_15 ?_
      subst hT
      exact r_iret F hlk hr rfl hS (inr_c rfl) d_WF_strike_16
theorem d_WF_known_0 : decode b_WF_known 0 = .ok (.iload_n 1, 1) := dc_27 (by decide +kernel)
theorem d_WF_known_1 : decode b_WF_known 1 = .ok (.iconst (-1), 1) := dc_2 (by decide +kernel)
theorem d_WF_known_2 : decode b_WF_known 2 = .ok (.if_icmp .lt 14, 3) := dc_161 (by decide +kernel)
theorem d_WF_known_5 : decode b_WF_known 5 = .ok (.iload_n 1, 1) := dc_27 (by decide +kernel)
theorem d_WF_known_6 : decode b_WF_known 6 = .ok (.aload_n 0, 1) := dc_42 (by decide +kernel)
theorem d_WF_known_7 : decode b_WF_known 7 = .ok (.getfield 76, 3) := dc_180 (by decide +kernel)
theorem d_WF_known_10 : decode b_WF_known 10 = .ok (.getfield 375, 3) := dc_180 (by decide +kernel)
theorem d_WF_known_13 : decode b_WF_known 13 = .ok (.if_icmp .le 5, 3) := dc_164 (by decide +kernel)
theorem d_WF_known_16 : decode b_WF_known 16 = .ok (.iconst 0, 1) := dc_3 (by decide +kernel)
theorem d_WF_known_17 : decode b_WF_known 17 = .ok (.ireturn, 1) := dc_172 (by decide +kernel)
theorem d_WF_known_18 : decode b_WF_known 18 = .ok (.aload_n 0, 1) := dc_42 (by decide +kernel)
theorem d_WF_known_19 : decode b_WF_known 19 = .ok (.getfield 76, 3) := dc_180 (by decide +kernel)
theorem d_WF_known_22 : decode b_WF_known 22 = .ok (.iload_n 1, 1) := dc_27 (by decide +kernel)
theorem d_WF_known_23 : decode b_WF_known 23 = .ok (.putfield 378, 3) := dc_181 (by decide +kernel)
theorem d_WF_known_26 : decode b_WF_known 26 = .ok (.iconst 1, 1) := dc_4 (by decide +kernel)
theorem d_WF_known_27 : decode b_WF_known 27 = .ok (.ireturn, 1) := dc_172 (by decide +kernel)
def t_WF_known (M : Mem) (x1 : Int) : Mem × Int := (if x1 < (-1) then (M, 0) else (if x1 ≤ (M.1 172 5) then (qlet (setI M 172 6 x1) fun M4 => (M4, 1)) else (M, 0)))
set_option maxHeartbeats 4000000 in
set_option maxRecDepth 100000 in
theorem c_WF_known (l : Launch) {b n : Nat} {C : CT} (hlo : 191 ≤ n) (M : Mem) (x1 : Int) (hx1 : InR x1) (res : Mem × Int) (hT : t_WF_known M x1 = res) : CM l b C n 0 y_WF_known b_WF_known 2 (some .boolean) [.ref (b + 0), vI x1] M (QZ b C n res.1 res.2) := by
  refine CM.of (lo := 191) (ow := "WardFalls") (by decide) rfl (Nat.le_of_ble_eq_true rfl) hlo (fun p e s m below meth c F hlk hr hS ls hl => ?_)
  have hl : lv_has ls 2 [(0, .ref (b + 0)), (1, vI x1)] := hl
  unfold t_WF_known at hT
  refine lv_iload_n F.hx F.hb d_WF_known_0 rfl (lv_at hl 1 rfl) ?_
  refine r_iconst F.hx F.hb d_WF_known_1 ?_
  refine r_icmp_lt (tgt := 16) F.hx F.hb hx1 (inr_c rfl) d_WF_known_2 (by decide) (fun c1 => ?_) (fun c1 => ?_)
  · replace hT := (if_pos c1).symm.trans hT
    refine r_iconst F.hx F.hb d_WF_known_16 ?_
    subst hT
    exact r_zret F hlk hr hS (Or.inl rfl) d_WF_known_17
  · replace hT := (if_neg c1).symm.trans hT
    refine lv_iload_n F.hx F.hb d_WF_known_5 rfl (lv_at hl 1 rfl) ?_
    refine lv_aload_n F.hx F.hb d_WF_known_6 rfl (lv_at hl 0 rfl) ?_
    refine r_get (v := .ref (b + 172)) (N := 19) (T := T0) (j := 15) F hS (show 0 < 191 by decide) (show shK 0 = 4 from rfl) (show shN 0 = 19 from rfl) rfl (Nat.le_of_ble_eq_true rfl) ing0 mw_565 (fv_sg rfl rfl rfl) d_WF_known_7 ?_
    refine r_get (v := vI (M.1 172 5)) (N := 7) (T := T5) (j := 5) F hS (show 172 < 191 by decide) (show shK 172 = 9 from rfl) (show shN 172 = 7 from rfl) rfl (Nat.le_of_ble_eq_true rfl) ing5 mw_372 (fv_int rfl) d_WF_known_10 ?_
    have i2 := hS.rng 172 5
    refine r_icmp_le (tgt := 18) F.hx F.hb hx1 i2 d_WF_known_13 (by decide) (fun c3 => ?_) (fun c3 => ?_)
    · replace hT := (if_pos c3).symm.trans hT
      refine lv_aload_n F.hx F.hb d_WF_known_18 rfl (lv_at hl 0 rfl) ?_
      refine r_get (v := .ref (b + 172)) (N := 19) (T := T0) (j := 15) F hS (show 0 < 191 by decide) (show shK 0 = 4 from rfl) (show shN 0 = 19 from rfl) rfl (Nat.le_of_ble_eq_true rfl) ing0 mw_565 (fv_sg rfl rfl rfl) d_WF_known_19 ?_
      refine lv_iload_n F.hx F.hb d_WF_known_22 rfl (lv_at hl 1 rfl) ?_
      refine r_putI (N := 7) (T := T5) (j := 6) F hS (show 172 < 191 by decide) (show shK 172 = 9 from rfl) (show shN 172 = 7 from rfl) rfl (Nat.le_of_ble_eq_true rfl) ing5 tyok5 nm5 rfl rfl rfl rfl rfl rfl mw_374 hx1 d_WF_known_23 (fun H locs hS => ?_)
      obtain ⟨M4, eM4⟩ : ∃ q, q = (setI M 172 6 x1) := ⟨_, rfl⟩
      replace hS : St b C n M4 s H locs := by rw [eM4]; exact hS
      replace hT := qlet_eq hT eM4
      refine r_iconst F.hx F.hb d_WF_known_26 ?_
      subst hT
      exact r_zret F hlk hr hS (Or.inr rfl) d_WF_known_27
    · replace hT := (if_neg c3).symm.trans hT
      refine r_iconst F.hx F.hb d_WF_known_16 ?_
      subst hT
      exact r_zret F hlk hr hS (Or.inl rfl) d_WF_known_17
theorem d_Notes_knownBy_0 : decode b_Notes_knownBy 0 = .ok (.aload_n 0, 1) := dc_42 (by decide +kernel)
theorem d_Notes_knownBy_1 : decode b_Notes_knownBy 1 = .ok (.getfield 28, 3) := dc_180 (by decide +kernel)
theorem d_Notes_knownBy_4 : decode b_Notes_knownBy 4 = .ok (.ifCond .ge 10, 3) := dc_156 (by decide +kernel)
theorem d_Notes_knownBy_7 : decode b_Notes_knownBy 7 = .ok (.aload_n 0, 1) := dc_42 (by decide +kernel)
theorem d_Notes_knownBy_8 : decode b_Notes_knownBy 8 = .ok (.getfield 24, 3) := dc_180 (by decide +kernel)
theorem d_Notes_knownBy_11 : decode b_Notes_knownBy 11 = .ok (.goto 7, 3) := dc_167 (by decide +kernel)
theorem d_Notes_knownBy_14 : decode b_Notes_knownBy 14 = .ok (.aload_n 0, 1) := dc_42 (by decide +kernel)
theorem d_Notes_knownBy_15 : decode b_Notes_knownBy 15 = .ok (.getfield 28, 3) := dc_180 (by decide +kernel)
theorem d_Notes_knownBy_18 : decode b_Notes_knownBy 18 = .ok (.ireturn, 1) := dc_172 (by decide +kernel)
def t_Notes_knownBy (M : Mem)  : Int := (if 0 ≤ (M.1 172 6) then (M.1 172 6) else (M.1 172 5))
set_option maxHeartbeats 4000000 in
set_option maxRecDepth 100000 in
theorem c_Notes_knownBy (l : Launch) {b n : Nat} {C : CT} (hlo : 191 ≤ n) (M : Mem)   (res : Int) (hT : t_Notes_knownBy M  = res) : CM l b C n 0 y_Notes_knownBy b_Notes_knownBy 1 (some .int) [.ref (b + 172)] M (QI b C n M res) := by
  refine CM.of (lo := 191) (ow := "WardFalls$Notes") (by decide) rfl (Nat.le_of_ble_eq_true rfl) hlo (fun p e s m below meth c F hlk hr hS ls hl => ?_)
  have hl : lv_has ls 1 [(0, .ref (b + 172))] := hl
  unfold t_Notes_knownBy at hT
  refine lv_aload_n F.hx F.hb d_Notes_knownBy_0 rfl (lv_at hl 0 rfl) ?_
  refine r_get (v := vI (M.1 172 6)) (N := 7) (T := T5) (j := 6) F hS (show 172 < 191 by decide) (show shK 172 = 9 from rfl) (show shN 172 = 7 from rfl) rfl (Nat.le_of_ble_eq_true rfl) ing5 mw_373 (fv_int rfl) d_Notes_knownBy_1 ?_
  have i1 := hS.rng 172 6
  refine r_if_ge (tgt := 14) F.hx F.hb i1 d_Notes_knownBy_4 (by decide) (fun c2 => ?_) (fun c2 => ?_)
  · replace hT := (if_pos c2).symm.trans hT
    refine lv_aload_n F.hx F.hb d_Notes_knownBy_14 rfl (lv_at hl 0 rfl) ?_
    refine r_get (v := vI (M.1 172 6)) (N := 7) (T := T5) (j := 6) F hS (show 172 < 191 by decide) (show shK 172 = 9 from rfl) (show shN 172 = 7 from rfl) rfl (Nat.le_of_ble_eq_true rfl) ing5 mw_373 (fv_int rfl) d_Notes_knownBy_15 ?_
    have i3 := hS.rng 172 6
    subst hT
    exact r_iret F hlk hr rfl hS i3 d_Notes_knownBy_18
  · replace hT := (if_neg c2).symm.trans hT
    refine lv_aload_n F.hx F.hb d_Notes_knownBy_7 rfl (lv_at hl 0 rfl) ?_
    refine r_get (v := vI (M.1 172 5)) (N := 7) (T := T5) (j := 5) F hS (show 172 < 191 by decide) (show shK 172 = 9 from rfl) (show shN 172 = 7 from rfl) rfl (Nat.le_of_ble_eq_true rfl) ing5 mw_371 (fv_int rfl) d_Notes_knownBy_8 ?_
    have i4 := hS.rng 172 5
    refine lv_goto (tgt := 18) F.hx F.hb d_Notes_knownBy_11 (by decide) ?_
    subst hT
    exact r_iret F hlk hr rfl hS i4 d_Notes_knownBy_18
theorem d_Notes_knownBits_0 : decode b_Notes_knownBits 0 = .ok (.iconst 0, 1) := dc_3 (by decide +kernel)
theorem d_Notes_knownBits_1 : decode b_Notes_knownBits 1 = .ok (.istore_n 1, 1) := dc_60 (by decide +kernel)
theorem d_Notes_knownBits_2 : decode b_Notes_knownBits 2 = .ok (.iconst 0, 1) := dc_3 (by decide +kernel)
theorem d_Notes_knownBits_3 : decode b_Notes_knownBits 3 = .ok (.istore_n 2, 1) := dc_61 (by decide +kernel)
theorem d_Notes_knownBits_4 : decode b_Notes_knownBits 4 = .ok (.aload_n 0, 1) := dc_42 (by decide +kernel)
theorem d_Notes_knownBits_5 : decode b_Notes_knownBits 5 = .ok (.invokevirtual 74, 3) := dc_182 (by decide +kernel)
theorem d_Notes_knownBits_8 : decode b_Notes_knownBits 8 = .ok (.iconst 1, 1) := dc_4 (by decide +kernel)
theorem d_Notes_knownBits_9 : decode b_Notes_knownBits 9 = .ok (.isub, 1) := dc_100 (by decide +kernel)
theorem d_Notes_knownBits_10 : decode b_Notes_knownBits 10 = .ok (.istore_n 3, 1) := dc_62 (by decide +kernel)
theorem d_Notes_knownBits_11 : decode b_Notes_knownBits 11 = .ok (.iload_n 3, 1) := dc_29 (by decide +kernel)
theorem d_Notes_knownBits_12 : decode b_Notes_knownBits 12 = .ok (.ifCond .lt 49, 3) := dc_155 (by decide +kernel)
theorem d_Notes_knownBits_15 : decode b_Notes_knownBits 15 = .ok (.iload_n 1, 1) := dc_27 (by decide +kernel)
theorem d_Notes_knownBits_16 : decode b_Notes_knownBits 16 = .ok (.i2l, 1) := dc_133 (by decide +kernel)
theorem d_Notes_knownBits_17 : decode b_Notes_knownBits 17 = .ok (.iload_n 3, 1) := dc_29 (by decide +kernel)
theorem d_Notes_knownBits_18 : decode b_Notes_knownBits 18 = .ok (.invokestatic 77, 3) := dc_184 (by decide +kernel)
theorem d_Notes_knownBits_21 : decode b_Notes_knownBits 21 = .ok (.ifCond .ne 34, 3) := dc_154 (by decide +kernel)
theorem d_Notes_knownBits_24 : decode b_Notes_knownBits 24 = .ok (.aload_n 0, 1) := dc_42 (by decide +kernel)
theorem d_Notes_knownBits_25 : decode b_Notes_knownBits 25 = .ok (.getfield 18, 3) := dc_180 (by decide +kernel)
theorem d_Notes_knownBits_28 : decode b_Notes_knownBits 28 = .ok (.iload_n 3, 1) := dc_29 (by decide +kernel)
theorem d_Notes_knownBits_29 : decode b_Notes_knownBits 29 = .ok (.invokestatic 67, 3) := dc_184 (by decide +kernel)
theorem d_Notes_knownBits_32 : decode b_Notes_knownBits 32 = .ok (.istore 4, 2) := dc_54 (by decide +kernel)
theorem d_Notes_knownBits_34 : decode b_Notes_knownBits 34 = .ok (.iload 4, 2) := dc_21 (by decide +kernel)
theorem d_Notes_knownBits_36 : decode b_Notes_knownBits 36 = .ok (.ifCond .ge 12, 3) := dc_156 (by decide +kernel)
theorem d_Notes_knownBits_39 : decode b_Notes_knownBits 39 = .ok (.iload_n 2, 1) := dc_28 (by decide +kernel)
theorem d_Notes_knownBits_40 : decode b_Notes_knownBits 40 = .ok (.iconst 1, 1) := dc_4 (by decide +kernel)
theorem d_Notes_knownBits_41 : decode b_Notes_knownBits 41 = .ok (.iload_n 3, 1) := dc_29 (by decide +kernel)
theorem d_Notes_knownBits_42 : decode b_Notes_knownBits 42 = .ok (.ishl, 1) := dc_120 (by decide +kernel)
theorem d_Notes_knownBits_43 : decode b_Notes_knownBits 43 = .ok (.ior, 1) := dc_128 (by decide +kernel)
theorem d_Notes_knownBits_44 : decode b_Notes_knownBits 44 = .ok (.istore_n 2, 1) := dc_61 (by decide +kernel)
theorem d_Notes_knownBits_45 : decode b_Notes_knownBits 45 = .ok (.goto 10, 3) := dc_167 (by decide +kernel)
theorem d_Notes_knownBits_48 : decode b_Notes_knownBits 48 = .ok (.iload_n 1, 1) := dc_27 (by decide +kernel)
theorem d_Notes_knownBits_49 : decode b_Notes_knownBits 49 = .ok (.iconst 1, 1) := dc_4 (by decide +kernel)
theorem d_Notes_knownBits_50 : decode b_Notes_knownBits 50 = .ok (.iload 4, 2) := dc_21 (by decide +kernel)
theorem d_Notes_knownBits_52 : decode b_Notes_knownBits 52 = .ok (.ishl, 1) := dc_120 (by decide +kernel)
theorem d_Notes_knownBits_53 : decode b_Notes_knownBits 53 = .ok (.ior, 1) := dc_128 (by decide +kernel)
theorem d_Notes_knownBits_54 : decode b_Notes_knownBits 54 = .ok (.istore_n 1, 1) := dc_60 (by decide +kernel)
theorem d_Notes_knownBits_55 : decode b_Notes_knownBits 55 = .ok (.iinc 3 (-1), 3) := dc_132 (by decide +kernel)
theorem d_Notes_knownBits_58 : decode b_Notes_knownBits 58 = .ok (.goto (-47), 3) := dc_167 (by decide +kernel)
theorem d_Notes_knownBits_61 : decode b_Notes_knownBits 61 = .ok (.iload_n 2, 1) := dc_28 (by decide +kernel)
theorem d_Notes_knownBits_62 : decode b_Notes_knownBits 62 = .ok (.ireturn, 1) := dc_172 (by decide +kernel)
def t_Notes_knownBits_L55  (bk11 : Mem → Int → Int → Int → Option (Int)) (M : Mem) (v1_ : Int) (v2_ : Int) (v3_ : Int) : Option (Int) := (bk11 M v1_ v2_ (w32 (v3_ + (-1))))
def t_Notes_knownBits_L11   : Nat → Mem → Int → Int → Int → Option (Int)
  | 0, _, _, _, _ => none
  | fu + 1, M, v1_, v2_, v3_ => (if v3_ < 0 then (some v2_) else (qlet (t_WF_bitOf M (q_i2l v1_) v3_) fun q4 => (if q4 = 0 then (qlet (t_WF_look M 175 24 v3_) fun q7 => (if 0 ≤ q7 then (t_Notes_knownBits_L55 (fun a0_ a1_ a2_ a3_ => t_Notes_knownBits_L11 fu a0_ a1_ a2_ a3_) M (q_or v1_ (q_shl 1 q7)) v2_ v3_) else (t_Notes_knownBits_L55 (fun a0_ a1_ a2_ a3_ => t_Notes_knownBits_L11 fu a0_ a1_ a2_ a3_) M v1_ (q_or v2_ (q_shl 1 v3_)) v3_))) else (t_Notes_knownBits_L55 (fun a0_ a1_ a2_ a3_ => t_Notes_knownBits_L11 fu a0_ a1_ a2_ a3_) M v1_ v2_ v3_))))
def t_Notes_knownBits (M : Mem)  : Option (Int) := (qlet (t_Notes_knownBy M) fun q1 => (t_Notes_knownBits_L11 FU M 0 0 (w32 (q1 - 1))))
set_option maxHeartbeats 4000000 in
set_option maxRecDepth 100000 in
theorem k_Notes_knownBits_L55 (l : Launch) {p : Program} {e : Env} {s : State} {m : MethodId} {below : List Frame} {meth : Method} {c : Code} {b n : Nat} {C : CT} (hlo : 191 ≤ n)   (F : Cx b p m c b_Notes_knownBits 5 s ([.ref (b + 172)] : List Value).toArray "WardFalls$Notes" C n 191) (hlk : meth.locks = false) (hr : meth.sig.returnType = some .int) {res : Int} (bk11 : Mem → Int → Int → Int → Option (Int)) (hbk11 : ∀ (M : Mem) (v1_ : Int) (hv1_ : InR v1_) (v2_ : Int) (hv2_ : InR v2_) (v3_ : Int) (hv3_ : InR v3_) (H : Heap) (locs : List Loc) (ls : Array Slot), St b C n M s H locs → lv_has ls 5 [(0, .ref (b + 172)), (1, vI v1_), (2, vI v2_), (3, vI v3_)] → bk11 M v1_ v2_ v3_ = some res → W p l e (headSpec (wsM y_Notes_knownBits b_Notes_knownBits 5 (some .int)) (rmD 1)).room s m ([.ref (b + 172)] : List Value).toArray below meth c H locs 0 0 (MQ below (QI b C n M res) ([.ref (b + 172)] : List Value).toArray s 0 0 (frb b)) (F0 m 11 ls [])) (M : Mem) (v1_ : Int) (hv1_ : InR v1_) (v2_ : Int) (hv2_ : InR v2_) (v3_ : Int) (hv3_ : InR v3_) (H : Heap) (locs : List Loc) (ls : Array Slot) (hS : St b C n M s H locs) (hl : lv_has ls 5 [(0, .ref (b + 172)), (1, vI v1_), (2, vI v2_), (3, vI v3_)]) (hT : t_Notes_knownBits_L55 bk11 M v1_ v2_ v3_ = some res) : W p l e (headSpec (wsM y_Notes_knownBits b_Notes_knownBits 5 (some .int)) (rmD 1)).room s m ([.ref (b + 172)] : List Value).toArray below meth c H locs 0 0 (MQ below (QI b C n M res) ([.ref (b + 172)] : List Value).toArray s 0 0 (frb b)) (F0 m 55 ls []) := by
  unfold t_Notes_knownBits_L55 at hT
  refine lv_iinc (v := Int32.ofInt (w32 (v3_ + (-1)))) (lv' := [(3, vI (w32 (v3_ + (-1)))), (0, .ref (b + 172)), (1, vI v1_), (2, vI v2_)]) F.hx F.hb d_Notes_knownBits_55 hl (k := 3) rfl (q_of_add _ _) (Nat.le_of_ble_eq_true rfl) rfl (fun ls hl => ?_)
  refine lv_goto (tgt := 11) F.hx F.hb d_Notes_knownBits_58 (by decide) ?_
  exact hbk11 M v1_ hv1_ v2_ hv2_ (w32 (v3_ + (-1))) (inr_w32 _) _ _ _ hS (lv_sub hl [1, 2, 3, 0] rfl) hT
set_option maxHeartbeats 4000000 in
set_option maxRecDepth 100000 in
theorem k_Notes_knownBits_L11 (l : Launch) {p : Program} {e : Env} {s : State} {m : MethodId} {below : List Frame} {meth : Method} {c : Code} {b n : Nat} {C : CT} (hlo : 191 ≤ n)   (F : Cx b p m c b_Notes_knownBits 5 s ([.ref (b + 172)] : List Value).toArray "WardFalls$Notes" C n 191) (hlk : meth.locks = false) (hr : meth.sig.returnType = some .int) {res : Int} : ∀ (fu : Nat) (M : Mem) (v1_ : Int) (hv1_ : InR v1_) (v2_ : Int) (hv2_ : InR v2_) (v3_ : Int) (hv3_ : InR v3_) (H : Heap) (locs : List Loc) (ls : Array Slot), St b C n M s H locs → lv_has ls 5 [(0, .ref (b + 172)), (1, vI v1_), (2, vI v2_), (3, vI v3_)] → t_Notes_knownBits_L11 fu M v1_ v2_ v3_ = some res → W p l e (headSpec (wsM y_Notes_knownBits b_Notes_knownBits 5 (some .int)) (rmD 1)).room s m ([.ref (b + 172)] : List Value).toArray below meth c H locs 0 0 (MQ below (QI b C n M res) ([.ref (b + 172)] : List Value).toArray s 0 0 (frb b)) (F0 m 11 ls []) := by
  intro fu
  induction fu with
  | zero => intro M v1_ hv1_ v2_ hv2_ v3_ hv3_ H locs ls hS hl hT; exact absurd hT (by simp [t_Notes_knownBits_L11])
  | succ fu ih =>
    intro M v1_ hv1_ v2_ hv2_ v3_ hv3_ H locs ls hS hl hT
    rw [t_Notes_knownBits_L11] at hT
    refine lv_iload_n F.hx F.hb d_Notes_knownBits_11 rfl (lv_at hl 3 rfl) ?_
    refine r_if_lt (tgt := 61) F.hx F.hb hv3_ d_Notes_knownBits_12 (by decide) (fun c3 => ?_) (fun c3 => ?_)
    · replace hT := (if_pos c3).symm.trans hT
      refine lv_iload_n F.hx F.hb d_Notes_knownBits_61 rfl (lv_at hl 2 rfl) ?_
      cases hT
      exact r_iret F hlk hr rfl hS hv2_ d_Notes_knownBits_62
    · replace hT := (if_neg c3).symm.trans hT
      refine lv_iload_n F.hx F.hb d_Notes_knownBits_15 rfl (lv_at hl 1 rfl) ?_
      refine r_i2l F.hx F.hb d_Notes_knownBits_16 ?_
      refine lv_iload_n F.hx F.hb d_Notes_knownBits_17 rfl (lv_at hl 3 rfl) ?_
      obtain ⟨q4, hq4⟩ : ∃ q, q = (t_WF_bitOf M (q_i2l v1_) v3_) := ⟨_, rfl⟩
      replace hT := qlet_eq hT hq4
      refine r_backI F hS (r_runSN (As := [.long (q_i2l v1_), vI v3_]) F hS (c_WF_bitOf l F.2.2.1 M (q_i2l v1_) v3_ hv3_ _ hq4.symm) mw_773 mw_772 mw_1 gs_Notes_77 hd_WF_bitOf ⟨Nat.le_of_ble_eq_true rfl, Nat.le_of_ble_eq_true rfl⟩ rfl hl.1 (Nat.le_of_ble_eq_true rfl) ⟨Nat.zero_le _, Nat.zero_le _⟩ rfl d_Notes_knownBits_18) (fun H locs hS h5 => ?_)
      refine r_if_ne (tgt := 55) F.hx F.hb h5 d_Notes_knownBits_21 (by decide) (fun c6 => ?_) (fun c6 => ?_)
      · replace hT := (if_neg c6).symm.trans hT
        exact k_Notes_knownBits_L55 l hlo F hlk hr (fun a0_ a1_ a2_ a3_ => t_Notes_knownBits_L11 fu a0_ a1_ a2_ a3_) ih M v1_ hv1_ v2_ hv2_ v3_ hv3_ _ _ _ hS (lv_sub hl [0, 1, 2, 3] rfl) hT
      · replace hT := (if_pos c6).symm.trans hT
        refine lv_aload_n F.hx F.hb d_Notes_knownBits_24 rfl (lv_at hl 0 rfl) ?_
        refine r_get (v := .ref (b + 175)) (N := 7) (T := T5) (j := 2) F hS (show 172 < 191 by decide) (show shK 172 = 9 from rfl) (show shN 172 = 7 from rfl) rfl (Nat.le_of_ble_eq_true rfl) ing5 mw_366 (fv_sg rfl rfl rfl) d_Notes_knownBits_25 ?_
        refine lv_iload_n F.hx F.hb d_Notes_knownBits_28 rfl (lv_at hl 3 rfl) ?_
        obtain ⟨q7, hq7⟩ : ∃ q, q = (t_WF_look M 175 24 v3_) := ⟨_, rfl⟩
        replace hT := qlet_eq hT hq7
        refine r_backI F hS (r_runSN (As := [.ref (b + 175), vI v3_]) F hS (c_WF_look l F.2.2.1 M 175 24 v3_ (show arrP 0 175 24 191 from ⟨rfl, rfl, by decide⟩) hv3_ _ hq7.symm) mw_519 mw_518 mw_1 gs_Notes_67 hd_WF_look ⟨Nat.le_of_ble_eq_true rfl, Nat.le_of_ble_eq_true rfl⟩ rfl hl.1 (Nat.le_of_ble_eq_true rfl) ⟨Nat.zero_le _, Nat.zero_le _⟩ rfl d_Notes_knownBits_29) (fun H locs hS h8 => ?_)
        refine lv_istore (lv' := [(4, vI q7), (0, .ref (b + 172)), (1, vI v1_), (2, vI v2_), (3, vI v3_)]) F.hx F.hb d_Notes_knownBits_32 hl (Nat.le_of_ble_eq_true rfl) rfl (fun ls hl => ?_)
        refine lv_iload F.hx F.hb d_Notes_knownBits_34 (lv_at hl 0 rfl) ?_
        refine r_if_ge (tgt := 48) F.hx F.hb h8 d_Notes_knownBits_36 (by decide) (fun c9 => ?_) (fun c9 => ?_)
        · replace hT := (if_pos c9).symm.trans hT
          refine lv_iload_n F.hx F.hb d_Notes_knownBits_48 rfl (lv_at hl 2 rfl) ?_
          refine r_iconst F.hx F.hb d_Notes_knownBits_49 ?_
          refine lv_iload F.hx F.hb d_Notes_knownBits_50 (lv_at hl 0 rfl) ?_
          refine r_ishl F.hx F.hb d_Notes_knownBits_52 ?_
          refine r_ior F.hx F.hb d_Notes_knownBits_53 ?_
          refine lv_istore_n (lv' := [(1, vI (q_or v1_ (q_shl 1 q7))), (4, vI q7), (0, .ref (b + 172)), (2, vI v2_), (3, vI v3_)]) F.hx F.hb d_Notes_knownBits_54 rfl hl (Nat.le_of_ble_eq_true rfl) rfl (fun ls hl => ?_)
          exact k_Notes_knownBits_L55 l hlo F hlk hr (fun a0_ a1_ a2_ a3_ => t_Notes_knownBits_L11 fu a0_ a1_ a2_ a3_) ih M (q_or v1_ (q_shl 1 q7)) (q_inr_toInt _) v2_ hv2_ v3_ hv3_ _ _ _ hS (lv_sub hl [2, 0, 3, 4] rfl) hT
        · replace hT := (if_neg c9).symm.trans hT
          refine lv_iload_n F.hx F.hb d_Notes_knownBits_39 rfl (lv_at hl 3 rfl) ?_
          refine r_iconst F.hx F.hb d_Notes_knownBits_40 ?_
          refine lv_iload_n F.hx F.hb d_Notes_knownBits_41 rfl (lv_at hl 4 rfl) ?_
          refine r_ishl F.hx F.hb d_Notes_knownBits_42 ?_
          refine r_ior F.hx F.hb d_Notes_knownBits_43 ?_
          refine lv_istore_n (lv' := [(2, vI (q_or v2_ (q_shl 1 v3_))), (4, vI q7), (0, .ref (b + 172)), (1, vI v1_), (3, vI v3_)]) F.hx F.hb d_Notes_knownBits_44 rfl hl (Nat.le_of_ble_eq_true rfl) rfl (fun ls hl => ?_)
          refine lv_goto (tgt := 55) F.hx F.hb d_Notes_knownBits_45 (by decide) ?_
          exact k_Notes_knownBits_L55 l hlo F hlk hr (fun a0_ a1_ a2_ a3_ => t_Notes_knownBits_L11 fu a0_ a1_ a2_ a3_) ih M v1_ hv1_ (q_or v2_ (q_shl 1 v3_)) (q_inr_toInt _) v3_ hv3_ _ _ _ hS (lv_sub hl [2, 3, 0, 4] rfl) hT
set_option maxHeartbeats 4000000 in
set_option maxRecDepth 100000 in
theorem c_Notes_knownBits (l : Launch) {b n : Nat} {C : CT} (hlo : 191 ≤ n) (M : Mem)   (res : Int) (hT : t_Notes_knownBits M  = some res) : CM l b C n 1 y_Notes_knownBits b_Notes_knownBits 5 (some .int) [.ref (b + 172)] M (QI b C n M res) := by
  refine CM.of (lo := 191) (ow := "WardFalls$Notes") (by decide) rfl (Nat.le_of_ble_eq_true rfl) hlo (fun p e s m below meth c F hlk hr hS ls hl => ?_)
  have hl : lv_has ls 5 [(0, .ref (b + 172))] := hl
  unfold t_Notes_knownBits at hT
  refine r_iconst F.hx F.hb d_Notes_knownBits_0 ?_
  refine lv_istore_n (lv' := [(1, vI 0), (0, .ref (b + 172))]) F.hx F.hb d_Notes_knownBits_1 rfl hl (Nat.le_of_ble_eq_true rfl) rfl (fun ls hl => ?_)
  refine r_iconst F.hx F.hb d_Notes_knownBits_2 ?_
  refine lv_istore_n (lv' := [(2, vI 0), (1, vI 0), (0, .ref (b + 172))]) F.hx F.hb d_Notes_knownBits_3 rfl hl (Nat.le_of_ble_eq_true rfl) rfl (fun ls hl => ?_)
  refine lv_aload_n F.hx F.hb d_Notes_knownBits_4 rfl (lv_at hl 2 rfl) ?_
  obtain ⟨q1, hq1⟩ : ∃ q, q = (t_Notes_knownBy M) := ⟨_, rfl⟩
  replace hT := qlet_eq hT hq1
  refine r_backI F hS (r_runV (k := 172) (N := 7) (T := T5) (As := []) F hS (show 172 < 191 by decide) (show shK 172 = 9 from rfl) rfl (c_Notes_knownBy l F.2.2.1 M _ hq1.symm) gs_Notes_74 hd_Notes_knownBy ⟨Nat.le_of_ble_eq_true rfl, Nat.le_of_ble_eq_true rfl⟩ rfl hl.1 (Nat.le_of_ble_eq_true rfl) ⟨Nat.zero_le _, Nat.zero_le _⟩ rfl d_Notes_knownBits_5) (fun H locs hS h2 => ?_)
  refine r_iconst F.hx F.hb d_Notes_knownBits_8 ?_
  refine r_isub F.hx F.hb d_Notes_knownBits_9 ?_
  refine lv_istore_n (lv' := [(3, vI (w32 (q1 - 1))), (2, vI 0), (1, vI 0), (0, .ref (b + 172))]) F.hx F.hb d_Notes_knownBits_10 rfl hl (Nat.le_of_ble_eq_true rfl) rfl (fun ls hl => ?_)
  exact k_Notes_knownBits_L11 l hlo F hlk hr FU M 0 (inr_c rfl) 0 (inr_c rfl) (w32 (q1 - 1)) (inr_w32 _) _ _ _ hS (lv_sub hl [3, 2, 1, 0] rfl) hT
theorem d_Notes_setDowns_0 : decode b_Notes_setDowns 0 = .ok (.iload_n 2, 1) := dc_28 (by decide +kernel)
theorem d_Notes_setDowns_1 : decode b_Notes_setDowns 1 = .ok (.istore_n 3, 1) := dc_62 (by decide +kernel)
theorem d_Notes_setDowns_2 : decode b_Notes_setDowns 2 = .ok (.iconst 0, 1) := dc_3 (by decide +kernel)
theorem d_Notes_setDowns_3 : decode b_Notes_setDowns 3 = .ok (.istore 4, 2) := dc_54 (by decide +kernel)
theorem d_Notes_setDowns_5 : decode b_Notes_setDowns 5 = .ok (.iload 4, 2) := dc_21 (by decide +kernel)
theorem d_Notes_setDowns_7 : decode b_Notes_setDowns 7 = .ok (.aload_n 0, 1) := dc_42 (by decide +kernel)
theorem d_Notes_setDowns_8 : decode b_Notes_setDowns 8 = .ok (.getfield 45, 3) := dc_180 (by decide +kernel)
theorem d_Notes_setDowns_11 : decode b_Notes_setDowns 11 = .ok (.if_icmp .ge 25, 3) := dc_162 (by decide +kernel)
theorem d_Notes_setDowns_14 : decode b_Notes_setDowns 14 = .ok (.aload_n 1, 1) := dc_43 (by decide +kernel)
theorem d_Notes_setDowns_15 : decode b_Notes_setDowns 15 = .ok (.getfield 71, 3) := dc_180 (by decide +kernel)
theorem d_Notes_setDowns_18 : decode b_Notes_setDowns 18 = .ok (.iload 4, 2) := dc_21 (by decide +kernel)
theorem d_Notes_setDowns_20 : decode b_Notes_setDowns 20 = .ok (.iload_n 3, 1) := dc_29 (by decide +kernel)
theorem d_Notes_setDowns_21 : decode b_Notes_setDowns 21 = .ok (.iconst 5, 1) := dc_8 (by decide +kernel)
theorem d_Notes_setDowns_22 : decode b_Notes_setDowns 22 = .ok (.irem, 1) := dc_112 (by decide +kernel)
theorem d_Notes_setDowns_23 : decode b_Notes_setDowns 23 = .ok (.invokestatic 31, 3) := dc_184 (by decide +kernel)
theorem d_Notes_setDowns_26 : decode b_Notes_setDowns 26 = .ok (.iload_n 3, 1) := dc_29 (by decide +kernel)
theorem d_Notes_setDowns_27 : decode b_Notes_setDowns 27 = .ok (.iconst 5, 1) := dc_8 (by decide +kernel)
theorem d_Notes_setDowns_28 : decode b_Notes_setDowns 28 = .ok (.idiv, 1) := dc_108 (by decide +kernel)
theorem d_Notes_setDowns_29 : decode b_Notes_setDowns 29 = .ok (.istore_n 3, 1) := dc_62 (by decide +kernel)
theorem d_Notes_setDowns_30 : decode b_Notes_setDowns 30 = .ok (.iinc 4 1, 3) := dc_132 (by decide +kernel)
theorem d_Notes_setDowns_33 : decode b_Notes_setDowns 33 = .ok (.goto (-28), 3) := dc_167 (by decide +kernel)
theorem d_Notes_setDowns_36 : decode b_Notes_setDowns 36 = .ok (.return_, 1) := dc_177 (by decide +kernel)
def t_Notes_setDowns_L5 (k1 : Nat) (k2 : Nat) (x3 : Int)  : Nat → Mem → Int → Int → Option (Mem)
  | 0, _, _, _ => none
  | fu + 1, M, v2_, v3_ => (if (M.1 k1 14) ≤ v3_ then (some M) else (qlet (t_WF_put M (k2 + 1) 4 v3_ (q_rem v2_ 5)) fun q3 => (t_Notes_setDowns_L5 k1 k2 x3 fu q3 (q_div v2_ 5) (w32 (v3_ + 1)))))
def t_Notes_setDowns (M : Mem) (k1 : Nat) (k2 : Nat) (x3 : Int) : Option (Mem) := (t_Notes_setDowns_L5 k1 k2 x3 FU M x3 0)
set_option maxHeartbeats 4000000 in
set_option maxRecDepth 100000 in
theorem k_Notes_setDowns_L5 (l : Launch) {p : Program} {e : Env} {s : State} {m : MethodId} {below : List Frame} {meth : Method} {c : Code} {b n : Nat} {C : CT} (hlo : 191 ≤ n) (k1 : Nat) (k2 : Nat) (x3 : Int) (hk1 : isTown k1) (hk2 : isScene k2) (hx3 : InR x3) (F : Cx b p m c b_Notes_setDowns 5 s ([.ref (b + k1), .ref (b + k2), vI x3] : List Value).toArray "WardFalls$Notes" C n 191) (hlk : meth.locks = false) (hr : meth.sig.returnType = none) {res : Mem} : ∀ (fu : Nat) (M : Mem) (v2_ : Int) (hv2_ : InR v2_) (v3_ : Int) (hv3_ : InR v3_) (H : Heap) (locs : List Loc) (ls : Array Slot), St b C n M s H locs → lv_has ls 5 [(0, .ref (b + k1)), (1, .ref (b + k2)), (3, vI v2_), (4, vI v3_)] → t_Notes_setDowns_L5 k1 k2 x3 fu M v2_ v3_ = some res → W p l e (headSpec (wsM y_Notes_setDowns b_Notes_setDowns 5 (none)) (rmD 1)).room s m ([.ref (b + k1), .ref (b + k2), vI x3] : List Value).toArray below meth c H locs 0 0 (MQ below (QV b C n res) ([.ref (b + k1), .ref (b + k2), vI x3] : List Value).toArray s 0 0 (frb b)) (F0 m 5 ls []) := by
  intro fu
  induction fu with
  | zero => intro M v2_ hv2_ v3_ hv3_ H locs ls hS hl hT; exact absurd hT (by simp [t_Notes_setDowns_L5])
  | succ fu ih =>
    intro M v2_ hv2_ v3_ hv3_ H locs ls hS hl hT
    rw [t_Notes_setDowns_L5] at hT
    refine lv_iload F.hx F.hb d_Notes_setDowns_5 (lv_at hl 3 rfl) ?_
    refine lv_aload_n F.hx F.hb d_Notes_setDowns_7 rfl (lv_at hl 0 rfl) ?_
    refine r_get (v := vI (M.1 k1 14)) (N := 20) (T := T11) (j := 14) F hS (Town_lt hk1) (Town_sh hk1) (Town_N hk1) rfl (Nat.le_of_ble_eq_true rfl) ing11 mw_136 (fv_int rfl) d_Notes_setDowns_8 ?_
    have i1 := hS.rng k1 14
    refine r_icmp_ge (tgt := 36) F.hx F.hb hv3_ i1 d_Notes_setDowns_11 (by decide) (fun c2 => ?_) (fun c2 => ?_)
    · replace hT := (if_pos c2).symm.trans hT
      cases hT
      exact r_vret F hlk hr hS d_Notes_setDowns_36
    · replace hT := (if_neg c2).symm.trans hT
      refine lv_aload_n F.hx F.hb d_Notes_setDowns_14 rfl (lv_at hl 1 rfl) ?_
      refine r_get (v := .ref (b + (k2 + 1))) (N := 7) (T := T9) (j := 0) F hS (Scene_lt hk2) (Scene_sh hk2) (Scene_N hk2) rfl (Nat.le_of_ble_eq_true rfl) ing9 mw_274 (Scene_g0 hk2 _) d_Notes_setDowns_15 ?_
      refine lv_iload F.hx F.hb d_Notes_setDowns_18 (lv_at hl 3 rfl) ?_
      refine lv_iload_n F.hx F.hb d_Notes_setDowns_20 rfl (lv_at hl 2 rfl) ?_
      refine r_iconst F.hx F.hb d_Notes_setDowns_21 ?_
      refine r_irem F.hx F.hb (inr_c rfl) (by decide) d_Notes_setDowns_22 ?_
      obtain ⟨q3, hq3⟩ : ∃ q, q = (t_WF_put M (k2 + 1) 4 v3_ (q_rem v2_ 5)) := ⟨_, rfl⟩
      replace hT := qlet_eq hT hq3
      refine r_backV F hS (r_runSN (As := [.ref (b + (k2 + 1)), vI v3_, vI (q_rem v2_ 5)]) F hS (c_WF_put l F.2.2.1 M (k2 + 1) 4 v3_ (q_rem v2_ 5) (Scene_f0 hk2) hv3_ (q_inr_toInt _) _ hq3.symm) mw_512 mw_511 mw_1 gs_Notes_31 hd_WF_put ⟨Nat.le_of_ble_eq_true rfl, Nat.le_of_ble_eq_true rfl⟩ rfl hl.1 (Nat.le_of_ble_eq_true rfl) ⟨Nat.zero_le _, Nat.zero_le _⟩ rfl d_Notes_setDowns_23) (fun H locs hS => ?_)
      refine lv_iload_n F.hx F.hb d_Notes_setDowns_26 rfl (lv_at hl 2 rfl) ?_
      refine r_iconst F.hx F.hb d_Notes_setDowns_27 ?_
      refine r_idiv F.hx F.hb (inr_c rfl) (by decide) d_Notes_setDowns_28 ?_
      refine lv_istore_n (lv' := [(3, vI (q_div v2_ 5)), (0, .ref (b + k1)), (1, .ref (b + k2)), (4, vI v3_)]) F.hx F.hb d_Notes_setDowns_29 rfl hl (Nat.le_of_ble_eq_true rfl) rfl (fun ls hl => ?_)
      refine lv_iinc (v := Int32.ofInt (w32 (v3_ + 1))) (lv' := [(4, vI (w32 (v3_ + 1))), (3, vI (q_div v2_ 5)), (0, .ref (b + k1)), (1, .ref (b + k2))]) F.hx F.hb d_Notes_setDowns_30 hl (k := 3) rfl (q_of_add _ _) (Nat.le_of_ble_eq_true rfl) rfl (fun ls hl => ?_)
      refine lv_goto (tgt := 5) F.hx F.hb d_Notes_setDowns_33 (by decide) ?_
      exact ih q3 (q_div v2_ 5) (q_inr_toInt _) (w32 (v3_ + 1)) (inr_w32 _) _ _ _ hS (lv_sub hl [2, 3, 1, 0] rfl) hT
set_option maxHeartbeats 4000000 in
set_option maxRecDepth 100000 in
theorem c_Notes_setDowns (l : Launch) {b n : Nat} {C : CT} (hlo : 191 ≤ n) (M : Mem) (k1 : Nat) (k2 : Nat) (x3 : Int) (hk1 : isTown k1) (hk2 : isScene k2) (hx3 : InR x3) (res : Mem) (hT : t_Notes_setDowns M k1 k2 x3 = some res) : CM l b C n 1 y_Notes_setDowns b_Notes_setDowns 5 (none) [.ref (b + k1), .ref (b + k2), vI x3] M (QV b C n res) := by
  refine CM.of (lo := 191) (ow := "WardFalls$Notes") (by decide) rfl (Nat.le_of_ble_eq_true rfl) hlo (fun p e s m below meth c F hlk hr hS ls hl => ?_)
  have hl : lv_has ls 5 [(0, .ref (b + k1)), (1, .ref (b + k2)), (2, vI x3)] := hl
  unfold t_Notes_setDowns at hT
  refine lv_iload_n F.hx F.hb d_Notes_setDowns_0 rfl (lv_at hl 2 rfl) ?_
  refine lv_istore_n (lv' := [(3, vI x3), (0, .ref (b + k1)), (1, .ref (b + k2)), (2, vI x3)]) F.hx F.hb d_Notes_setDowns_1 rfl hl (Nat.le_of_ble_eq_true rfl) rfl (fun ls hl => ?_)
  refine r_iconst F.hx F.hb d_Notes_setDowns_2 ?_
  refine lv_istore (lv' := [(4, vI 0), (3, vI x3), (0, .ref (b + k1)), (1, .ref (b + k2)), (2, vI x3)]) F.hx F.hb d_Notes_setDowns_3 hl (Nat.le_of_ble_eq_true rfl) rfl (fun ls hl => ?_)
  exact k_Notes_setDowns_L5 l hlo k1 k2 x3 hk1 hk2 hx3 F hlk hr FU M x3 hx3 0 (inr_c rfl) _ _ _ hS (lv_sub hl [2, 3, 1, 0] rfl) hT
theorem d_Notes_areSo_0 : decode b_Notes_areSo 0 = .ok (.iconst 0, 1) := dc_3 (by decide +kernel)
theorem d_Notes_areSo_1 : decode b_Notes_areSo 1 = .ok (.istore 5, 2) := dc_54 (by decide +kernel)
theorem d_Notes_areSo_3 : decode b_Notes_areSo 3 = .ok (.iload 5, 2) := dc_21 (by decide +kernel)
theorem d_Notes_areSo_5 : decode b_Notes_areSo 5 = .ok (.aload_n 0, 1) := dc_42 (by decide +kernel)
theorem d_Notes_areSo_6 : decode b_Notes_areSo 6 = .ok (.getfield 24, 3) := dc_180 (by decide +kernel)
theorem d_Notes_areSo_9 : decode b_Notes_areSo 9 = .ok (.if_icmp .ge 69, 3) := dc_162 (by decide +kernel)
theorem d_Notes_areSo_12 : decode b_Notes_areSo 12 = .ok (.iload_n 1, 1) := dc_27 (by decide +kernel)
theorem d_Notes_areSo_13 : decode b_Notes_areSo 13 = .ok (.i2l, 1) := dc_133 (by decide +kernel)
theorem d_Notes_areSo_14 : decode b_Notes_areSo 14 = .ok (.iload 5, 2) := dc_21 (by decide +kernel)
theorem d_Notes_areSo_16 : decode b_Notes_areSo 16 = .ok (.invokestatic 77, 3) := dc_184 (by decide +kernel)
theorem d_Notes_areSo_19 : decode b_Notes_areSo 19 = .ok (.iconst 1, 1) := dc_4 (by decide +kernel)
theorem d_Notes_areSo_20 : decode b_Notes_areSo 20 = .ok (.if_icmp .ne 52, 3) := dc_160 (by decide +kernel)
theorem d_Notes_areSo_23 : decode b_Notes_areSo 23 = .ok (.aload 4, 2) := dc_25 (by decide +kernel)
theorem d_Notes_areSo_25 : decode b_Notes_areSo 25 = .ok (.aload_n 2, 1) := dc_44 (by decide +kernel)
theorem d_Notes_areSo_26 : decode b_Notes_areSo 26 = .ok (.aload_n 3, 1) := dc_45 (by decide +kernel)
theorem d_Notes_areSo_27 : decode b_Notes_areSo 27 = .ok (.aload_n 0, 1) := dc_42 (by decide +kernel)
theorem d_Notes_areSo_28 : decode b_Notes_areSo 28 = .ok (.getfield 9, 3) := dc_180 (by decide +kernel)
theorem d_Notes_areSo_31 : decode b_Notes_areSo 31 = .ok (.iload 5, 2) := dc_21 (by decide +kernel)
theorem d_Notes_areSo_33 : decode b_Notes_areSo 33 = .ok (.invokestatic 67, 3) := dc_184 (by decide +kernel)
theorem d_Notes_areSo_36 : decode b_Notes_areSo 36 = .ok (.invokevirtual 81, 3) := dc_182 (by decide +kernel)
theorem d_Notes_areSo_39 : decode b_Notes_areSo 39 = .ok (.aload_n 0, 1) := dc_42 (by decide +kernel)
theorem d_Notes_areSo_40 : decode b_Notes_areSo 40 = .ok (.getfield 15, 3) := dc_180 (by decide +kernel)
theorem d_Notes_areSo_43 : decode b_Notes_areSo 43 = .ok (.iload 5, 2) := dc_21 (by decide +kernel)
theorem d_Notes_areSo_45 : decode b_Notes_areSo 45 = .ok (.invokestatic 67, 3) := dc_184 (by decide +kernel)
theorem d_Notes_areSo_48 : decode b_Notes_areSo 48 = .ok (.istore 6, 2) := dc_54 (by decide +kernel)
theorem d_Notes_areSo_50 : decode b_Notes_areSo 50 = .ok (.aload 4, 2) := dc_25 (by decide +kernel)
theorem d_Notes_areSo_52 : decode b_Notes_areSo 52 = .ok (.invokevirtual 86, 3) := dc_182 (by decide +kernel)
theorem d_Notes_areSo_55 : decode b_Notes_areSo 55 = .ok (.iload 6, 2) := dc_21 (by decide +kernel)
theorem d_Notes_areSo_57 : decode b_Notes_areSo 57 = .ok (.ifCond .ge 8, 3) := dc_156 (by decide +kernel)
theorem d_Notes_areSo_60 : decode b_Notes_areSo 60 = .ok (.bipush (-2), 2) := dc_16 (by decide +kernel)
theorem d_Notes_areSo_62 : decode b_Notes_areSo 62 = .ok (.goto 5, 3) := dc_167 (by decide +kernel)
theorem d_Notes_areSo_65 : decode b_Notes_areSo 65 = .ok (.iload 6, 2) := dc_21 (by decide +kernel)
theorem d_Notes_areSo_67 : decode b_Notes_areSo 67 = .ok (.if_icmp .eq 5, 3) := dc_159 (by decide +kernel)
theorem d_Notes_areSo_70 : decode b_Notes_areSo 70 = .ok (.iconst 0, 1) := dc_3 (by decide +kernel)
theorem d_Notes_areSo_71 : decode b_Notes_areSo 71 = .ok (.ireturn, 1) := dc_172 (by decide +kernel)
theorem d_Notes_areSo_72 : decode b_Notes_areSo 72 = .ok (.iinc 5 1, 3) := dc_132 (by decide +kernel)
theorem d_Notes_areSo_75 : decode b_Notes_areSo 75 = .ok (.goto (-72), 3) := dc_167 (by decide +kernel)
theorem d_Notes_areSo_78 : decode b_Notes_areSo 78 = .ok (.iconst 1, 1) := dc_4 (by decide +kernel)
theorem d_Notes_areSo_79 : decode b_Notes_areSo 79 = .ok (.ireturn, 1) := dc_172 (by decide +kernel)
def t_Notes_areSo_L72 (x1 : Int) (k2 : Nat) (k3 : Nat) (k4 : Nat) (bk3 : Mem → Int → Option (Mem × Int)) (M : Mem) (v5_ : Int) : Option (Mem × Int) := (bk3 M (w32 (v5_ + 1)))
def t_Notes_areSo_L67 (x1 : Int) (k2 : Nat) (k3 : Nat) (k4 : Nat) (bk3 : Mem → Int → Option (Mem × Int)) (M : Mem) (v5_ : Int) (v6_ : Int) (v7_ : Int) : Option (Mem × Int) := (if v6_ = v7_ then (t_Notes_areSo_L72 x1 k2 k3 k4 bk3 M v5_) else (some (M, 0)))
def t_Notes_areSo_L3 (x1 : Int) (k2 : Nat) (k3 : Nat) (k4 : Nat)  : Nat → Mem → Int → Option (Mem × Int)
  | 0, _, _ => none
  | fu + 1, M, v5_ => (if (M.1 172 5) ≤ v5_ then (some (M, 1)) else (qlet (t_WF_bitOf M (q_i2l x1) v5_) fun q3 => (if q3 = 1 then (qlet (t_WF_look M 173 24 v5_) fun q6 => (obind (t_Trail_follow M k4 k2 k3 q6) fun q8 => (qlet (t_WF_look q8 174 24 v5_) fun q10 => (qlet (t_Trail_end q8 k4) fun q12 => (if 0 ≤ q10 then (t_Notes_areSo_L67 x1 k2 k3 k4 (fun a0_ a1_ => t_Notes_areSo_L3 x1 k2 k3 k4 fu a0_ a1_) q8 v5_ q12 q10) else (t_Notes_areSo_L67 x1 k2 k3 k4 (fun a0_ a1_ => t_Notes_areSo_L3 x1 k2 k3 k4 fu a0_ a1_) q8 v5_ q12 (-2))))))) else (t_Notes_areSo_L72 x1 k2 k3 k4 (fun a0_ a1_ => t_Notes_areSo_L3 x1 k2 k3 k4 fu a0_ a1_) M v5_))))
def t_Notes_areSo (M : Mem) (x1 : Int) (k2 : Nat) (k3 : Nat) (k4 : Nat) : Option (Mem × Int) := (t_Notes_areSo_L3 x1 k2 k3 k4 FU M 0)
set_option maxHeartbeats 4000000 in
set_option maxRecDepth 100000 in
theorem k_Notes_areSo_L72 (l : Launch) {p : Program} {e : Env} {s : State} {m : MethodId} {below : List Frame} {meth : Method} {c : Code} {b n : Nat} {C : CT} (hlo : 191 ≤ n) (x1 : Int) (k2 : Nat) (k3 : Nat) (k4 : Nat) (hx1 : InR x1) (hk2 : isTown k2) (hk3 : isScene k3) (hk4 : isTrail k4) (F : Cx b p m c b_Notes_areSo 7 s ([.ref (b + 172), vI x1, .ref (b + k2), .ref (b + k3), .ref (b + k4)] : List Value).toArray "WardFalls$Notes" C n 191) (hlk : meth.locks = false) (hr : meth.sig.returnType = some .boolean) {res : Mem × Int} (bk3 : Mem → Int → Option (Mem × Int)) (hbk3 : ∀ (M : Mem) (v5_ : Int) (hv5_ : InR v5_) (H : Heap) (locs : List Loc) (ls : Array Slot), St b C n M s H locs → lv_has ls 7 [(0, .ref (b + 172)), (1, vI x1), (2, .ref (b + k2)), (3, .ref (b + k3)), (4, .ref (b + k4)), (5, vI v5_)] → bk3 M v5_ = some res → W p l e (headSpec (wsM y_Notes_areSo b_Notes_areSo 7 (some .boolean)) (rmD 4)).room s m ([.ref (b + 172), vI x1, .ref (b + k2), .ref (b + k3), .ref (b + k4)] : List Value).toArray below meth c H locs 0 0 (MQ below (QZ b C n res.1 res.2) ([.ref (b + 172), vI x1, .ref (b + k2), .ref (b + k3), .ref (b + k4)] : List Value).toArray s 0 0 (frb b)) (F0 m 3 ls [])) (M : Mem) (v5_ : Int) (hv5_ : InR v5_) (H : Heap) (locs : List Loc) (ls : Array Slot) (hS : St b C n M s H locs) (hl : lv_has ls 7 [(0, .ref (b + 172)), (1, vI x1), (2, .ref (b + k2)), (3, .ref (b + k3)), (4, .ref (b + k4)), (5, vI v5_)]) (hT : t_Notes_areSo_L72 x1 k2 k3 k4 bk3 M v5_ = some res) : W p l e (headSpec (wsM y_Notes_areSo b_Notes_areSo 7 (some .boolean)) (rmD 4)).room s m ([.ref (b + 172), vI x1, .ref (b + k2), .ref (b + k3), .ref (b + k4)] : List Value).toArray below meth c H locs 0 0 (MQ below (QZ b C n res.1 res.2) ([.ref (b + 172), vI x1, .ref (b + k2), .ref (b + k3), .ref (b + k4)] : List Value).toArray s 0 0 (frb b)) (F0 m 72 ls []) := by
  unfold t_Notes_areSo_L72 at hT
  refine lv_iinc (v := Int32.ofInt (w32 (v5_ + 1))) (lv' := [(5, vI (w32 (v5_ + 1))), (0, .ref (b + 172)), (1, vI x1), (2, .ref (b + k2)), (3, .ref (b + k3)), (4, .ref (b + k4))]) F.hx F.hb d_Notes_areSo_72 hl (k := 5) rfl (q_of_add _ _) (Nat.le_of_ble_eq_true rfl) rfl (fun ls hl => ?_)
  refine lv_goto (tgt := 3) F.hx F.hb d_Notes_areSo_75 (by decide) ?_
  exact hbk3 M (w32 (v5_ + 1)) (inr_w32 _) _ _ _ hS (lv_sub hl [1, 2, 3, 4, 5, 0] rfl) hT
set_option maxHeartbeats 4000000 in
set_option maxRecDepth 100000 in
theorem k_Notes_areSo_L67 (l : Launch) {p : Program} {e : Env} {s : State} {m : MethodId} {below : List Frame} {meth : Method} {c : Code} {b n : Nat} {C : CT} (hlo : 191 ≤ n) (x1 : Int) (k2 : Nat) (k3 : Nat) (k4 : Nat) (hx1 : InR x1) (hk2 : isTown k2) (hk3 : isScene k3) (hk4 : isTrail k4) (F : Cx b p m c b_Notes_areSo 7 s ([.ref (b + 172), vI x1, .ref (b + k2), .ref (b + k3), .ref (b + k4)] : List Value).toArray "WardFalls$Notes" C n 191) (hlk : meth.locks = false) (hr : meth.sig.returnType = some .boolean) {res : Mem × Int} (bk3 : Mem → Int → Option (Mem × Int)) (hbk3 : ∀ (M : Mem) (v5_ : Int) (hv5_ : InR v5_) (H : Heap) (locs : List Loc) (ls : Array Slot), St b C n M s H locs → lv_has ls 7 [(0, .ref (b + 172)), (1, vI x1), (2, .ref (b + k2)), (3, .ref (b + k3)), (4, .ref (b + k4)), (5, vI v5_)] → bk3 M v5_ = some res → W p l e (headSpec (wsM y_Notes_areSo b_Notes_areSo 7 (some .boolean)) (rmD 4)).room s m ([.ref (b + 172), vI x1, .ref (b + k2), .ref (b + k3), .ref (b + k4)] : List Value).toArray below meth c H locs 0 0 (MQ below (QZ b C n res.1 res.2) ([.ref (b + 172), vI x1, .ref (b + k2), .ref (b + k3), .ref (b + k4)] : List Value).toArray s 0 0 (frb b)) (F0 m 3 ls [])) (M : Mem) (v5_ : Int) (hv5_ : InR v5_) (v6_ : Int) (hv6_ : InR v6_) (v7_ : Int) (hv7_ : InR v7_) (H : Heap) (locs : List Loc) (ls : Array Slot) (hS : St b C n M s H locs) (hl : lv_has ls 7 [(0, .ref (b + 172)), (1, vI x1), (2, .ref (b + k2)), (3, .ref (b + k3)), (4, .ref (b + k4)), (5, vI v5_)]) (hT : t_Notes_areSo_L67 x1 k2 k3 k4 bk3 M v5_ v6_ v7_ = some res) : W p l e (headSpec (wsM y_Notes_areSo b_Notes_areSo 7 (some .boolean)) (rmD 4)).room s m ([.ref (b + 172), vI x1, .ref (b + k2), .ref (b + k3), .ref (b + k4)] : List Value).toArray below meth c H locs 0 0 (MQ below (QZ b C n res.1 res.2) ([.ref (b + 172), vI x1, .ref (b + k2), .ref (b + k3), .ref (b + k4)] : List Value).toArray s 0 0 (frb b)) (F0 m 67 ls [vI v7_, vI v6_]) := by
  unfold t_Notes_areSo_L67 at hT
  refine r_icmp_eq (tgt := 72) F.hx F.hb hv6_ hv7_ d_Notes_areSo_67 (by decide) (fun c15 => ?_) (fun c15 => ?_)
  · replace hT := (if_pos c15).symm.trans hT
    exact k_Notes_areSo_L72 l hlo x1 k2 k3 k4 hx1 hk2 hk3 hk4 F hlk hr bk3 hbk3 M v5_ hv5_ _ _ _ hS (lv_sub hl [0, 1, 2, 3, 4, 5] rfl) hT
  · replace hT := (if_neg c15).symm.trans hT
    refine r_iconst F.hx F.hb d_Notes_areSo_70 ?_
    cases hT
    exact r_zret F hlk hr hS (Or.inl rfl) d_Notes_areSo_71
set_option maxHeartbeats 4000000 in
set_option maxRecDepth 100000 in
theorem k_Notes_areSo_L3 (l : Launch) {p : Program} {e : Env} {s : State} {m : MethodId} {below : List Frame} {meth : Method} {c : Code} {b n : Nat} {C : CT} (hlo : 191 ≤ n) (x1 : Int) (k2 : Nat) (k3 : Nat) (k4 : Nat) (hx1 : InR x1) (hk2 : isTown k2) (hk3 : isScene k3) (hk4 : isTrail k4) (F : Cx b p m c b_Notes_areSo 7 s ([.ref (b + 172), vI x1, .ref (b + k2), .ref (b + k3), .ref (b + k4)] : List Value).toArray "WardFalls$Notes" C n 191) (hlk : meth.locks = false) (hr : meth.sig.returnType = some .boolean) {res : Mem × Int} : ∀ (fu : Nat) (M : Mem) (v5_ : Int) (hv5_ : InR v5_) (H : Heap) (locs : List Loc) (ls : Array Slot), St b C n M s H locs → lv_has ls 7 [(0, .ref (b + 172)), (1, vI x1), (2, .ref (b + k2)), (3, .ref (b + k3)), (4, .ref (b + k4)), (5, vI v5_)] → t_Notes_areSo_L3 x1 k2 k3 k4 fu M v5_ = some res → W p l e (headSpec (wsM y_Notes_areSo b_Notes_areSo 7 (some .boolean)) (rmD 4)).room s m ([.ref (b + 172), vI x1, .ref (b + k2), .ref (b + k3), .ref (b + k4)] : List Value).toArray below meth c H locs 0 0 (MQ below (QZ b C n res.1 res.2) ([.ref (b + 172), vI x1, .ref (b + k2), .ref (b + k3), .ref (b + k4)] : List Value).toArray s 0 0 (frb b)) (F0 m 3 ls []) := by
  intro fu
  induction fu with
  | zero => intro M v5_ hv5_ H locs ls hS hl hT; exact absurd hT (by simp [t_Notes_areSo_L3])
  | succ fu ih =>
    intro M v5_ hv5_ H locs ls hS hl hT
    rw [t_Notes_areSo_L3] at hT
    refine lv_iload F.hx F.hb d_Notes_areSo_3 (lv_at hl 5 rfl) ?_
    refine lv_aload_n F.hx F.hb d_Notes_areSo_5 rfl (lv_at hl 0 rfl) ?_
    refine r_get (v := vI (M.1 172 5)) (N := 7) (T := T5) (j := 5) F hS (show 172 < 191 by decide) (show shK 172 = 9 from rfl) (show shN 172 = 7 from rfl) rfl (Nat.le_of_ble_eq_true rfl) ing5 mw_371 (fv_int rfl) d_Notes_areSo_6 ?_
    have i1 := hS.rng 172 5
    refine r_icmp_ge (tgt := 78) F.hx F.hb hv5_ i1 d_Notes_areSo_9 (by decide) (fun c2 => ?_) (fun c2 => ?_)
    · replace hT := (if_pos c2).symm.trans hT
      refine r_iconst F.hx F.hb d_Notes_areSo_78 ?_
      cases hT
      exact r_zret F hlk hr hS (Or.inr rfl) d_Notes_areSo_79
    · replace hT := (if_neg c2).symm.trans hT
      refine lv_iload_n F.hx F.hb d_Notes_areSo_12 rfl (lv_at hl 1 rfl) ?_
      refine r_i2l F.hx F.hb d_Notes_areSo_13 ?_
      refine lv_iload F.hx F.hb d_Notes_areSo_14 (lv_at hl 5 rfl) ?_
      obtain ⟨q3, hq3⟩ : ∃ q, q = (t_WF_bitOf M (q_i2l x1) v5_) := ⟨_, rfl⟩
      replace hT := qlet_eq hT hq3
      refine r_backI F hS (r_runSN (As := [.long (q_i2l x1), vI v5_]) F hS (c_WF_bitOf l F.2.2.1 M (q_i2l x1) v5_ hv5_ _ hq3.symm) mw_773 mw_772 mw_1 gs_Notes_77 hd_WF_bitOf ⟨Nat.le_of_ble_eq_true rfl, Nat.le_of_ble_eq_true rfl⟩ rfl hl.1 (Nat.le_of_ble_eq_true rfl) ⟨Nat.zero_le _, Nat.zero_le _⟩ rfl d_Notes_areSo_16) (fun H locs hS h4 => ?_)
      refine r_iconst F.hx F.hb d_Notes_areSo_19 ?_
      refine r_icmp_ne (tgt := 72) F.hx F.hb h4 (inr_c rfl) d_Notes_areSo_20 (by decide) (fun c5 => ?_) (fun c5 => ?_)
      · replace hT := (if_neg c5).symm.trans hT
        exact k_Notes_areSo_L72 l hlo x1 k2 k3 k4 hx1 hk2 hk3 hk4 F hlk hr (fun a0_ a1_ => t_Notes_areSo_L3 x1 k2 k3 k4 fu a0_ a1_) ih M v5_ hv5_ _ _ _ hS (lv_sub hl [0, 1, 2, 3, 4, 5] rfl) hT
      · replace hT := (if_pos c5).symm.trans hT
        refine lv_aload F.hx F.hb d_Notes_areSo_23 (lv_at hl 4 rfl) ?_
        refine lv_aload_n F.hx F.hb d_Notes_areSo_25 rfl (lv_at hl 2 rfl) ?_
        refine lv_aload_n F.hx F.hb d_Notes_areSo_26 rfl (lv_at hl 3 rfl) ?_
        refine lv_aload_n F.hx F.hb d_Notes_areSo_27 rfl (lv_at hl 0 rfl) ?_
        refine r_get (v := .ref (b + 173)) (N := 7) (T := T5) (j := 0) F hS (show 172 < 191 by decide) (show shK 172 = 9 from rfl) (show shN 172 = 7 from rfl) rfl (Nat.le_of_ble_eq_true rfl) ing5 mw_364 (fv_sg rfl rfl rfl) d_Notes_areSo_28 ?_
        refine lv_iload F.hx F.hb d_Notes_areSo_31 (lv_at hl 5 rfl) ?_
        obtain ⟨q6, hq6⟩ : ∃ q, q = (t_WF_look M 173 24 v5_) := ⟨_, rfl⟩
        replace hT := qlet_eq hT hq6
        refine r_backI F hS (r_runSN (As := [.ref (b + 173), vI v5_]) F hS (c_WF_look l F.2.2.1 M 173 24 v5_ (show arrP 0 173 24 191 from ⟨rfl, rfl, by decide⟩) hv5_ _ hq6.symm) mw_519 mw_518 mw_1 gs_Notes_67 hd_WF_look ⟨Nat.le_of_ble_eq_true rfl, Nat.le_of_ble_eq_true rfl⟩ rfl hl.1 (Nat.le_of_ble_eq_true rfl) ⟨Nat.zero_le _, Nat.zero_le _⟩ rfl d_Notes_areSo_33) (fun H locs hS h7 => ?_)
        obtain ⟨q8, hq8, hT⟩ := q_obind hT
        refine r_backV F hS (r_runV (k := k4) (N := 9) (T := T12) (As := [.ref (b + k2), .ref (b + k3), vI q6]) F hS (Trail_lt hk4) (Trail_sh hk4) rfl (c_Trail_follow l F.2.2.1 M k4 k2 k3 q6 hk4 hk2 hk3 h7 _ hq8) gs_Notes_81 hd_Trail_follow ⟨Nat.le_of_ble_eq_true rfl, Nat.le_of_ble_eq_true rfl⟩ rfl hl.1 (Nat.le_of_ble_eq_true rfl) ⟨Nat.zero_le _, Nat.zero_le _⟩ rfl d_Notes_areSo_36) (fun H locs hS => ?_)
        refine lv_aload_n F.hx F.hb d_Notes_areSo_39 rfl (lv_at hl 0 rfl) ?_
        refine r_get (v := .ref (b + 174)) (N := 7) (T := T5) (j := 1) F hS (show 172 < 191 by decide) (show shK 172 = 9 from rfl) (show shN 172 = 7 from rfl) rfl (Nat.le_of_ble_eq_true rfl) ing5 mw_365 (fv_sg rfl rfl rfl) d_Notes_areSo_40 ?_
        refine lv_iload F.hx F.hb d_Notes_areSo_43 (lv_at hl 5 rfl) ?_
        obtain ⟨q10, hq10⟩ : ∃ q, q = (t_WF_look q8 174 24 v5_) := ⟨_, rfl⟩
        replace hT := qlet_eq hT hq10
        refine r_backI F hS (r_runSN (As := [.ref (b + 174), vI v5_]) F hS (c_WF_look l F.2.2.1 q8 174 24 v5_ (show arrP 0 174 24 191 from ⟨rfl, rfl, by decide⟩) hv5_ _ hq10.symm) mw_519 mw_518 mw_1 gs_Notes_67 hd_WF_look ⟨Nat.le_of_ble_eq_true rfl, Nat.le_of_ble_eq_true rfl⟩ rfl hl.1 (Nat.le_of_ble_eq_true rfl) ⟨Nat.zero_le _, Nat.zero_le _⟩ rfl d_Notes_areSo_45) (fun H locs hS h11 => ?_)
        refine lv_istore (lv' := [(6, vI q10), (0, .ref (b + 172)), (1, vI x1), (2, .ref (b + k2)), (3, .ref (b + k3)), (4, .ref (b + k4)), (5, vI v5_)]) F.hx F.hb d_Notes_areSo_48 hl (Nat.le_of_ble_eq_true rfl) rfl (fun ls hl => ?_)
        refine lv_aload F.hx F.hb d_Notes_areSo_50 (lv_at hl 5 rfl) ?_
        obtain ⟨q12, hq12⟩ : ∃ q, q = (t_Trail_end q8 k4) := ⟨_, rfl⟩
        replace hT := qlet_eq hT hq12
        refine r_backI F hS (r_runV (k := k4) (N := 9) (T := T12) (As := []) F hS (Trail_lt hk4) (Trail_sh hk4) rfl (c_Trail_end l F.2.2.1 q8 k4 hk4 _ hq12.symm) gs_Notes_86 hd_Trail_end ⟨Nat.le_of_ble_eq_true rfl, Nat.le_of_ble_eq_true rfl⟩ rfl hl.1 (Nat.le_of_ble_eq_true rfl) ⟨Nat.zero_le _, Nat.zero_le _⟩ rfl d_Notes_areSo_52) (fun H locs hS h13 => ?_)
        refine lv_iload F.hx F.hb d_Notes_areSo_55 (lv_at hl 0 rfl) ?_
        refine r_if_ge (tgt := 65) F.hx F.hb h11 d_Notes_areSo_57 (by decide) (fun c14 => ?_) (fun c14 => ?_)
        · replace hT := (if_pos c14).symm.trans hT
          refine lv_iload F.hx F.hb d_Notes_areSo_65 (lv_at hl 0 rfl) ?_
          exact k_Notes_areSo_L67 l hlo x1 k2 k3 k4 hx1 hk2 hk3 hk4 F hlk hr (fun a0_ a1_ => t_Notes_areSo_L3 x1 k2 k3 k4 fu a0_ a1_) ih q8 v5_ hv5_ q12 h13 q10 h11 _ _ _ hS (lv_sub hl [1, 2, 3, 4, 5, 6] rfl) hT
        · replace hT := (if_neg c14).symm.trans hT
          refine r_bipush F.hx F.hb d_Notes_areSo_60 rfl ?_
          refine lv_goto (tgt := 67) F.hx F.hb d_Notes_areSo_62 (by decide) ?_
          exact k_Notes_areSo_L67 l hlo x1 k2 k3 k4 hx1 hk2 hk3 hk4 F hlk hr (fun a0_ a1_ => t_Notes_areSo_L3 x1 k2 k3 k4 fu a0_ a1_) ih q8 v5_ hv5_ q12 h13 (-2) (inr_c rfl) _ _ _ hS (lv_sub hl [1, 2, 3, 4, 5, 6] rfl) hT
set_option maxHeartbeats 4000000 in
set_option maxRecDepth 100000 in
theorem c_Notes_areSo (l : Launch) {b n : Nat} {C : CT} (hlo : 191 ≤ n) (M : Mem) (x1 : Int) (k2 : Nat) (k3 : Nat) (k4 : Nat) (hx1 : InR x1) (hk2 : isTown k2) (hk3 : isScene k3) (hk4 : isTrail k4) (res : Mem × Int) (hT : t_Notes_areSo M x1 k2 k3 k4 = some res) : CM l b C n 4 y_Notes_areSo b_Notes_areSo 7 (some .boolean) [.ref (b + 172), vI x1, .ref (b + k2), .ref (b + k3), .ref (b + k4)] M (QZ b C n res.1 res.2) := by
  refine CM.of (lo := 191) (ow := "WardFalls$Notes") (by decide) rfl (Nat.le_of_ble_eq_true rfl) hlo (fun p e s m below meth c F hlk hr hS ls hl => ?_)
  have hl : lv_has ls 7 [(0, .ref (b + 172)), (1, vI x1), (2, .ref (b + k2)), (3, .ref (b + k3)), (4, .ref (b + k4))] := hl
  unfold t_Notes_areSo at hT
  refine r_iconst F.hx F.hb d_Notes_areSo_0 ?_
  refine lv_istore (lv' := [(5, vI 0), (0, .ref (b + 172)), (1, vI x1), (2, .ref (b + k2)), (3, .ref (b + k3)), (4, .ref (b + k4))]) F.hx F.hb d_Notes_areSo_1 hl (Nat.le_of_ble_eq_true rfl) rfl (fun ls hl => ?_)
  exact k_Notes_areSo_L3 l hlo x1 k2 k3 k4 hx1 hk2 hk3 hk4 F hlk hr FU M 0 (inr_c rfl) _ _ _ hS (lv_sub hl [1, 2, 3, 4, 5, 0] rfl) hT
theorem wn_Notes_findFits_0 : ∀ i, i < 96 → bA b_Notes_findFits (0 + i) = wB [45, 44, 182, 0, 35, 42, 182, 0, 41, 54, 5, 4, 54, 6, 3, 54, 7, 21, 7, 43, 180, 0, 45, 162, 0, 15, 21, 6, 8, 104, 54, 6, 132, 7, 1, 167, 255, 238, 42, 3, 181, 0, 50, 42, 180, 0, 21, 3, 184, 0, 53, 3, 54, 7, 21, 7, 21, 6, 162, 0, 87, 43, 45, 21, 7, 184, 0, 59, 42, 21, 5, 43, 45, 25, 4, 182, 0, 63, 153, 0, 61, 42, 89, 180, 0, 50, 4, 96, 181, 0, 50, 3, 54, 8, 21, 8] i := wB_of (by decide +kernel)
theorem d_Notes_findFits_0 : decode b_Notes_findFits 0 = .ok (.aload_n 3, 1) := dc_45 (q0_win (r := 0) wn_Notes_findFits_0 (by decide +kernel))
theorem d_Notes_findFits_1 : decode b_Notes_findFits 1 = .ok (.aload_n 2, 1) := dc_44 (q0_win (r := 1) wn_Notes_findFits_0 (by decide +kernel))
theorem d_Notes_findFits_2 : decode b_Notes_findFits 2 = .ok (.invokevirtual 35, 3) := dc_182 (qU2_win (r := 2) wn_Notes_findFits_0 (by decide +kernel))
theorem d_Notes_findFits_5 : decode b_Notes_findFits 5 = .ok (.aload_n 0, 1) := dc_42 (q0_win (r := 5) wn_Notes_findFits_0 (by decide +kernel))
theorem d_Notes_findFits_6 : decode b_Notes_findFits 6 = .ok (.invokevirtual 41, 3) := dc_182 (qU2_win (r := 6) wn_Notes_findFits_0 (by decide +kernel))
theorem d_Notes_findFits_9 : decode b_Notes_findFits 9 = .ok (.istore 5, 2) := dc_54 (qU1_win (r := 9) wn_Notes_findFits_0 (by decide +kernel))
theorem d_Notes_findFits_11 : decode b_Notes_findFits 11 = .ok (.iconst 1, 1) := dc_4 (q0_win (r := 11) wn_Notes_findFits_0 (by decide +kernel))
theorem d_Notes_findFits_12 : decode b_Notes_findFits 12 = .ok (.istore 6, 2) := dc_54 (qU1_win (r := 12) wn_Notes_findFits_0 (by decide +kernel))
theorem d_Notes_findFits_14 : decode b_Notes_findFits 14 = .ok (.iconst 0, 1) := dc_3 (q0_win (r := 14) wn_Notes_findFits_0 (by decide +kernel))
theorem d_Notes_findFits_15 : decode b_Notes_findFits 15 = .ok (.istore 7, 2) := dc_54 (qU1_win (r := 15) wn_Notes_findFits_0 (by decide +kernel))
theorem d_Notes_findFits_17 : decode b_Notes_findFits 17 = .ok (.iload 7, 2) := dc_21 (qU1_win (r := 17) wn_Notes_findFits_0 (by decide +kernel))
theorem d_Notes_findFits_19 : decode b_Notes_findFits 19 = .ok (.aload_n 1, 1) := dc_43 (q0_win (r := 19) wn_Notes_findFits_0 (by decide +kernel))
theorem d_Notes_findFits_20 : decode b_Notes_findFits 20 = .ok (.getfield 45, 3) := dc_180 (qU2_win (r := 20) wn_Notes_findFits_0 (by decide +kernel))
theorem d_Notes_findFits_23 : decode b_Notes_findFits 23 = .ok (.if_icmp .ge 15, 3) := dc_162 (qS2_win (r := 23) wn_Notes_findFits_0 (by decide +kernel))
theorem d_Notes_findFits_26 : decode b_Notes_findFits 26 = .ok (.iload 6, 2) := dc_21 (qU1_win (r := 26) wn_Notes_findFits_0 (by decide +kernel))
theorem d_Notes_findFits_28 : decode b_Notes_findFits 28 = .ok (.iconst 5, 1) := dc_8 (q0_win (r := 28) wn_Notes_findFits_0 (by decide +kernel))
theorem d_Notes_findFits_29 : decode b_Notes_findFits 29 = .ok (.imul, 1) := dc_104 (q0_win (r := 29) wn_Notes_findFits_0 (by decide +kernel))
theorem d_Notes_findFits_30 : decode b_Notes_findFits 30 = .ok (.istore 6, 2) := dc_54 (qU1_win (r := 30) wn_Notes_findFits_0 (by decide +kernel))
theorem d_Notes_findFits_32 : decode b_Notes_findFits 32 = .ok (.iinc 7 1, 3) := dc_132 (qI_win (r := 32) wn_Notes_findFits_0 (by decide +kernel))
theorem d_Notes_findFits_35 : decode b_Notes_findFits 35 = .ok (.goto (-18), 3) := dc_167 (qS2_win (r := 35) wn_Notes_findFits_0 (by decide +kernel))
theorem d_Notes_findFits_38 : decode b_Notes_findFits 38 = .ok (.aload_n 0, 1) := dc_42 (q0_win (r := 38) wn_Notes_findFits_0 (by decide +kernel))
theorem d_Notes_findFits_39 : decode b_Notes_findFits 39 = .ok (.iconst 0, 1) := dc_3 (q0_win (r := 39) wn_Notes_findFits_0 (by decide +kernel))
theorem d_Notes_findFits_40 : decode b_Notes_findFits 40 = .ok (.putfield 50, 3) := dc_181 (qU2_win (r := 40) wn_Notes_findFits_0 (by decide +kernel))
theorem d_Notes_findFits_43 : decode b_Notes_findFits 43 = .ok (.aload_n 0, 1) := dc_42 (q0_win (r := 43) wn_Notes_findFits_0 (by decide +kernel))
theorem d_Notes_findFits_44 : decode b_Notes_findFits 44 = .ok (.getfield 21, 3) := dc_180 (qU2_win (r := 44) wn_Notes_findFits_0 (by decide +kernel))
theorem d_Notes_findFits_47 : decode b_Notes_findFits 47 = .ok (.iconst 0, 1) := dc_3 (q0_win (r := 47) wn_Notes_findFits_0 (by decide +kernel))
theorem d_Notes_findFits_48 : decode b_Notes_findFits 48 = .ok (.invokestatic 53, 3) := dc_184 (qU2_win (r := 48) wn_Notes_findFits_0 (by decide +kernel))
theorem d_Notes_findFits_51 : decode b_Notes_findFits 51 = .ok (.iconst 0, 1) := dc_3 (q0_win (r := 51) wn_Notes_findFits_0 (by decide +kernel))
theorem d_Notes_findFits_52 : decode b_Notes_findFits 52 = .ok (.istore 7, 2) := dc_54 (qU1_win (r := 52) wn_Notes_findFits_0 (by decide +kernel))
theorem d_Notes_findFits_54 : decode b_Notes_findFits 54 = .ok (.iload 7, 2) := dc_21 (qU1_win (r := 54) wn_Notes_findFits_0 (by decide +kernel))
theorem d_Notes_findFits_56 : decode b_Notes_findFits 56 = .ok (.iload 6, 2) := dc_21 (qU1_win (r := 56) wn_Notes_findFits_0 (by decide +kernel))
theorem d_Notes_findFits_58 : decode b_Notes_findFits 58 = .ok (.if_icmp .ge 87, 3) := dc_162 (qS2_win (r := 58) wn_Notes_findFits_0 (by decide +kernel))
theorem d_Notes_findFits_61 : decode b_Notes_findFits 61 = .ok (.aload_n 1, 1) := dc_43 (q0_win (r := 61) wn_Notes_findFits_0 (by decide +kernel))
theorem d_Notes_findFits_62 : decode b_Notes_findFits 62 = .ok (.aload_n 3, 1) := dc_45 (q0_win (r := 62) wn_Notes_findFits_0 (by decide +kernel))
theorem d_Notes_findFits_63 : decode b_Notes_findFits 63 = .ok (.iload 7, 2) := dc_21 (qU1_win (r := 63) wn_Notes_findFits_0 (by decide +kernel))
theorem d_Notes_findFits_65 : decode b_Notes_findFits 65 = .ok (.invokestatic 59, 3) := dc_184 (qU2_win (r := 65) wn_Notes_findFits_0 (by decide +kernel))
theorem d_Notes_findFits_68 : decode b_Notes_findFits 68 = .ok (.aload_n 0, 1) := dc_42 (q0_win (r := 68) wn_Notes_findFits_0 (by decide +kernel))
theorem d_Notes_findFits_69 : decode b_Notes_findFits 69 = .ok (.iload 5, 2) := dc_21 (qU1_win (r := 69) wn_Notes_findFits_0 (by decide +kernel))
theorem d_Notes_findFits_71 : decode b_Notes_findFits 71 = .ok (.aload_n 1, 1) := dc_43 (q0_win (r := 71) wn_Notes_findFits_0 (by decide +kernel))
theorem d_Notes_findFits_72 : decode b_Notes_findFits 72 = .ok (.aload_n 3, 1) := dc_45 (q0_win (r := 72) wn_Notes_findFits_0 (by decide +kernel))
theorem d_Notes_findFits_73 : decode b_Notes_findFits 73 = .ok (.aload 4, 2) := dc_25 (qU1_win (r := 73) wn_Notes_findFits_0 (by decide +kernel))
theorem d_Notes_findFits_75 : decode b_Notes_findFits 75 = .ok (.invokevirtual 63, 3) := dc_182 (qU2_win (r := 75) wn_Notes_findFits_0 (by decide +kernel))
theorem d_Notes_findFits_78 : decode b_Notes_findFits 78 = .ok (.ifCond .eq 61, 3) := dc_153 (qS2_win (r := 78) wn_Notes_findFits_0 (by decide +kernel))
theorem d_Notes_findFits_81 : decode b_Notes_findFits 81 = .ok (.aload_n 0, 1) := dc_42 (q0_win (r := 81) wn_Notes_findFits_0 (by decide +kernel))
theorem d_Notes_findFits_82 : decode b_Notes_findFits 82 = .ok (.dup, 1) := dc_89 (q0_win (r := 82) wn_Notes_findFits_0 (by decide +kernel))
theorem d_Notes_findFits_83 : decode b_Notes_findFits 83 = .ok (.getfield 50, 3) := dc_180 (qU2_win (r := 83) wn_Notes_findFits_0 (by decide +kernel))
theorem d_Notes_findFits_86 : decode b_Notes_findFits 86 = .ok (.iconst 1, 1) := dc_4 (q0_win (r := 86) wn_Notes_findFits_0 (by decide +kernel))
theorem d_Notes_findFits_87 : decode b_Notes_findFits 87 = .ok (.iadd, 1) := dc_96 (q0_win (r := 87) wn_Notes_findFits_0 (by decide +kernel))
theorem d_Notes_findFits_88 : decode b_Notes_findFits 88 = .ok (.putfield 50, 3) := dc_181 (qU2_win (r := 88) wn_Notes_findFits_0 (by decide +kernel))
theorem d_Notes_findFits_91 : decode b_Notes_findFits 91 = .ok (.iconst 0, 1) := dc_3 (q0_win (r := 91) wn_Notes_findFits_0 (by decide +kernel))
theorem d_Notes_findFits_92 : decode b_Notes_findFits 92 = .ok (.istore 8, 2) := dc_54 (qU1_win (r := 92) wn_Notes_findFits_0 (by decide +kernel))
theorem d_Notes_findFits_94 : decode b_Notes_findFits 94 = .ok (.iload 8, 2) := dc_21 (qU1_win (r := 94) wn_Notes_findFits_0 (by decide +kernel))
theorem wn_Notes_findFits_96 : ∀ i, i < 50 → bA b_Notes_findFits (96 + i) = wB [43, 180, 0, 45, 162, 0, 39, 42, 180, 0, 21, 21, 8, 42, 180, 0, 21, 21, 8, 184, 0, 67, 4, 45, 180, 0, 71, 21, 8, 184, 0, 67, 120, 128, 184, 0, 31, 132, 8, 1, 167, 255, 214, 132, 7, 1, 167, 255, 168, 177] i := wB_of (by decide +kernel)
theorem d_Notes_findFits_96 : decode b_Notes_findFits 96 = .ok (.aload_n 1, 1) := dc_43 (q0_win (r := 0) wn_Notes_findFits_96 (by decide +kernel))
theorem d_Notes_findFits_97 : decode b_Notes_findFits 97 = .ok (.getfield 45, 3) := dc_180 (qU2_win (r := 1) wn_Notes_findFits_96 (by decide +kernel))
theorem d_Notes_findFits_100 : decode b_Notes_findFits 100 = .ok (.if_icmp .ge 39, 3) := dc_162 (qS2_win (r := 4) wn_Notes_findFits_96 (by decide +kernel))
theorem d_Notes_findFits_103 : decode b_Notes_findFits 103 = .ok (.aload_n 0, 1) := dc_42 (q0_win (r := 7) wn_Notes_findFits_96 (by decide +kernel))
theorem d_Notes_findFits_104 : decode b_Notes_findFits 104 = .ok (.getfield 21, 3) := dc_180 (qU2_win (r := 8) wn_Notes_findFits_96 (by decide +kernel))
theorem d_Notes_findFits_107 : decode b_Notes_findFits 107 = .ok (.iload 8, 2) := dc_21 (qU1_win (r := 11) wn_Notes_findFits_96 (by decide +kernel))
theorem d_Notes_findFits_109 : decode b_Notes_findFits 109 = .ok (.aload_n 0, 1) := dc_42 (q0_win (r := 13) wn_Notes_findFits_96 (by decide +kernel))
theorem d_Notes_findFits_110 : decode b_Notes_findFits 110 = .ok (.getfield 21, 3) := dc_180 (qU2_win (r := 14) wn_Notes_findFits_96 (by decide +kernel))
theorem d_Notes_findFits_113 : decode b_Notes_findFits 113 = .ok (.iload 8, 2) := dc_21 (qU1_win (r := 17) wn_Notes_findFits_96 (by decide +kernel))
theorem d_Notes_findFits_115 : decode b_Notes_findFits 115 = .ok (.invokestatic 67, 3) := dc_184 (qU2_win (r := 19) wn_Notes_findFits_96 (by decide +kernel))
theorem d_Notes_findFits_118 : decode b_Notes_findFits 118 = .ok (.iconst 1, 1) := dc_4 (q0_win (r := 22) wn_Notes_findFits_96 (by decide +kernel))
theorem d_Notes_findFits_119 : decode b_Notes_findFits 119 = .ok (.aload_n 3, 1) := dc_45 (q0_win (r := 23) wn_Notes_findFits_96 (by decide +kernel))
theorem d_Notes_findFits_120 : decode b_Notes_findFits 120 = .ok (.getfield 71, 3) := dc_180 (qU2_win (r := 24) wn_Notes_findFits_96 (by decide +kernel))
theorem d_Notes_findFits_123 : decode b_Notes_findFits 123 = .ok (.iload 8, 2) := dc_21 (qU1_win (r := 27) wn_Notes_findFits_96 (by decide +kernel))
theorem d_Notes_findFits_125 : decode b_Notes_findFits 125 = .ok (.invokestatic 67, 3) := dc_184 (qU2_win (r := 29) wn_Notes_findFits_96 (by decide +kernel))
theorem d_Notes_findFits_128 : decode b_Notes_findFits 128 = .ok (.ishl, 1) := dc_120 (q0_win (r := 32) wn_Notes_findFits_96 (by decide +kernel))
theorem d_Notes_findFits_129 : decode b_Notes_findFits 129 = .ok (.ior, 1) := dc_128 (q0_win (r := 33) wn_Notes_findFits_96 (by decide +kernel))
theorem d_Notes_findFits_130 : decode b_Notes_findFits 130 = .ok (.invokestatic 31, 3) := dc_184 (qU2_win (r := 34) wn_Notes_findFits_96 (by decide +kernel))
theorem d_Notes_findFits_133 : decode b_Notes_findFits 133 = .ok (.iinc 8 1, 3) := dc_132 (qI_win (r := 37) wn_Notes_findFits_96 (by decide +kernel))
theorem d_Notes_findFits_136 : decode b_Notes_findFits 136 = .ok (.goto (-42), 3) := dc_167 (qS2_win (r := 40) wn_Notes_findFits_96 (by decide +kernel))
theorem d_Notes_findFits_139 : decode b_Notes_findFits 139 = .ok (.iinc 7 1, 3) := dc_132 (qI_win (r := 43) wn_Notes_findFits_96 (by decide +kernel))
theorem d_Notes_findFits_142 : decode b_Notes_findFits 142 = .ok (.goto (-88), 3) := dc_167 (qS2_win (r := 46) wn_Notes_findFits_96 (by decide +kernel))
theorem d_Notes_findFits_145 : decode b_Notes_findFits 145 = .ok (.return_, 1) := dc_177 (q0_win (r := 49) wn_Notes_findFits_96 (by decide +kernel))
def t_Notes_findFits_L139 (k1 : Nat) (k2 : Nat) (k3 : Nat) (k4 : Nat) (bk54 : Mem → Int → Int → Int → Option (Mem)) (M : Mem) (v4_ : Int) (v5_ : Int) (v6_ : Int) : Option (Mem) := (bk54 M v4_ v5_ (w32 (v6_ + 1)))
def t_Notes_findFits_L94 (k1 : Nat) (k2 : Nat) (k3 : Nat) (k4 : Nat) (bk54 : Mem → Int → Int → Int → Option (Mem)) : Nat → Mem → Int → Int → Int → Int → Option (Mem)
  | 0, _, _, _, _, _ => none
  | fu + 1, M, v4_, v5_, v6_, v7_ => (if (M.1 k1 14) ≤ v7_ then (t_Notes_findFits_L139 k1 k2 k3 k4 bk54 M v4_ v5_ v6_) else (qlet (t_WF_look M 176 4 v7_) fun q20 => (qlet (t_WF_look M (k3 + 1) 4 v7_) fun q22 => (qlet (t_WF_put M 176 4 v7_ (q_or q20 (q_shl 1 q22))) fun q24 => (t_Notes_findFits_L94 k1 k2 k3 k4 bk54 fu q24 v4_ v5_ v6_ (w32 (v7_ + 1)))))))
def t_Notes_findFits_L54 (k1 : Nat) (k2 : Nat) (k3 : Nat) (k4 : Nat)  : Nat → Mem → Int → Int → Int → Option (Mem)
  | 0, _, _, _, _ => none
  | fu + 1, M, v4_, v5_, v6_ => (if v5_ ≤ v6_ then (some M) else (obind (t_Notes_setDowns M k1 k3 v6_) fun q11 => (obind (t_Notes_areSo q11 v4_ k1 k3 k4) fun q13 => (if (q13.2) = 0 then (t_Notes_findFits_L139 k1 k2 k3 k4 (fun a0_ a1_ a2_ a3_ => t_Notes_findFits_L54 k1 k2 k3 k4 fu a0_ a1_ a2_ a3_) (q13.1) v4_ v5_ v6_) else (qlet (setI (q13.1) 172 4 (w32 (((q13.1).1 172 4) + 1))) fun M17 => (t_Notes_findFits_L94 k1 k2 k3 k4 (fun a0_ a1_ a2_ a3_ => t_Notes_findFits_L54 k1 k2 k3 k4 fu a0_ a1_ a2_ a3_) FU M17 v4_ v5_ v6_ 0))))))
def t_Notes_findFits_L17 (k1 : Nat) (k2 : Nat) (k3 : Nat) (k4 : Nat)  : Nat → Mem → Int → Int → Int → Option (Mem)
  | 0, _, _, _, _ => none
  | fu + 1, M, v4_, v5_, v6_ => (if (M.1 k1 14) ≤ v6_ then (qlet (setI M 172 4 0) fun M7 => (obind (t_Arrays_fill M7 176 4 0) fun q8 => (t_Notes_findFits_L54 k1 k2 k3 k4 FU q8 v4_ v5_ 0))) else (t_Notes_findFits_L17 k1 k2 k3 k4 fu M v4_ (w32 (v5_ * 5)) (w32 (v6_ + 1))))
def t_Notes_findFits (M : Mem) (k1 : Nat) (k2 : Nat) (k3 : Nat) (k4 : Nat) : Option (Mem) := (qlet (t_Scene_copy M k3 k2) fun q1 => (obind (t_Notes_knownBits q1) fun q3 => (t_Notes_findFits_L17 k1 k2 k3 k4 FU q1 q3 1 0)))
set_option maxHeartbeats 4000000 in
set_option maxRecDepth 100000 in
theorem k_Notes_findFits_L139 (l : Launch) {p : Program} {e : Env} {s : State} {m : MethodId} {below : List Frame} {meth : Method} {c : Code} {b n : Nat} {C : CT} (hlo : 191 ≤ n) (k1 : Nat) (k2 : Nat) (k3 : Nat) (k4 : Nat) (hk1 : isTown k1) (hk2 : isScene k2) (hk3 : isScene k3) (hk4 : isTrail k4) (F : Cx b p m c b_Notes_findFits 9 s ([.ref (b + 172), .ref (b + k1), .ref (b + k2), .ref (b + k3), .ref (b + k4)] : List Value).toArray "WardFalls$Notes" C n 191) (hlk : meth.locks = false) (hr : meth.sig.returnType = none) {res : Mem} (bk54 : Mem → Int → Int → Int → Option (Mem)) (hbk54 : ∀ (M : Mem) (v4_ : Int) (hv4_ : InR v4_) (v5_ : Int) (hv5_ : InR v5_) (v6_ : Int) (hv6_ : InR v6_) (H : Heap) (locs : List Loc) (ls : Array Slot), St b C n M s H locs → lv_has ls 9 [(0, .ref (b + 172)), (1, .ref (b + k1)), (3, .ref (b + k3)), (4, .ref (b + k4)), (5, vI v4_), (6, vI v5_), (7, vI v6_)] → bk54 M v4_ v5_ v6_ = some res → W p l e (headSpec (wsM y_Notes_findFits b_Notes_findFits 9 (none)) (rmD 5)).room s m ([.ref (b + 172), .ref (b + k1), .ref (b + k2), .ref (b + k3), .ref (b + k4)] : List Value).toArray below meth c H locs 0 0 (MQ below (QV b C n res) ([.ref (b + 172), .ref (b + k1), .ref (b + k2), .ref (b + k3), .ref (b + k4)] : List Value).toArray s 0 0 (frb b)) (F0 m 54 ls [])) (M : Mem) (v4_ : Int) (hv4_ : InR v4_) (v5_ : Int) (hv5_ : InR v5_) (v6_ : Int) (hv6_ : InR v6_) (H : Heap) (locs : List Loc) (ls : Array Slot) (hS : St b C n M s H locs) (hl : lv_has ls 9 [(0, .ref (b + 172)), (1, .ref (b + k1)), (3, .ref (b + k3)), (4, .ref (b + k4)), (5, vI v4_), (6, vI v5_), (7, vI v6_)]) (hT : t_Notes_findFits_L139 k1 k2 k3 k4 bk54 M v4_ v5_ v6_ = some res) : W p l e (headSpec (wsM y_Notes_findFits b_Notes_findFits 9 (none)) (rmD 5)).room s m ([.ref (b + 172), .ref (b + k1), .ref (b + k2), .ref (b + k3), .ref (b + k4)] : List Value).toArray below meth c H locs 0 0 (MQ below (QV b C n res) ([.ref (b + 172), .ref (b + k1), .ref (b + k2), .ref (b + k3), .ref (b + k4)] : List Value).toArray s 0 0 (frb b)) (F0 m 139 ls []) := by
  unfold t_Notes_findFits_L139 at hT
  refine lv_iinc (v := Int32.ofInt (w32 (v6_ + 1))) (lv' := [(7, vI (w32 (v6_ + 1))), (0, .ref (b + 172)), (1, .ref (b + k1)), (3, .ref (b + k3)), (4, .ref (b + k4)), (5, vI v4_), (6, vI v5_)]) F.hx F.hb d_Notes_findFits_139 hl (k := 6) rfl (q_of_add _ _) (Nat.le_of_ble_eq_true rfl) rfl (fun ls hl => ?_)
  refine lv_goto (tgt := 54) F.hx F.hb d_Notes_findFits_142 (by decide) ?_
  exact hbk54 M v4_ hv4_ v5_ hv5_ (w32 (v6_ + 1)) (inr_w32 _) _ _ _ hS (lv_sub hl [1, 2, 3, 4, 5, 6, 0] rfl) hT
set_option maxHeartbeats 4000000 in
set_option maxRecDepth 100000 in
theorem k_Notes_findFits_L94 (l : Launch) {p : Program} {e : Env} {s : State} {m : MethodId} {below : List Frame} {meth : Method} {c : Code} {b n : Nat} {C : CT} (hlo : 191 ≤ n) (k1 : Nat) (k2 : Nat) (k3 : Nat) (k4 : Nat) (hk1 : isTown k1) (hk2 : isScene k2) (hk3 : isScene k3) (hk4 : isTrail k4) (F : Cx b p m c b_Notes_findFits 9 s ([.ref (b + 172), .ref (b + k1), .ref (b + k2), .ref (b + k3), .ref (b + k4)] : List Value).toArray "WardFalls$Notes" C n 191) (hlk : meth.locks = false) (hr : meth.sig.returnType = none) {res : Mem} (bk54 : Mem → Int → Int → Int → Option (Mem)) (hbk54 : ∀ (M : Mem) (v4_ : Int) (hv4_ : InR v4_) (v5_ : Int) (hv5_ : InR v5_) (v6_ : Int) (hv6_ : InR v6_) (H : Heap) (locs : List Loc) (ls : Array Slot), St b C n M s H locs → lv_has ls 9 [(0, .ref (b + 172)), (1, .ref (b + k1)), (3, .ref (b + k3)), (4, .ref (b + k4)), (5, vI v4_), (6, vI v5_), (7, vI v6_)] → bk54 M v4_ v5_ v6_ = some res → W p l e (headSpec (wsM y_Notes_findFits b_Notes_findFits 9 (none)) (rmD 5)).room s m ([.ref (b + 172), .ref (b + k1), .ref (b + k2), .ref (b + k3), .ref (b + k4)] : List Value).toArray below meth c H locs 0 0 (MQ below (QV b C n res) ([.ref (b + 172), .ref (b + k1), .ref (b + k2), .ref (b + k3), .ref (b + k4)] : List Value).toArray s 0 0 (frb b)) (F0 m 54 ls [])) : ∀ (fu : Nat) (M : Mem) (v4_ : Int) (hv4_ : InR v4_) (v5_ : Int) (hv5_ : InR v5_) (v6_ : Int) (hv6_ : InR v6_) (v7_ : Int) (hv7_ : InR v7_) (H : Heap) (locs : List Loc) (ls : Array Slot), St b C n M s H locs → lv_has ls 9 [(0, .ref (b + 172)), (1, .ref (b + k1)), (3, .ref (b + k3)), (4, .ref (b + k4)), (5, vI v4_), (6, vI v5_), (7, vI v6_), (8, vI v7_)] → t_Notes_findFits_L94 k1 k2 k3 k4 bk54 fu M v4_ v5_ v6_ v7_ = some res → W p l e (headSpec (wsM y_Notes_findFits b_Notes_findFits 9 (none)) (rmD 5)).room s m ([.ref (b + 172), .ref (b + k1), .ref (b + k2), .ref (b + k3), .ref (b + k4)] : List Value).toArray below meth c H locs 0 0 (MQ below (QV b C n res) ([.ref (b + 172), .ref (b + k1), .ref (b + k2), .ref (b + k3), .ref (b + k4)] : List Value).toArray s 0 0 (frb b)) (F0 m 94 ls []) := by
  intro fu
  induction fu with
  | zero => intro M v4_ hv4_ v5_ hv5_ v6_ hv6_ v7_ hv7_ H locs ls hS hl hT; exact absurd hT (by simp [t_Notes_findFits_L94])
  | succ fu ih =>
    intro M v4_ hv4_ v5_ hv5_ v6_ hv6_ v7_ hv7_ H locs ls hS hl hT
    rw [t_Notes_findFits_L94] at hT
    refine lv_iload F.hx F.hb d_Notes_findFits_94 (lv_at hl 7 rfl) ?_
    refine lv_aload_n F.hx F.hb d_Notes_findFits_96 rfl (lv_at hl 1 rfl) ?_
    refine r_get (v := vI (M.1 k1 14)) (N := 20) (T := T11) (j := 14) F hS (Town_lt hk1) (Town_sh hk1) (Town_N hk1) rfl (Nat.le_of_ble_eq_true rfl) ing11 mw_136 (fv_int rfl) d_Notes_findFits_97 ?_
    have i18 := hS.rng k1 14
    refine r_icmp_ge (tgt := 139) F.hx F.hb hv7_ i18 d_Notes_findFits_100 (by decide) (fun c19 => ?_) (fun c19 => ?_)
    · replace hT := (if_pos c19).symm.trans hT
      exact k_Notes_findFits_L139 l hlo k1 k2 k3 k4 hk1 hk2 hk3 hk4 F hlk hr bk54 hbk54 M v4_ hv4_ v5_ hv5_ v6_ hv6_ _ _ _ hS (lv_sub hl [0, 1, 2, 3, 4, 5, 6] rfl) hT
    · replace hT := (if_neg c19).symm.trans hT
      refine lv_aload_n F.hx F.hb d_Notes_findFits_103 rfl (lv_at hl 0 rfl) ?_
      refine r_get (v := .ref (b + 176)) (N := 7) (T := T5) (j := 3) F hS (show 172 < 191 by decide) (show shK 172 = 9 from rfl) (show shN 172 = 7 from rfl) rfl (Nat.le_of_ble_eq_true rfl) ing5 mw_367 (fv_sg rfl rfl rfl) d_Notes_findFits_104 ?_
      refine lv_iload F.hx F.hb d_Notes_findFits_107 (lv_at hl 7 rfl) ?_
      refine lv_aload_n F.hx F.hb d_Notes_findFits_109 rfl (lv_at hl 0 rfl) ?_
      refine r_get (v := .ref (b + 176)) (N := 7) (T := T5) (j := 3) F hS (show 172 < 191 by decide) (show shK 172 = 9 from rfl) (show shN 172 = 7 from rfl) rfl (Nat.le_of_ble_eq_true rfl) ing5 mw_367 (fv_sg rfl rfl rfl) d_Notes_findFits_110 ?_
      refine lv_iload F.hx F.hb d_Notes_findFits_113 (lv_at hl 7 rfl) ?_
      obtain ⟨q20, hq20⟩ : ∃ q, q = (t_WF_look M 176 4 v7_) := ⟨_, rfl⟩
      replace hT := qlet_eq hT hq20
      refine r_backI F hS (r_runSN (As := [.ref (b + 176), vI v7_]) F hS (c_WF_look l F.2.2.1 M 176 4 v7_ (show arrP 0 176 4 191 from ⟨rfl, rfl, by decide⟩) hv7_ _ hq20.symm) mw_519 mw_518 mw_1 gs_Notes_67 hd_WF_look ⟨Nat.le_of_ble_eq_true rfl, Nat.le_of_ble_eq_true rfl⟩ rfl hl.1 (Nat.le_of_ble_eq_true rfl) ⟨Nat.zero_le _, Nat.zero_le _⟩ rfl d_Notes_findFits_115) (fun H locs hS h21 => ?_)
      refine r_iconst F.hx F.hb d_Notes_findFits_118 ?_
      refine lv_aload_n F.hx F.hb d_Notes_findFits_119 rfl (lv_at hl 2 rfl) ?_
      refine r_get (v := .ref (b + (k3 + 1))) (N := 7) (T := T9) (j := 0) F hS (Scene_lt hk3) (Scene_sh hk3) (Scene_N hk3) rfl (Nat.le_of_ble_eq_true rfl) ing9 mw_274 (Scene_g0 hk3 _) d_Notes_findFits_120 ?_
      refine lv_iload F.hx F.hb d_Notes_findFits_123 (lv_at hl 7 rfl) ?_
      obtain ⟨q22, hq22⟩ : ∃ q, q = (t_WF_look M (k3 + 1) 4 v7_) := ⟨_, rfl⟩
      replace hT := qlet_eq hT hq22
      refine r_backI F hS (r_runSN (As := [.ref (b + (k3 + 1)), vI v7_]) F hS (c_WF_look l F.2.2.1 M (k3 + 1) 4 v7_ (Scene_f0 hk3) hv7_ _ hq22.symm) mw_519 mw_518 mw_1 gs_Notes_67 hd_WF_look ⟨Nat.le_of_ble_eq_true rfl, Nat.le_of_ble_eq_true rfl⟩ rfl hl.1 (Nat.le_of_ble_eq_true rfl) ⟨Nat.zero_le _, Nat.zero_le _⟩ rfl d_Notes_findFits_125) (fun H locs hS h23 => ?_)
      refine r_ishl F.hx F.hb d_Notes_findFits_128 ?_
      refine r_ior F.hx F.hb d_Notes_findFits_129 ?_
      obtain ⟨q24, hq24⟩ : ∃ q, q = (t_WF_put M 176 4 v7_ (q_or q20 (q_shl 1 q22))) := ⟨_, rfl⟩
      replace hT := qlet_eq hT hq24
      refine r_backV F hS (r_runSN (As := [.ref (b + 176), vI v7_, vI (q_or q20 (q_shl 1 q22))]) F hS (c_WF_put l F.2.2.1 M 176 4 v7_ (q_or q20 (q_shl 1 q22)) (show arrP 0 176 4 191 from ⟨rfl, rfl, by decide⟩) hv7_ (q_inr_toInt _) _ hq24.symm) mw_512 mw_511 mw_1 gs_Notes_31 hd_WF_put ⟨Nat.le_of_ble_eq_true rfl, Nat.le_of_ble_eq_true rfl⟩ rfl hl.1 (Nat.le_of_ble_eq_true rfl) ⟨Nat.zero_le _, Nat.zero_le _⟩ rfl d_Notes_findFits_130) (fun H locs hS => ?_)
      refine lv_iinc (v := Int32.ofInt (w32 (v7_ + 1))) (lv' := [(8, vI (w32 (v7_ + 1))), (0, .ref (b + 172)), (1, .ref (b + k1)), (3, .ref (b + k3)), (4, .ref (b + k4)), (5, vI v4_), (6, vI v5_), (7, vI v6_)]) F.hx F.hb d_Notes_findFits_133 hl (k := 7) rfl (q_of_add _ _) (Nat.le_of_ble_eq_true rfl) rfl (fun ls hl => ?_)
      refine lv_goto (tgt := 94) F.hx F.hb d_Notes_findFits_136 (by decide) ?_
      exact ih q24 v4_ hv4_ v5_ hv5_ v6_ hv6_ (w32 (v7_ + 1)) (inr_w32 _) _ _ _ hS (lv_sub hl [1, 2, 3, 4, 5, 6, 7, 0] rfl) hT
set_option maxHeartbeats 4000000 in
set_option maxRecDepth 100000 in
theorem k_Notes_findFits_L54 (l : Launch) {p : Program} {e : Env} {s : State} {m : MethodId} {below : List Frame} {meth : Method} {c : Code} {b n : Nat} {C : CT} (hlo : 191 ≤ n) (k1 : Nat) (k2 : Nat) (k3 : Nat) (k4 : Nat) (hk1 : isTown k1) (hk2 : isScene k2) (hk3 : isScene k3) (hk4 : isTrail k4) (F : Cx b p m c b_Notes_findFits 9 s ([.ref (b + 172), .ref (b + k1), .ref (b + k2), .ref (b + k3), .ref (b + k4)] : List Value).toArray "WardFalls$Notes" C n 191) (hlk : meth.locks = false) (hr : meth.sig.returnType = none) {res : Mem} : ∀ (fu : Nat) (M : Mem) (v4_ : Int) (hv4_ : InR v4_) (v5_ : Int) (hv5_ : InR v5_) (v6_ : Int) (hv6_ : InR v6_) (H : Heap) (locs : List Loc) (ls : Array Slot), St b C n M s H locs → lv_has ls 9 [(0, .ref (b + 172)), (1, .ref (b + k1)), (3, .ref (b + k3)), (4, .ref (b + k4)), (5, vI v4_), (6, vI v5_), (7, vI v6_)] → t_Notes_findFits_L54 k1 k2 k3 k4 fu M v4_ v5_ v6_ = some res → W p l e (headSpec (wsM y_Notes_findFits b_Notes_findFits 9 (none)) (rmD 5)).room s m ([.ref (b + 172), .ref (b + k1), .ref (b + k2), .ref (b + k3), .ref (b + k4)] : List Value).toArray below meth c H locs 0 0 (MQ below (QV b C n res) ([.ref (b + 172), .ref (b + k1), .ref (b + k2), .ref (b + k3), .ref (b + k4)] : List Value).toArray s 0 0 (frb b)) (F0 m 54 ls []) := by
  intro fu
  induction fu with
  | zero => intro M v4_ hv4_ v5_ hv5_ v6_ hv6_ H locs ls hS hl hT; exact absurd hT (by simp [t_Notes_findFits_L54])
  | succ fu ih =>
    intro M v4_ hv4_ v5_ hv5_ v6_ hv6_ H locs ls hS hl hT
    rw [t_Notes_findFits_L54] at hT
    refine lv_iload F.hx F.hb d_Notes_findFits_54 (lv_at hl 6 rfl) ?_
    refine lv_iload F.hx F.hb d_Notes_findFits_56 (lv_at hl 5 rfl) ?_
    refine r_icmp_ge (tgt := 145) F.hx F.hb hv6_ hv5_ d_Notes_findFits_58 (by decide) (fun c10 => ?_) (fun c10 => ?_)
    · replace hT := (if_pos c10).symm.trans hT
      cases hT
      exact r_vret F hlk hr hS d_Notes_findFits_145
    · replace hT := (if_neg c10).symm.trans hT
      refine lv_aload_n F.hx F.hb d_Notes_findFits_61 rfl (lv_at hl 1 rfl) ?_
      refine lv_aload_n F.hx F.hb d_Notes_findFits_62 rfl (lv_at hl 2 rfl) ?_
      refine lv_iload F.hx F.hb d_Notes_findFits_63 (lv_at hl 6 rfl) ?_
      obtain ⟨q11, hq11, hT⟩ := q_obind hT
      refine r_backV F hS (r_runS (As := [.ref (b + k1), .ref (b + k3), vI v6_]) F hS (c_Notes_setDowns l F.2.2.1 M k1 k3 v6_ hk1 hk3 hv6_ _ hq11) gs_Notes_59 hd_Notes_setDowns ⟨Nat.le_of_ble_eq_true rfl, Nat.le_of_ble_eq_true rfl⟩ rfl hl.1 (Nat.le_of_ble_eq_true rfl) ⟨Nat.zero_le _, Nat.zero_le _⟩ rfl d_Notes_findFits_65) (fun H locs hS => ?_)
      refine lv_aload_n F.hx F.hb d_Notes_findFits_68 rfl (lv_at hl 0 rfl) ?_
      refine lv_iload F.hx F.hb d_Notes_findFits_69 (lv_at hl 4 rfl) ?_
      refine lv_aload_n F.hx F.hb d_Notes_findFits_71 rfl (lv_at hl 1 rfl) ?_
      refine lv_aload_n F.hx F.hb d_Notes_findFits_72 rfl (lv_at hl 2 rfl) ?_
      refine lv_aload F.hx F.hb d_Notes_findFits_73 (lv_at hl 3 rfl) ?_
      obtain ⟨q13, hq13, hT⟩ := q_obind hT
      refine r_backZ F hS (r_runV (k := 172) (N := 7) (T := T5) (As := [vI v4_, .ref (b + k1), .ref (b + k3), .ref (b + k4)]) F hS (show 172 < 191 by decide) (show shK 172 = 9 from rfl) rfl (c_Notes_areSo l F.2.2.1 q11 v4_ k1 k3 k4 hv4_ hk1 hk3 hk4 _ hq13) gs_Notes_63 hd_Notes_areSo ⟨Nat.le_of_ble_eq_true rfl, Nat.le_of_ble_eq_true rfl⟩ rfl hl.1 (Nat.le_of_ble_eq_true rfl) ⟨Nat.zero_le _, Nat.zero_le _⟩ rfl d_Notes_findFits_75) (fun H locs hS h14 => ?_)
      refine r_if_eq (tgt := 139) F.hx F.hb (inr_z h14) d_Notes_findFits_78 (by decide) (fun c15 => ?_) (fun c15 => ?_)
      · replace hT := (if_pos c15).symm.trans hT
        exact k_Notes_findFits_L139 l hlo k1 k2 k3 k4 hk1 hk2 hk3 hk4 F hlk hr (fun a0_ a1_ a2_ a3_ => t_Notes_findFits_L54 k1 k2 k3 k4 fu a0_ a1_ a2_ a3_) ih (q13.1) v4_ hv4_ v5_ hv5_ v6_ hv6_ _ _ _ hS (lv_sub hl [0, 1, 2, 3, 4, 5, 6] rfl) hT
      · replace hT := (if_neg c15).symm.trans hT
        refine lv_aload_n F.hx F.hb d_Notes_findFits_81 rfl (lv_at hl 0 rfl) ?_
        refine lv_dup F.hx F.hb d_Notes_findFits_82 rfl ?_
        refine r_get (v := vI ((q13.1).1 172 4)) (N := 7) (T := T5) (j := 4) F hS (show 172 < 191 by decide) (show shK 172 = 9 from rfl) (show shN 172 = 7 from rfl) rfl (Nat.le_of_ble_eq_true rfl) ing5 mw_369 (fv_int rfl) d_Notes_findFits_83 ?_
        have i16 := hS.rng 172 4
        refine r_iconst F.hx F.hb d_Notes_findFits_86 ?_
        refine r_iadd F.hx F.hb d_Notes_findFits_87 ?_
        refine r_putI (N := 7) (T := T5) (j := 4) F hS (show 172 < 191 by decide) (show shK 172 = 9 from rfl) (show shN 172 = 7 from rfl) rfl (Nat.le_of_ble_eq_true rfl) ing5 tyok5 nm5 rfl rfl rfl rfl rfl rfl mw_369 (inr_w32 _) d_Notes_findFits_88 (fun H locs hS => ?_)
        obtain ⟨M17, eM17⟩ : ∃ q, q = (setI (q13.1) 172 4 (w32 (((q13.1).1 172 4) + 1))) := ⟨_, rfl⟩
        replace hS : St b C n M17 s H locs := by rw [eM17]; exact hS
        replace hT := qlet_eq hT eM17
        refine r_iconst F.hx F.hb d_Notes_findFits_91 ?_
        refine lv_istore (lv' := [(8, vI 0), (0, .ref (b + 172)), (1, .ref (b + k1)), (3, .ref (b + k3)), (4, .ref (b + k4)), (5, vI v4_), (6, vI v5_), (7, vI v6_)]) F.hx F.hb d_Notes_findFits_92 hl (Nat.le_of_ble_eq_true rfl) rfl (fun ls hl => ?_)
        exact k_Notes_findFits_L94 l hlo k1 k2 k3 k4 hk1 hk2 hk3 hk4 F hlk hr (fun a0_ a1_ a2_ a3_ => t_Notes_findFits_L54 k1 k2 k3 k4 fu a0_ a1_ a2_ a3_) ih FU M17 v4_ hv4_ v5_ hv5_ v6_ hv6_ 0 (inr_c rfl) _ _ _ hS (lv_sub hl [1, 2, 3, 4, 5, 6, 7, 0] rfl) hT
set_option maxHeartbeats 4000000 in
set_option maxRecDepth 100000 in
theorem k_Notes_findFits_L17 (l : Launch) {p : Program} {e : Env} {s : State} {m : MethodId} {below : List Frame} {meth : Method} {c : Code} {b n : Nat} {C : CT} (hlo : 191 ≤ n) (k1 : Nat) (k2 : Nat) (k3 : Nat) (k4 : Nat) (hk1 : isTown k1) (hk2 : isScene k2) (hk3 : isScene k3) (hk4 : isTrail k4) (F : Cx b p m c b_Notes_findFits 9 s ([.ref (b + 172), .ref (b + k1), .ref (b + k2), .ref (b + k3), .ref (b + k4)] : List Value).toArray "WardFalls$Notes" C n 191) (hlk : meth.locks = false) (hr : meth.sig.returnType = none) {res : Mem} : ∀ (fu : Nat) (M : Mem) (v4_ : Int) (hv4_ : InR v4_) (v5_ : Int) (hv5_ : InR v5_) (v6_ : Int) (hv6_ : InR v6_) (H : Heap) (locs : List Loc) (ls : Array Slot), St b C n M s H locs → lv_has ls 9 [(0, .ref (b + 172)), (1, .ref (b + k1)), (3, .ref (b + k3)), (4, .ref (b + k4)), (5, vI v4_), (6, vI v5_), (7, vI v6_)] → t_Notes_findFits_L17 k1 k2 k3 k4 fu M v4_ v5_ v6_ = some res → W p l e (headSpec (wsM y_Notes_findFits b_Notes_findFits 9 (none)) (rmD 5)).room s m ([.ref (b + 172), .ref (b + k1), .ref (b + k2), .ref (b + k3), .ref (b + k4)] : List Value).toArray below meth c H locs 0 0 (MQ below (QV b C n res) ([.ref (b + 172), .ref (b + k1), .ref (b + k2), .ref (b + k3), .ref (b + k4)] : List Value).toArray s 0 0 (frb b)) (F0 m 17 ls []) := by
  intro fu
  induction fu with
  | zero => intro M v4_ hv4_ v5_ hv5_ v6_ hv6_ H locs ls hS hl hT; exact absurd hT (by simp [t_Notes_findFits_L17])
  | succ fu ih =>
    intro M v4_ hv4_ v5_ hv5_ v6_ hv6_ H locs ls hS hl hT
    rw [t_Notes_findFits_L17] at hT
    refine lv_iload F.hx F.hb d_Notes_findFits_17 (lv_at hl 6 rfl) ?_
    refine lv_aload_n F.hx F.hb d_Notes_findFits_19 rfl (lv_at hl 1 rfl) ?_
    refine r_get (v := vI (M.1 k1 14)) (N := 20) (T := T11) (j := 14) F hS (Town_lt hk1) (Town_sh hk1) (Town_N hk1) rfl (Nat.le_of_ble_eq_true rfl) ing11 mw_136 (fv_int rfl) d_Notes_findFits_20 ?_
    have i5 := hS.rng k1 14
    refine r_icmp_ge (tgt := 38) F.hx F.hb hv6_ i5 d_Notes_findFits_23 (by decide) (fun c6 => ?_) (fun c6 => ?_)
    · replace hT := (if_pos c6).symm.trans hT
      refine lv_aload_n F.hx F.hb d_Notes_findFits_38 rfl (lv_at hl 0 rfl) ?_
      refine r_iconst F.hx F.hb d_Notes_findFits_39 ?_
      refine r_putI (N := 7) (T := T5) (j := 4) F hS (show 172 < 191 by decide) (show shK 172 = 9 from rfl) (show shN 172 = 7 from rfl) rfl (Nat.le_of_ble_eq_true rfl) ing5 tyok5 nm5 rfl rfl rfl rfl rfl rfl mw_369 (inr_c rfl) d_Notes_findFits_40 (fun H locs hS => ?_)
      obtain ⟨M7, eM7⟩ : ∃ q, q = (setI M 172 4 0) := ⟨_, rfl⟩
      replace hS : St b C n M7 s H locs := by rw [eM7]; exact hS
      replace hT := qlet_eq hT eM7
      refine lv_aload_n F.hx F.hb d_Notes_findFits_43 rfl (lv_at hl 0 rfl) ?_
      refine r_get (v := .ref (b + 176)) (N := 7) (T := T5) (j := 3) F hS (show 172 < 191 by decide) (show shK 172 = 9 from rfl) (show shN 172 = 7 from rfl) rfl (Nat.le_of_ble_eq_true rfl) ing5 mw_367 (fv_sg rfl rfl rfl) d_Notes_findFits_44 ?_
      refine r_iconst F.hx F.hb d_Notes_findFits_47 ?_
      obtain ⟨q8, hq8, hT⟩ := q_obind hT
      refine r_backV F hS (r_runS (As := [.ref (b + 176), vI 0]) F hS (c_Arrays_fill l F.2.2.1 M7 176 4 0 (show arrP 0 176 4 191 from ⟨rfl, rfl, by decide⟩) (inr_c rfl) _ hq8) gs_Notes_53 hd_Arrays_fill ⟨Nat.le_of_ble_eq_true rfl, Nat.le_of_ble_eq_true rfl⟩ rfl hl.1 (Nat.le_of_ble_eq_true rfl) ⟨Nat.zero_le _, Nat.zero_le _⟩ rfl d_Notes_findFits_48) (fun H locs hS => ?_)
      refine r_iconst F.hx F.hb d_Notes_findFits_51 ?_
      refine lv_istore (lv' := [(7, vI 0), (0, .ref (b + 172)), (1, .ref (b + k1)), (3, .ref (b + k3)), (4, .ref (b + k4)), (5, vI v4_), (6, vI v5_)]) F.hx F.hb d_Notes_findFits_52 hl (Nat.le_of_ble_eq_true rfl) rfl (fun ls hl => ?_)
      exact k_Notes_findFits_L54 l hlo k1 k2 k3 k4 hk1 hk2 hk3 hk4 F hlk hr FU q8 v4_ hv4_ v5_ hv5_ 0 (inr_c rfl) _ _ _ hS (lv_sub hl [1, 2, 3, 4, 5, 6, 0] rfl) hT
    · replace hT := (if_neg c6).symm.trans hT
      refine lv_iload F.hx F.hb d_Notes_findFits_26 (lv_at hl 5 rfl) ?_
      refine r_iconst F.hx F.hb d_Notes_findFits_28 ?_
      refine r_imul F.hx F.hb d_Notes_findFits_29 ?_
      refine lv_istore (lv' := [(6, vI (w32 (v5_ * 5))), (0, .ref (b + 172)), (1, .ref (b + k1)), (3, .ref (b + k3)), (4, .ref (b + k4)), (5, vI v4_), (7, vI v6_)]) F.hx F.hb d_Notes_findFits_30 hl (Nat.le_of_ble_eq_true rfl) rfl (fun ls hl => ?_)
      refine lv_iinc (v := Int32.ofInt (w32 (v6_ + 1))) (lv' := [(7, vI (w32 (v6_ + 1))), (6, vI (w32 (v5_ * 5))), (0, .ref (b + 172)), (1, .ref (b + k1)), (3, .ref (b + k3)), (4, .ref (b + k4)), (5, vI v4_)]) F.hx F.hb d_Notes_findFits_32 hl (k := 6) rfl (q_of_add _ _) (Nat.le_of_ble_eq_true rfl) rfl (fun ls hl => ?_)
      refine lv_goto (tgt := 17) F.hx F.hb d_Notes_findFits_35 (by decide) ?_
      exact ih M v4_ hv4_ (w32 (v5_ * 5)) (inr_w32 _) (w32 (v6_ + 1)) (inr_w32 _) _ _ _ hS (lv_sub hl [2, 3, 4, 5, 6, 1, 0] rfl) hT
set_option maxHeartbeats 4000000 in
set_option maxRecDepth 100000 in
theorem c_Notes_findFits (l : Launch) {b n : Nat} {C : CT} (hlo : 191 ≤ n) (M : Mem) (k1 : Nat) (k2 : Nat) (k3 : Nat) (k4 : Nat) (hk1 : isTown k1) (hk2 : isScene k2) (hk3 : isScene k3) (hk4 : isTrail k4) (res : Mem) (hT : t_Notes_findFits M k1 k2 k3 k4 = some res) : CM l b C n 5 y_Notes_findFits b_Notes_findFits 9 (none) [.ref (b + 172), .ref (b + k1), .ref (b + k2), .ref (b + k3), .ref (b + k4)] M (QV b C n res) := by
  refine CM.of (lo := 191) (ow := "WardFalls$Notes") (by decide) rfl (Nat.le_of_ble_eq_true rfl) hlo (fun p e s m below meth c F hlk hr hS ls hl => ?_)
  have hl : lv_has ls 9 [(0, .ref (b + 172)), (1, .ref (b + k1)), (2, .ref (b + k2)), (3, .ref (b + k3)), (4, .ref (b + k4))] := hl
  unfold t_Notes_findFits at hT
  refine lv_aload_n F.hx F.hb d_Notes_findFits_0 rfl (lv_at hl 3 rfl) ?_
  refine lv_aload_n F.hx F.hb d_Notes_findFits_1 rfl (lv_at hl 2 rfl) ?_
  obtain ⟨q1, hq1⟩ : ∃ q, q = (t_Scene_copy M k3 k2) := ⟨_, rfl⟩
  replace hT := qlet_eq hT hq1
  refine r_backV F hS (r_runV (k := k3) (N := 7) (T := T9) (As := [.ref (b + k2)]) F hS (Scene_lt hk3) (Scene_sh hk3) rfl (c_Scene_copy l F.2.2.1 M k3 k2 hk3 hk2 _ hq1.symm) gs_Notes_35 hd_Scene_copy ⟨Nat.le_of_ble_eq_true rfl, Nat.le_of_ble_eq_true rfl⟩ rfl hl.1 (Nat.le_of_ble_eq_true rfl) ⟨Nat.zero_le _, Nat.zero_le _⟩ rfl d_Notes_findFits_2) (fun H locs hS => ?_)
  refine lv_aload_n F.hx F.hb d_Notes_findFits_5 rfl (lv_at hl 0 rfl) ?_
  obtain ⟨q3, hq3, hT⟩ := q_obind hT
  refine r_backI F hS (r_runV (k := 172) (N := 7) (T := T5) (As := []) F hS (show 172 < 191 by decide) (show shK 172 = 9 from rfl) rfl (c_Notes_knownBits l F.2.2.1 q1 _ hq3) gs_Notes_41 hd_Notes_knownBits ⟨Nat.le_of_ble_eq_true rfl, Nat.le_of_ble_eq_true rfl⟩ rfl hl.1 (Nat.le_of_ble_eq_true rfl) ⟨Nat.zero_le _, Nat.zero_le _⟩ rfl d_Notes_findFits_6) (fun H locs hS h4 => ?_)
  refine lv_istore (lv' := [(5, vI q3), (0, .ref (b + 172)), (1, .ref (b + k1)), (2, .ref (b + k2)), (3, .ref (b + k3)), (4, .ref (b + k4))]) F.hx F.hb d_Notes_findFits_9 hl (Nat.le_of_ble_eq_true rfl) rfl (fun ls hl => ?_)
  refine r_iconst F.hx F.hb d_Notes_findFits_11 ?_
  refine lv_istore (lv' := [(6, vI 1), (5, vI q3), (0, .ref (b + 172)), (1, .ref (b + k1)), (2, .ref (b + k2)), (3, .ref (b + k3)), (4, .ref (b + k4))]) F.hx F.hb d_Notes_findFits_12 hl (Nat.le_of_ble_eq_true rfl) rfl (fun ls hl => ?_)
  refine r_iconst F.hx F.hb d_Notes_findFits_14 ?_
  refine lv_istore (lv' := [(7, vI 0), (6, vI 1), (5, vI q3), (0, .ref (b + 172)), (1, .ref (b + k1)), (2, .ref (b + k2)), (3, .ref (b + k3)), (4, .ref (b + k4))]) F.hx F.hb d_Notes_findFits_15 hl (Nat.le_of_ble_eq_true rfl) rfl (fun ls hl => ?_)
  exact k_Notes_findFits_L17 l hlo k1 k2 k3 k4 hk1 hk2 hk3 hk4 F hlk hr FU q1 q3 h4 1 (inr_c rfl) 0 (inr_c rfl) _ _ _ hS (lv_sub hl [3, 4, 6, 7, 2, 1, 0] rfl) hT
theorem d_WF_fits_0 : decode b_WF_fits 0 = .ok (.aload_n 0, 1) := dc_42 (by decide +kernel)
theorem d_WF_fits_1 : decode b_WF_fits 1 = .ok (.getfield 76, 3) := dc_180 (by decide +kernel)
theorem d_WF_fits_4 : decode b_WF_fits 4 = .ok (.aload_n 0, 1) := dc_42 (by decide +kernel)
theorem d_WF_fits_5 : decode b_WF_fits 5 = .ok (.getfield 22, 3) := dc_180 (by decide +kernel)
theorem d_WF_fits_8 : decode b_WF_fits 8 = .ok (.aload_n 0, 1) := dc_42 (by decide +kernel)
theorem d_WF_fits_9 : decode b_WF_fits 9 = .ok (.getfield 46, 3) := dc_180 (by decide +kernel)
theorem d_WF_fits_12 : decode b_WF_fits 12 = .ok (.aload_n 0, 1) := dc_42 (by decide +kernel)
theorem d_WF_fits_13 : decode b_WF_fits 13 = .ok (.getfield 50, 3) := dc_180 (by decide +kernel)
theorem d_WF_fits_16 : decode b_WF_fits 16 = .ok (.aload_n 0, 1) := dc_42 (by decide +kernel)
theorem d_WF_fits_17 : decode b_WF_fits 17 = .ok (.getfield 97, 3) := dc_180 (by decide +kernel)
theorem d_WF_fits_20 : decode b_WF_fits 20 = .ok (.invokevirtual 381, 3) := dc_182 (by decide +kernel)
theorem d_WF_fits_23 : decode b_WF_fits 23 = .ok (.aload_n 0, 1) := dc_42 (by decide +kernel)
theorem d_WF_fits_24 : decode b_WF_fits 24 = .ok (.getfield 76, 3) := dc_180 (by decide +kernel)
theorem d_WF_fits_27 : decode b_WF_fits 27 = .ok (.getfield 385, 3) := dc_180 (by decide +kernel)
theorem d_WF_fits_30 : decode b_WF_fits 30 = .ok (.ireturn, 1) := dc_172 (by decide +kernel)
def t_WF_fits (M : Mem)  : Option (Mem × Int) := (obind (t_Notes_findFits M ((M.1 0 4).toNat) 47 52 189) fun q2 => (some (q2, (q2.1 172 4))))
set_option maxHeartbeats 4000000 in
set_option maxRecDepth 100000 in
theorem c_WF_fits (l : Launch) {b n : Nat} {C : CT} (hlo : 191 ≤ n) (M : Mem)   (res : Mem × Int) (hT : t_WF_fits M  = some res) : CM l b C n 6 y_WF_fits b_WF_fits 1 (some .int) [.ref (b + 0)] M (QI b C n res.1 res.2) := by
  refine CM.of (lo := 191) (ow := "WardFalls") (by decide) rfl (Nat.le_of_ble_eq_true rfl) hlo (fun p e s m below meth c F hlk hr hS ls hl => ?_)
  have hl : lv_has ls 1 [(0, .ref (b + 0))] := hl
  unfold t_WF_fits at hT
  refine lv_aload_n F.hx F.hb d_WF_fits_0 rfl (lv_at hl 0 rfl) ?_
  refine r_get (v := .ref (b + 172)) (N := 19) (T := T0) (j := 15) F hS (show 0 < 191 by decide) (show shK 0 = 4 from rfl) (show shN 0 = 19 from rfl) rfl (Nat.le_of_ble_eq_true rfl) ing0 mw_565 (fv_sg rfl rfl rfl) d_WF_fits_1 ?_
  refine lv_aload_n F.hx F.hb d_WF_fits_4 rfl (lv_at hl 0 rfl) ?_
  have h1 := St_town hS
  refine r_get (v := .ref (b + ((M.1 0 4).toNat))) (N := 19) (T := T0) (j := 4) F hS (show 0 < 191 by decide) (show shK 0 = 4 from rfl) (show shN 0 = 19 from rfl) rfl (Nat.le_of_ble_eq_true rfl) ing0 mw_554 (fv_town hS) d_WF_fits_5 ?_
  refine lv_aload_n F.hx F.hb d_WF_fits_8 rfl (lv_at hl 0 rfl) ?_
  refine r_get (v := .ref (b + 47)) (N := 19) (T := T0) (j := 8) F hS (show 0 < 191 by decide) (show shK 0 = 4 from rfl) (show shN 0 = 19 from rfl) rfl (Nat.le_of_ble_eq_true rfl) ing0 mw_558 (fv_sg rfl rfl rfl) d_WF_fits_9 ?_
  refine lv_aload_n F.hx F.hb d_WF_fits_12 rfl (lv_at hl 0 rfl) ?_
  refine r_get (v := .ref (b + 52)) (N := 19) (T := T0) (j := 9) F hS (show 0 < 191 by decide) (show shK 0 = 4 from rfl) (show shN 0 = 19 from rfl) rfl (Nat.le_of_ble_eq_true rfl) ing0 mw_559 (fv_sg rfl rfl rfl) d_WF_fits_13 ?_
  refine lv_aload_n F.hx F.hb d_WF_fits_16 rfl (lv_at hl 0 rfl) ?_
  refine r_get (v := .ref (b + 189)) (N := 19) (T := T0) (j := 18) F hS (show 0 < 191 by decide) (show shK 0 = 4 from rfl) (show shN 0 = 19 from rfl) rfl (Nat.le_of_ble_eq_true rfl) ing0 mw_568 (fv_sg rfl rfl rfl) d_WF_fits_17 ?_
  obtain ⟨q2, hq2, hT⟩ := q_obind hT
  refine r_backV F hS (r_runV (k := 172) (N := 7) (T := T5) (As := [.ref (b + ((M.1 0 4).toNat)), .ref (b + 47), .ref (b + 52), .ref (b + 189)]) F hS (show 172 < 191 by decide) (show shK 172 = 9 from rfl) rfl (c_Notes_findFits l F.2.2.1 M ((M.1 0 4).toNat) 47 52 189 h1 (by decide : isScene 47) (by decide : isScene 52) (by decide : isTrail 189) _ hq2) gs_WF_381 hd_Notes_findFits ⟨Nat.le_of_ble_eq_true rfl, Nat.le_of_ble_eq_true rfl⟩ rfl hl.1 (Nat.le_of_ble_eq_true rfl) ⟨Nat.zero_le _, Nat.zero_le _⟩ rfl d_WF_fits_20) (fun H locs hS => ?_)
  refine lv_aload_n F.hx F.hb d_WF_fits_23 rfl (lv_at hl 0 rfl) ?_
  refine r_get (v := .ref (b + 172)) (N := 19) (T := T0) (j := 15) F hS (show 0 < 191 by decide) (show shK 0 = 4 from rfl) (show shN 0 = 19 from rfl) rfl (Nat.le_of_ble_eq_true rfl) ing0 mw_565 (fv_sg rfl rfl rfl) d_WF_fits_24 ?_
  refine r_get (v := vI (q2.1 172 4)) (N := 7) (T := T5) (j := 4) F hS (show 172 < 191 by decide) (show shK 172 = 9 from rfl) (show shN 172 = 7 from rfl) rfl (Nat.le_of_ble_eq_true rfl) ing5 mw_370 (fv_int rfl) d_WF_fits_27 ?_
  have i4 := hS.rng 172 4
  cases hT
  exact r_iret F hlk hr rfl hS i4 d_WF_fits_30
theorem d_WF_may_0 : decode b_WF_may 0 = .ok (.aload_n 0, 1) := dc_42 (by decide +kernel)
theorem d_WF_may_1 : decode b_WF_may 1 = .ok (.getfield 22, 3) := dc_180 (by decide +kernel)
theorem d_WF_may_4 : decode b_WF_may 4 = .ok (.iload_n 1, 1) := dc_27 (by decide +kernel)
theorem d_WF_may_5 : decode b_WF_may 5 = .ok (.invokevirtual 198, 3) := dc_182 (by decide +kernel)
theorem d_WF_may_8 : decode b_WF_may 8 = .ok (.ifCond .ne 5, 3) := dc_154 (by decide +kernel)
theorem d_WF_may_11 : decode b_WF_may 11 = .ok (.iconst (-1), 1) := dc_2 (by decide +kernel)
theorem d_WF_may_12 : decode b_WF_may 12 = .ok (.ireturn, 1) := dc_172 (by decide +kernel)
theorem d_WF_may_13 : decode b_WF_may 13 = .ok (.aload_n 0, 1) := dc_42 (by decide +kernel)
theorem d_WF_may_14 : decode b_WF_may 14 = .ok (.getfield 76, 3) := dc_180 (by decide +kernel)
theorem d_WF_may_17 : decode b_WF_may 17 = .ok (.aload_n 0, 1) := dc_42 (by decide +kernel)
theorem d_WF_may_18 : decode b_WF_may 18 = .ok (.getfield 22, 3) := dc_180 (by decide +kernel)
theorem d_WF_may_21 : decode b_WF_may 21 = .ok (.aload_n 0, 1) := dc_42 (by decide +kernel)
theorem d_WF_may_22 : decode b_WF_may 22 = .ok (.getfield 46, 3) := dc_180 (by decide +kernel)
theorem d_WF_may_25 : decode b_WF_may 25 = .ok (.aload_n 0, 1) := dc_42 (by decide +kernel)
theorem d_WF_may_26 : decode b_WF_may 26 = .ok (.getfield 50, 3) := dc_180 (by decide +kernel)
theorem d_WF_may_29 : decode b_WF_may 29 = .ok (.aload_n 0, 1) := dc_42 (by decide +kernel)
theorem d_WF_may_30 : decode b_WF_may 30 = .ok (.getfield 97, 3) := dc_180 (by decide +kernel)
theorem d_WF_may_33 : decode b_WF_may 33 = .ok (.invokevirtual 381, 3) := dc_182 (by decide +kernel)
theorem d_WF_may_36 : decode b_WF_may 36 = .ok (.aload_n 0, 1) := dc_42 (by decide +kernel)
theorem d_WF_may_37 : decode b_WF_may 37 = .ok (.getfield 76, 3) := dc_180 (by decide +kernel)
theorem d_WF_may_40 : decode b_WF_may 40 = .ok (.getfield 388, 3) := dc_180 (by decide +kernel)
theorem d_WF_may_43 : decode b_WF_may 43 = .ok (.iload_n 1, 1) := dc_27 (by decide +kernel)
theorem d_WF_may_44 : decode b_WF_may 44 = .ok (.invokestatic 204, 3) := dc_184 (by decide +kernel)
theorem d_WF_may_47 : decode b_WF_may 47 = .ok (.ireturn, 1) := dc_172 (by decide +kernel)
def t_WF_may (M : Mem) (x1 : Int) : Option (Mem × Int) := (qlet (t_Town_hasWard M ((M.1 0 4).toNat) x1) fun q2 => (if q2 = 0 then (some (M, (-1))) else (obind (t_Notes_findFits M ((M.1 0 4).toNat) 47 52 189) fun q6 => (qlet (t_WF_look q6 176 4 x1) fun q8 => (some (q6, q8))))))
set_option maxHeartbeats 4000000 in
set_option maxRecDepth 100000 in
theorem c_WF_may (l : Launch) {b n : Nat} {C : CT} (hlo : 191 ≤ n) (M : Mem) (x1 : Int) (hx1 : InR x1) (res : Mem × Int) (hT : t_WF_may M x1 = some res) : CM l b C n 6 y_WF_may b_WF_may 2 (some .int) [.ref (b + 0), vI x1] M (QI b C n res.1 res.2) := by
  refine CM.of (lo := 191) (ow := "WardFalls") (by decide) rfl (Nat.le_of_ble_eq_true rfl) hlo (fun p e s m below meth c F hlk hr hS ls hl => ?_)
  have hl : lv_has ls 2 [(0, .ref (b + 0)), (1, vI x1)] := hl
  unfold t_WF_may at hT
  refine lv_aload_n F.hx F.hb d_WF_may_0 rfl (lv_at hl 0 rfl) ?_
  have h1 := St_town hS
  refine r_get (v := .ref (b + ((M.1 0 4).toNat))) (N := 19) (T := T0) (j := 4) F hS (show 0 < 191 by decide) (show shK 0 = 4 from rfl) (show shN 0 = 19 from rfl) rfl (Nat.le_of_ble_eq_true rfl) ing0 mw_554 (fv_town hS) d_WF_may_1 ?_
  refine lv_iload_n F.hx F.hb d_WF_may_4 rfl (lv_at hl 1 rfl) ?_
  obtain ⟨q2, hq2⟩ : ∃ q, q = (t_Town_hasWard M ((M.1 0 4).toNat) x1) := ⟨_, rfl⟩
  replace hT := qlet_eq hT hq2
  refine r_backZ F hS (r_runV (k := ((M.1 0 4).toNat)) (N := 20) (T := T11) (As := [vI x1]) F hS (Town_lt h1) (Town_sh h1) rfl (c_Town_hasWard l F.2.2.1 M ((M.1 0 4).toNat) x1 h1 hx1 _ hq2.symm) gs_WF_198 hd_Town_hasWard ⟨Nat.le_of_ble_eq_true rfl, Nat.le_of_ble_eq_true rfl⟩ rfl hl.1 (Nat.le_of_ble_eq_true rfl) ⟨Nat.zero_le _, Nat.zero_le _⟩ rfl d_WF_may_5) (fun H locs hS h3 => ?_)
  refine r_if_ne (tgt := 13) F.hx F.hb (inr_z h3) d_WF_may_8 (by decide) (fun c4 => ?_) (fun c4 => ?_)
  · replace hT := (if_neg c4).symm.trans hT
    refine lv_aload_n F.hx F.hb d_WF_may_13 rfl (lv_at hl 0 rfl) ?_
    refine r_get (v := .ref (b + 172)) (N := 19) (T := T0) (j := 15) F hS (show 0 < 191 by decide) (show shK 0 = 4 from rfl) (show shN 0 = 19 from rfl) rfl (Nat.le_of_ble_eq_true rfl) ing0 mw_565 (fv_sg rfl rfl rfl) d_WF_may_14 ?_
    refine lv_aload_n F.hx F.hb d_WF_may_17 rfl (lv_at hl 0 rfl) ?_
    have h5 := St_town hS
    refine r_get (v := .ref (b + ((M.1 0 4).toNat))) (N := 19) (T := T0) (j := 4) F hS (show 0 < 191 by decide) (show shK 0 = 4 from rfl) (show shN 0 = 19 from rfl) rfl (Nat.le_of_ble_eq_true rfl) ing0 mw_554 (fv_town hS) d_WF_may_18 ?_
    refine lv_aload_n F.hx F.hb d_WF_may_21 rfl (lv_at hl 0 rfl) ?_
    refine r_get (v := .ref (b + 47)) (N := 19) (T := T0) (j := 8) F hS (show 0 < 191 by decide) (show shK 0 = 4 from rfl) (show shN 0 = 19 from rfl) rfl (Nat.le_of_ble_eq_true rfl) ing0 mw_558 (fv_sg rfl rfl rfl) d_WF_may_22 ?_
    refine lv_aload_n F.hx F.hb d_WF_may_25 rfl (lv_at hl 0 rfl) ?_
    refine r_get (v := .ref (b + 52)) (N := 19) (T := T0) (j := 9) F hS (show 0 < 191 by decide) (show shK 0 = 4 from rfl) (show shN 0 = 19 from rfl) rfl (Nat.le_of_ble_eq_true rfl) ing0 mw_559 (fv_sg rfl rfl rfl) d_WF_may_26 ?_
    refine lv_aload_n F.hx F.hb d_WF_may_29 rfl (lv_at hl 0 rfl) ?_
    refine r_get (v := .ref (b + 189)) (N := 19) (T := T0) (j := 18) F hS (show 0 < 191 by decide) (show shK 0 = 4 from rfl) (show shN 0 = 19 from rfl) rfl (Nat.le_of_ble_eq_true rfl) ing0 mw_568 (fv_sg rfl rfl rfl) d_WF_may_30 ?_
    obtain ⟨q6, hq6, hT⟩ := q_obind hT
    refine r_backV F hS (r_runV (k := 172) (N := 7) (T := T5) (As := [.ref (b + ((M.1 0 4).toNat)), .ref (b + 47), .ref (b + 52), .ref (b + 189)]) F hS (show 172 < 191 by decide) (show shK 172 = 9 from rfl) rfl (c_Notes_findFits l F.2.2.1 M ((M.1 0 4).toNat) 47 52 189 h5 (by decide : isScene 47) (by decide : isScene 52) (by decide : isTrail 189) _ hq6) gs_WF_381 hd_Notes_findFits ⟨Nat.le_of_ble_eq_true rfl, Nat.le_of_ble_eq_true rfl⟩ rfl hl.1 (Nat.le_of_ble_eq_true rfl) ⟨Nat.zero_le _, Nat.zero_le _⟩ rfl d_WF_may_33) (fun H locs hS => ?_)
    refine lv_aload_n F.hx F.hb d_WF_may_36 rfl (lv_at hl 0 rfl) ?_
    refine r_get (v := .ref (b + 172)) (N := 19) (T := T0) (j := 15) F hS (show 0 < 191 by decide) (show shK 0 = 4 from rfl) (show shN 0 = 19 from rfl) rfl (Nat.le_of_ble_eq_true rfl) ing0 mw_565 (fv_sg rfl rfl rfl) d_WF_may_37 ?_
    refine r_get (v := .ref (b + 176)) (N := 7) (T := T5) (j := 3) F hS (show 172 < 191 by decide) (show shK 172 = 9 from rfl) (show shN 172 = 7 from rfl) rfl (Nat.le_of_ble_eq_true rfl) ing5 mw_368 (fv_sg rfl rfl rfl) d_WF_may_40 ?_
    refine lv_iload_n F.hx F.hb d_WF_may_43 rfl (lv_at hl 1 rfl) ?_
    obtain ⟨q8, hq8⟩ : ∃ q, q = (t_WF_look q6 176 4 x1) := ⟨_, rfl⟩
    replace hT := qlet_eq hT hq8
    refine r_backI F hS (r_runS (As := [.ref (b + 176), vI x1]) F hS (c_WF_look l F.2.2.1 q6 176 4 x1 (show arrP 0 176 4 191 from ⟨rfl, rfl, by decide⟩) hx1 _ hq8.symm) gs_WF_204 hd_WF_look ⟨Nat.le_of_ble_eq_true rfl, Nat.le_of_ble_eq_true rfl⟩ rfl hl.1 (Nat.le_of_ble_eq_true rfl) ⟨Nat.zero_le _, Nat.zero_le _⟩ rfl d_WF_may_44) (fun H locs hS h9 => ?_)
    cases hT
    exact r_iret F hlk hr rfl hS h9 d_WF_may_47
  · replace hT := (if_pos c4).symm.trans hT
    refine r_iconst F.hx F.hb d_WF_may_11 ?_
    cases hT
    exact r_iret F hlk hr rfl hS (inr_c rfl) d_WF_may_12
theorem d_Chronicle_number_0 : decode b_Chronicle_number 0 = .ok (.aload_n 0, 1) := dc_42 (by decide +kernel)
theorem d_Chronicle_number_1 : decode b_Chronicle_number 1 = .ok (.aload_n 0, 1) := dc_42 (by decide +kernel)
theorem d_Chronicle_number_2 : decode b_Chronicle_number 2 = .ok (.getfield 33, 3) := dc_180 (by decide +kernel)
theorem d_Chronicle_number_5 : decode b_Chronicle_number 5 = .ok (.ldc2_w 62, 3) := dc_20 (by decide +kernel)
theorem d_Chronicle_number_8 : decode b_Chronicle_number 8 = .ok (.lmul, 1) := dc_105 (by decide +kernel)
theorem d_Chronicle_number_9 : decode b_Chronicle_number 9 = .ok (.ldc2_w 64, 3) := dc_20 (by decide +kernel)
theorem d_Chronicle_number_12 : decode b_Chronicle_number 12 = .ok (.ladd, 1) := dc_97 (by decide +kernel)
theorem d_Chronicle_number_13 : decode b_Chronicle_number 13 = .ok (.ldc2_w 66, 3) := dc_20 (by decide +kernel)
theorem d_Chronicle_number_16 : decode b_Chronicle_number 16 = .ok (.land, 1) := dc_127 (by decide +kernel)
theorem d_Chronicle_number_17 : decode b_Chronicle_number 17 = .ok (.putfield 33, 3) := dc_181 (by decide +kernel)
theorem d_Chronicle_number_20 : decode b_Chronicle_number 20 = .ok (.aload_n 0, 1) := dc_42 (by decide +kernel)
theorem d_Chronicle_number_21 : decode b_Chronicle_number 21 = .ok (.getfield 33, 3) := dc_180 (by decide +kernel)
theorem d_Chronicle_number_24 : decode b_Chronicle_number 24 = .ok (.bipush 16, 2) := dc_16 (by decide +kernel)
theorem d_Chronicle_number_26 : decode b_Chronicle_number 26 = .ok (.lushr, 1) := dc_125 (by decide +kernel)
theorem d_Chronicle_number_27 : decode b_Chronicle_number 27 = .ok (.l2i, 1) := dc_136 (by decide +kernel)
theorem d_Chronicle_number_28 : decode b_Chronicle_number 28 = .ok (.ireturn, 1) := dc_172 (by decide +kernel)
def t_Chronicle_number (M : Mem) (k0 : Nat) : Mem × Int := (qlet (setL M k0 5 ((((M.2 k0 5) * 1103515245) + 12345) &&& 2147483647)) fun M1 => (M1, (q_l2i (q_lushr (M1.2 k0 5) 16))))
set_option maxHeartbeats 4000000 in
set_option maxRecDepth 100000 in
theorem c_Chronicle_number (l : Launch) {b n : Nat} {C : CT} (hlo : 191 ≤ n) (M : Mem) (k0 : Nat) (hk0 : isChronicle k0) (res : Mem × Int) (hT : t_Chronicle_number M k0 = res) : CM l b C n 0 y_Chronicle_number b_Chronicle_number 1 (some .int) [.ref (b + k0)] M (QI b C n res.1 res.2) := by
  refine CM.of (lo := 191) (ow := "WardFalls$Chronicle") (by decide) rfl (Nat.le_of_ble_eq_true rfl) hlo (fun p e s m below meth c F hlk hr hS ls hl => ?_)
  have hl : lv_has ls 1 [(0, .ref (b + k0))] := hl
  unfold t_Chronicle_number at hT
  refine lv_aload_n F.hx F.hb d_Chronicle_number_0 rfl (lv_at hl 0 rfl) ?_
  refine lv_aload_n F.hx F.hb d_Chronicle_number_1 rfl (lv_at hl 0 rfl) ?_
  refine r_get (v := .long (M.2 k0 5)) (N := 6) (T := T2) (j := 5) F hS (Chronicle_lt hk0) (Chronicle_sh hk0) (Chronicle_N hk0) rfl (Nat.le_of_ble_eq_true rfl) ing2 mw_324 (fv_long rfl) d_Chronicle_number_2 ?_
  refine lv_ldc2 (v := 1103515245) F.hx F.hb F.hown (F.hts mw_1240) d_Chronicle_number_5 ?_
  refine lv_lmul F.hx F.hb d_Chronicle_number_8 ?_
  refine lv_ldc2 (v := 12345) F.hx F.hb F.hown (F.hts mw_1241) d_Chronicle_number_9 ?_
  refine lv_ladd F.hx F.hb d_Chronicle_number_12 ?_
  refine lv_ldc2 (v := 2147483647) F.hx F.hb F.hown (F.hts mw_1242) d_Chronicle_number_13 ?_
  refine lv_land F.hx F.hb d_Chronicle_number_16 ?_
  refine r_putL (N := 6) (T := T2) (j := 5) F hS (Chronicle_lt hk0) (Chronicle_sh hk0) (Chronicle_N hk0) rfl (Nat.le_of_ble_eq_true rfl) ing2 tyok2 nm2 rfl rfl rfl mw_324 d_Chronicle_number_17 (fun H locs hS => ?_)
  obtain ⟨M1, eM1⟩ : ∃ q, q = (setL M k0 5 ((((M.2 k0 5) * 1103515245) + 12345) &&& 2147483647)) := ⟨_, rfl⟩
  replace hS : St b C n M1 s H locs := by rw [eM1]; exact hS
  replace hT := qlet_eq hT eM1
  refine lv_aload_n F.hx F.hb d_Chronicle_number_20 rfl (lv_at hl 0 rfl) ?_
  refine r_get (v := .long (M1.2 k0 5)) (N := 6) (T := T2) (j := 5) F hS (Chronicle_lt hk0) (Chronicle_sh hk0) (Chronicle_N hk0) rfl (Nat.le_of_ble_eq_true rfl) ing2 mw_324 (fv_long rfl) d_Chronicle_number_21 ?_
  refine r_bipush F.hx F.hb d_Chronicle_number_24 rfl ?_
  refine r_lushr F.hx F.hb d_Chronicle_number_26 ?_
  refine r_l2i F.hx F.hb d_Chronicle_number_27 ?_
  subst hT
  exact r_iret F hlk hr rfl hS (q_inr_toInt _) d_Chronicle_number_28
theorem d_Chronicle_goOn_0 : decode b_Chronicle_goOn 0 = .ok (.bipush (-2), 2) := dc_16 (by decide +kernel)
theorem d_Chronicle_goOn_2 : decode b_Chronicle_goOn 2 = .ok (.istore_n 3, 1) := dc_62 (by decide +kernel)
theorem d_Chronicle_goOn_3 : decode b_Chronicle_goOn 3 = .ok (.bipush (-2), 2) := dc_16 (by decide +kernel)
theorem d_Chronicle_goOn_5 : decode b_Chronicle_goOn 5 = .ok (.istore 4, 2) := dc_54 (by decide +kernel)
theorem d_Chronicle_goOn_7 : decode b_Chronicle_goOn 7 = .ok (.bipush (-2), 2) := dc_16 (by decide +kernel)
theorem d_Chronicle_goOn_9 : decode b_Chronicle_goOn 9 = .ok (.istore 5, 2) := dc_54 (by decide +kernel)
theorem d_Chronicle_goOn_11 : decode b_Chronicle_goOn 11 = .ok (.aload_n 1, 1) := dc_43 (by decide +kernel)
theorem d_Chronicle_goOn_12 : decode b_Chronicle_goOn 12 = .ok (.getfield 41, 3) := dc_180 (by decide +kernel)
theorem d_Chronicle_goOn_15 : decode b_Chronicle_goOn 15 = .ok (.ifCond .le 46, 3) := dc_158 (by decide +kernel)
theorem d_Chronicle_goOn_18 : decode b_Chronicle_goOn 18 = .ok (.aload_n 0, 1) := dc_42 (by decide +kernel)
theorem d_Chronicle_goOn_19 : decode b_Chronicle_goOn 19 = .ok (.invokevirtual 43, 3) := dc_182 (by decide +kernel)
theorem d_Chronicle_goOn_22 : decode b_Chronicle_goOn 22 = .ok (.aload_n 1, 1) := dc_43 (by decide +kernel)
theorem d_Chronicle_goOn_23 : decode b_Chronicle_goOn 23 = .ok (.getfield 41, 3) := dc_180 (by decide +kernel)
theorem d_Chronicle_goOn_26 : decode b_Chronicle_goOn 26 = .ok (.irem, 1) := dc_112 (by decide +kernel)
theorem d_Chronicle_goOn_27 : decode b_Chronicle_goOn 27 = .ok (.istore_n 3, 1) := dc_62 (by decide +kernel)
theorem d_Chronicle_goOn_28 : decode b_Chronicle_goOn 28 = .ok (.aload_n 0, 1) := dc_42 (by decide +kernel)
theorem d_Chronicle_goOn_29 : decode b_Chronicle_goOn 29 = .ok (.invokevirtual 43, 3) := dc_182 (by decide +kernel)
theorem d_Chronicle_goOn_32 : decode b_Chronicle_goOn 32 = .ok (.iconst 4, 1) := dc_7 (by decide +kernel)
theorem d_Chronicle_goOn_33 : decode b_Chronicle_goOn 33 = .ok (.irem, 1) := dc_112 (by decide +kernel)
theorem d_Chronicle_goOn_34 : decode b_Chronicle_goOn 34 = .ok (.istore 4, 2) := dc_54 (by decide +kernel)
theorem d_Chronicle_goOn_36 : decode b_Chronicle_goOn 36 = .ok (.aload_n 2, 1) := dc_44 (by decide +kernel)
theorem d_Chronicle_goOn_37 : decode b_Chronicle_goOn 37 = .ok (.getfield 47, 3) := dc_180 (by decide +kernel)
theorem d_Chronicle_goOn_40 : decode b_Chronicle_goOn 40 = .ok (.iload_n 3, 1) := dc_29 (by decide +kernel)
theorem d_Chronicle_goOn_41 : decode b_Chronicle_goOn 41 = .ok (.invokestatic 50, 3) := dc_184 (by decide +kernel)
theorem d_Chronicle_goOn_44 : decode b_Chronicle_goOn 44 = .ok (.istore 5, 2) := dc_54 (by decide +kernel)
theorem d_Chronicle_goOn_46 : decode b_Chronicle_goOn 46 = .ok (.aload_n 2, 1) := dc_44 (by decide +kernel)
theorem d_Chronicle_goOn_47 : decode b_Chronicle_goOn 47 = .ok (.getfield 47, 3) := dc_180 (by decide +kernel)
theorem d_Chronicle_goOn_50 : decode b_Chronicle_goOn 50 = .ok (.iload_n 3, 1) := dc_29 (by decide +kernel)
theorem d_Chronicle_goOn_51 : decode b_Chronicle_goOn 51 = .ok (.iload 4, 2) := dc_21 (by decide +kernel)
theorem d_Chronicle_goOn_53 : decode b_Chronicle_goOn 53 = .ok (.invokestatic 54, 3) := dc_184 (by decide +kernel)
theorem d_Chronicle_goOn_56 : decode b_Chronicle_goOn 56 = .ok (.aload_n 2, 1) := dc_44 (by decide +kernel)
theorem d_Chronicle_goOn_57 : decode b_Chronicle_goOn 57 = .ok (.aload_n 1, 1) := dc_43 (by decide +kernel)
theorem d_Chronicle_goOn_58 : decode b_Chronicle_goOn 58 = .ok (.invokevirtual 58, 3) := dc_182 (by decide +kernel)
theorem d_Chronicle_goOn_61 : decode b_Chronicle_goOn 61 = .ok (.aload_n 0, 1) := dc_42 (by decide +kernel)
theorem d_Chronicle_goOn_62 : decode b_Chronicle_goOn 62 = .ok (.getfield 9, 3) := dc_180 (by decide +kernel)
theorem d_Chronicle_goOn_65 : decode b_Chronicle_goOn 65 = .ok (.aload_n 0, 1) := dc_42 (by decide +kernel)
theorem d_Chronicle_goOn_66 : decode b_Chronicle_goOn 66 = .ok (.getfield 21, 3) := dc_180 (by decide +kernel)
theorem d_Chronicle_goOn_69 : decode b_Chronicle_goOn 69 = .ok (.iload_n 3, 1) := dc_29 (by decide +kernel)
theorem d_Chronicle_goOn_70 : decode b_Chronicle_goOn 70 = .ok (.invokestatic 54, 3) := dc_184 (by decide +kernel)
theorem d_Chronicle_goOn_73 : decode b_Chronicle_goOn 73 = .ok (.aload_n 0, 1) := dc_42 (by decide +kernel)
theorem d_Chronicle_goOn_74 : decode b_Chronicle_goOn 74 = .ok (.getfield 15, 3) := dc_180 (by decide +kernel)
theorem d_Chronicle_goOn_77 : decode b_Chronicle_goOn 77 = .ok (.aload_n 0, 1) := dc_42 (by decide +kernel)
theorem d_Chronicle_goOn_78 : decode b_Chronicle_goOn 78 = .ok (.getfield 21, 3) := dc_180 (by decide +kernel)
theorem d_Chronicle_goOn_81 : decode b_Chronicle_goOn 81 = .ok (.iload 4, 2) := dc_21 (by decide +kernel)
theorem d_Chronicle_goOn_83 : decode b_Chronicle_goOn 83 = .ok (.invokestatic 54, 3) := dc_184 (by decide +kernel)
theorem d_Chronicle_goOn_86 : decode b_Chronicle_goOn 86 = .ok (.aload_n 0, 1) := dc_42 (by decide +kernel)
theorem d_Chronicle_goOn_87 : decode b_Chronicle_goOn 87 = .ok (.getfield 18, 3) := dc_180 (by decide +kernel)
theorem d_Chronicle_goOn_90 : decode b_Chronicle_goOn 90 = .ok (.aload_n 0, 1) := dc_42 (by decide +kernel)
theorem d_Chronicle_goOn_91 : decode b_Chronicle_goOn 91 = .ok (.getfield 21, 3) := dc_180 (by decide +kernel)
theorem d_Chronicle_goOn_94 : decode b_Chronicle_goOn 94 = .ok (.iload 5, 2) := dc_21 (by decide +kernel)
theorem d_Chronicle_goOn_96 : decode b_Chronicle_goOn 96 = .ok (.invokestatic 54, 3) := dc_184 (by decide +kernel)
theorem d_Chronicle_goOn_99 : decode b_Chronicle_goOn 99 = .ok (.aload_n 0, 1) := dc_42 (by decide +kernel)
theorem d_Chronicle_goOn_100 : decode b_Chronicle_goOn 100 = .ok (.dup, 1) := dc_89 (by decide +kernel)
theorem d_Chronicle_goOn_101 : decode b_Chronicle_goOn 101 = .ok (.getfield 21, 3) := dc_180 (by decide +kernel)
theorem d_Chronicle_goOn_104 : decode b_Chronicle_goOn 104 = .ok (.iconst 1, 1) := dc_4 (by decide +kernel)
theorem d_Chronicle_goOn_105 : decode b_Chronicle_goOn 105 = .ok (.iadd, 1) := dc_96 (by decide +kernel)
theorem d_Chronicle_goOn_106 : decode b_Chronicle_goOn 106 = .ok (.putfield 21, 3) := dc_181 (by decide +kernel)
theorem d_Chronicle_goOn_109 : decode b_Chronicle_goOn 109 = .ok (.return_, 1) := dc_177 (by decide +kernel)
def t_Chronicle_goOn_L61 (k0 : Nat) (k1 : Nat) (k2 : Nat)  (M : Mem) (v1_ : Int) (v2_ : Int) (v3_ : Int) : Option (Mem) := (qlet (t_WF_put M (k0 + 1) 99 (M.1 k0 3) v1_) fun q16 => (qlet (t_WF_put q16 (k0 + 2) 99 (q16.1 k0 3) v2_) fun q19 => (qlet (t_WF_put q19 (k0 + 3) 99 (q19.1 k0 3) v3_) fun q22 => (qlet (setI q22 k0 3 (w32 ((q22.1 k0 3) + 1))) fun M25 => (some M25)))))
def t_Chronicle_goOn (M : Mem) (k0 : Nat) (k1 : Nat) (k2 : Nat) : Option (Mem) := (if (M.1 k1 14) ≤ 0 then (t_Chronicle_goOn_L61 k0 k1 k2 M (-2) (-2) (-2)) else (qlet (t_Chronicle_number M k0) fun q3 => (if ((q3.1).1 k1 14) = 0 then none else (qlet (t_Chronicle_number (q3.1) k0) fun q7 => (qlet (t_WF_look (q7.1) (k2 + 1) 4 (q_rem (q3.2) ((q3.1).1 k1 14))) fun q9 => (qlet (t_WF_put (q7.1) (k2 + 1) 4 (q_rem (q3.2) ((q3.1).1 k1 14)) (q_rem (q7.2) 4)) fun q11 => (obind (t_Scene_pourAnew q11 k2 k1) fun q13 => (t_Chronicle_goOn_L61 k0 k1 k2 q13 (q_rem (q3.2) ((q3.1).1 k1 14)) (q_rem (q7.2) 4) q9))))))))
set_option maxHeartbeats 4000000 in
set_option maxRecDepth 100000 in
theorem k_Chronicle_goOn_L61 (l : Launch) {p : Program} {e : Env} {s : State} {m : MethodId} {below : List Frame} {meth : Method} {c : Code} {b n : Nat} {C : CT} (hlo : 191 ≤ n) (k0 : Nat) (k1 : Nat) (k2 : Nat) (hk0 : isChronicle k0) (hk1 : isTown k1) (hk2 : isScene k2) (F : Cx b p m c b_Chronicle_goOn 6 s ([.ref (b + k0), .ref (b + k1), .ref (b + k2)] : List Value).toArray "WardFalls$Chronicle" C n 191) (hlk : meth.locks = false) (hr : meth.sig.returnType = none) {res : Mem} (M : Mem) (v1_ : Int) (hv1_ : InR v1_) (v2_ : Int) (hv2_ : InR v2_) (v3_ : Int) (hv3_ : InR v3_) (H : Heap) (locs : List Loc) (ls : Array Slot) (hS : St b C n M s H locs) (hl : lv_has ls 6 [(0, .ref (b + k0)), (3, vI v1_), (4, vI v2_), (5, vI v3_)]) (hT : t_Chronicle_goOn_L61 k0 k1 k2 M v1_ v2_ v3_ = some res) : W p l e (headSpec (wsM y_Chronicle_goOn b_Chronicle_goOn 6 (none)) (rmD 5)).room s m ([.ref (b + k0), .ref (b + k1), .ref (b + k2)] : List Value).toArray below meth c H locs 0 0 (MQ below (QV b C n res) ([.ref (b + k0), .ref (b + k1), .ref (b + k2)] : List Value).toArray s 0 0 (frb b)) (F0 m 61 ls []) := by
  unfold t_Chronicle_goOn_L61 at hT
  refine lv_aload_n F.hx F.hb d_Chronicle_goOn_61 rfl (lv_at hl 0 rfl) ?_
  refine r_get (v := .ref (b + (k0 + 1))) (N := 6) (T := T2) (j := 0) F hS (Chronicle_lt hk0) (Chronicle_sh hk0) (Chronicle_N hk0) rfl (Nat.le_of_ble_eq_true rfl) ing2 mw_314 (Chronicle_g0 hk0 _) d_Chronicle_goOn_62 ?_
  refine lv_aload_n F.hx F.hb d_Chronicle_goOn_65 rfl (lv_at hl 0 rfl) ?_
  refine r_get (v := vI (M.1 k0 3)) (N := 6) (T := T2) (j := 3) F hS (Chronicle_lt hk0) (Chronicle_sh hk0) (Chronicle_N hk0) rfl (Nat.le_of_ble_eq_true rfl) ing2 mw_320 (fv_int rfl) d_Chronicle_goOn_66 ?_
  have i15 := hS.rng k0 3
  refine lv_iload_n F.hx F.hb d_Chronicle_goOn_69 rfl (lv_at hl 1 rfl) ?_
  obtain ⟨q16, hq16⟩ : ∃ q, q = (t_WF_put M (k0 + 1) 99 (M.1 k0 3) v1_) := ⟨_, rfl⟩
  replace hT := qlet_eq hT hq16
  refine r_backV F hS (r_runSN (As := [.ref (b + (k0 + 1)), vI (M.1 k0 3), vI v1_]) F hS (c_WF_put l F.2.2.1 M (k0 + 1) 99 (M.1 k0 3) v1_ (Chronicle_f0 hk0) i15 hv1_ _ hq16.symm) mw_512 mw_511 mw_1 gs_Chronicle_54 hd_WF_put ⟨Nat.le_of_ble_eq_true rfl, Nat.le_of_ble_eq_true rfl⟩ rfl hl.1 (Nat.le_of_ble_eq_true rfl) ⟨Nat.zero_le _, Nat.zero_le _⟩ rfl d_Chronicle_goOn_70) (fun H locs hS => ?_)
  refine lv_aload_n F.hx F.hb d_Chronicle_goOn_73 rfl (lv_at hl 0 rfl) ?_
  refine r_get (v := .ref (b + (k0 + 2))) (N := 6) (T := T2) (j := 1) F hS (Chronicle_lt hk0) (Chronicle_sh hk0) (Chronicle_N hk0) rfl (Nat.le_of_ble_eq_true rfl) ing2 mw_316 (Chronicle_g1 hk0 _) d_Chronicle_goOn_74 ?_
  refine lv_aload_n F.hx F.hb d_Chronicle_goOn_77 rfl (lv_at hl 0 rfl) ?_
  refine r_get (v := vI (q16.1 k0 3)) (N := 6) (T := T2) (j := 3) F hS (Chronicle_lt hk0) (Chronicle_sh hk0) (Chronicle_N hk0) rfl (Nat.le_of_ble_eq_true rfl) ing2 mw_320 (fv_int rfl) d_Chronicle_goOn_78 ?_
  have i18 := hS.rng k0 3
  refine lv_iload F.hx F.hb d_Chronicle_goOn_81 (lv_at hl 2 rfl) ?_
  obtain ⟨q19, hq19⟩ : ∃ q, q = (t_WF_put q16 (k0 + 2) 99 (q16.1 k0 3) v2_) := ⟨_, rfl⟩
  replace hT := qlet_eq hT hq19
  refine r_backV F hS (r_runSN (As := [.ref (b + (k0 + 2)), vI (q16.1 k0 3), vI v2_]) F hS (c_WF_put l F.2.2.1 q16 (k0 + 2) 99 (q16.1 k0 3) v2_ (Chronicle_f1 hk0) i18 hv2_ _ hq19.symm) mw_512 mw_511 mw_1 gs_Chronicle_54 hd_WF_put ⟨Nat.le_of_ble_eq_true rfl, Nat.le_of_ble_eq_true rfl⟩ rfl hl.1 (Nat.le_of_ble_eq_true rfl) ⟨Nat.zero_le _, Nat.zero_le _⟩ rfl d_Chronicle_goOn_83) (fun H locs hS => ?_)
  refine lv_aload_n F.hx F.hb d_Chronicle_goOn_86 rfl (lv_at hl 0 rfl) ?_
  refine r_get (v := .ref (b + (k0 + 3))) (N := 6) (T := T2) (j := 2) F hS (Chronicle_lt hk0) (Chronicle_sh hk0) (Chronicle_N hk0) rfl (Nat.le_of_ble_eq_true rfl) ing2 mw_318 (Chronicle_g2 hk0 _) d_Chronicle_goOn_87 ?_
  refine lv_aload_n F.hx F.hb d_Chronicle_goOn_90 rfl (lv_at hl 0 rfl) ?_
  refine r_get (v := vI (q19.1 k0 3)) (N := 6) (T := T2) (j := 3) F hS (Chronicle_lt hk0) (Chronicle_sh hk0) (Chronicle_N hk0) rfl (Nat.le_of_ble_eq_true rfl) ing2 mw_320 (fv_int rfl) d_Chronicle_goOn_91 ?_
  have i21 := hS.rng k0 3
  refine lv_iload F.hx F.hb d_Chronicle_goOn_94 (lv_at hl 3 rfl) ?_
  obtain ⟨q22, hq22⟩ : ∃ q, q = (t_WF_put q19 (k0 + 3) 99 (q19.1 k0 3) v3_) := ⟨_, rfl⟩
  replace hT := qlet_eq hT hq22
  refine r_backV F hS (r_runSN (As := [.ref (b + (k0 + 3)), vI (q19.1 k0 3), vI v3_]) F hS (c_WF_put l F.2.2.1 q19 (k0 + 3) 99 (q19.1 k0 3) v3_ (Chronicle_f2 hk0) i21 hv3_ _ hq22.symm) mw_512 mw_511 mw_1 gs_Chronicle_54 hd_WF_put ⟨Nat.le_of_ble_eq_true rfl, Nat.le_of_ble_eq_true rfl⟩ rfl hl.1 (Nat.le_of_ble_eq_true rfl) ⟨Nat.zero_le _, Nat.zero_le _⟩ rfl d_Chronicle_goOn_96) (fun H locs hS => ?_)
  refine lv_aload_n F.hx F.hb d_Chronicle_goOn_99 rfl (lv_at hl 0 rfl) ?_
  refine lv_dup F.hx F.hb d_Chronicle_goOn_100 rfl ?_
  refine r_get (v := vI (q22.1 k0 3)) (N := 6) (T := T2) (j := 3) F hS (Chronicle_lt hk0) (Chronicle_sh hk0) (Chronicle_N hk0) rfl (Nat.le_of_ble_eq_true rfl) ing2 mw_320 (fv_int rfl) d_Chronicle_goOn_101 ?_
  have i24 := hS.rng k0 3
  refine r_iconst F.hx F.hb d_Chronicle_goOn_104 ?_
  refine r_iadd F.hx F.hb d_Chronicle_goOn_105 ?_
  refine r_putI (N := 6) (T := T2) (j := 3) F hS (Chronicle_lt hk0) (Chronicle_sh hk0) (Chronicle_N hk0) rfl (Nat.le_of_ble_eq_true rfl) ing2 tyok2 nm2 rfl rfl rfl rfl rfl (Chronicle_dyn hk0 _) mw_320 (inr_w32 _) d_Chronicle_goOn_106 (fun H locs hS => ?_)
  obtain ⟨M25, eM25⟩ : ∃ q, q = (setI q22 k0 3 (w32 ((q22.1 k0 3) + 1))) := ⟨_, rfl⟩
  replace hS : St b C n M25 s H locs := by rw [eM25]; exact hS
  replace hT := qlet_eq hT eM25
  cases hT
  exact r_vret F hlk hr hS d_Chronicle_goOn_109
set_option maxHeartbeats 4000000 in
set_option maxRecDepth 100000 in
theorem c_Chronicle_goOn (l : Launch) {b n : Nat} {C : CT} (hlo : 191 ≤ n) (M : Mem) (k0 : Nat) (k1 : Nat) (k2 : Nat) (hk0 : isChronicle k0) (hk1 : isTown k1) (hk2 : isScene k2) (res : Mem) (hT : t_Chronicle_goOn M k0 k1 k2 = some res) : CM l b C n 5 y_Chronicle_goOn b_Chronicle_goOn 6 (none) [.ref (b + k0), .ref (b + k1), .ref (b + k2)] M (QV b C n res) := by
  refine CM.of (lo := 191) (ow := "WardFalls$Chronicle") (by decide) rfl (Nat.le_of_ble_eq_true rfl) hlo (fun p e s m below meth c F hlk hr hS ls hl => ?_)
  have hl : lv_has ls 6 [(0, .ref (b + k0)), (1, .ref (b + k1)), (2, .ref (b + k2))] := hl
  unfold t_Chronicle_goOn at hT
  refine r_bipush F.hx F.hb d_Chronicle_goOn_0 rfl ?_
  refine lv_istore_n (lv' := [(3, vI (-2)), (0, .ref (b + k0)), (1, .ref (b + k1)), (2, .ref (b + k2))]) F.hx F.hb d_Chronicle_goOn_2 rfl hl (Nat.le_of_ble_eq_true rfl) rfl (fun ls hl => ?_)
  refine r_bipush F.hx F.hb d_Chronicle_goOn_3 rfl ?_
  refine lv_istore (lv' := [(4, vI (-2)), (3, vI (-2)), (0, .ref (b + k0)), (1, .ref (b + k1)), (2, .ref (b + k2))]) F.hx F.hb d_Chronicle_goOn_5 hl (Nat.le_of_ble_eq_true rfl) rfl (fun ls hl => ?_)
  refine r_bipush F.hx F.hb d_Chronicle_goOn_7 rfl ?_
  refine lv_istore (lv' := [(5, vI (-2)), (4, vI (-2)), (3, vI (-2)), (0, .ref (b + k0)), (1, .ref (b + k1)), (2, .ref (b + k2))]) F.hx F.hb d_Chronicle_goOn_9 hl (Nat.le_of_ble_eq_true rfl) rfl (fun ls hl => ?_)
  refine lv_aload_n F.hx F.hb d_Chronicle_goOn_11 rfl (lv_at hl 4 rfl) ?_
  refine r_get (v := vI (M.1 k1 14)) (N := 20) (T := T11) (j := 14) F hS (Town_lt hk1) (Town_sh hk1) (Town_N hk1) rfl (Nat.le_of_ble_eq_true rfl) ing11 mw_134 (fv_int rfl) d_Chronicle_goOn_12 ?_
  have i1 := hS.rng k1 14
  refine r_if_le (tgt := 61) F.hx F.hb i1 d_Chronicle_goOn_15 (by decide) (fun c2 => ?_) (fun c2 => ?_)
  · replace hT := (if_pos c2).symm.trans hT
    exact k_Chronicle_goOn_L61 l hlo k0 k1 k2 hk0 hk1 hk2 F hlk hr M (-2) (inr_c rfl) (-2) (inr_c rfl) (-2) (inr_c rfl) _ _ _ hS (lv_sub hl [3, 2, 1, 0] rfl) hT
  · replace hT := (if_neg c2).symm.trans hT
    refine lv_aload_n F.hx F.hb d_Chronicle_goOn_18 rfl (lv_at hl 3 rfl) ?_
    obtain ⟨q3, hq3⟩ : ∃ q, q = (t_Chronicle_number M k0) := ⟨_, rfl⟩
    replace hT := qlet_eq hT hq3
    refine r_backI F hS (r_runV (k := k0) (N := 6) (T := T2) (As := []) F hS (Chronicle_lt hk0) (Chronicle_sh hk0) rfl (c_Chronicle_number l F.2.2.1 M k0 hk0 _ hq3.symm) gs_Chronicle_43 hd_Chronicle_number ⟨Nat.le_of_ble_eq_true rfl, Nat.le_of_ble_eq_true rfl⟩ rfl hl.1 (Nat.le_of_ble_eq_true rfl) ⟨Nat.zero_le _, Nat.zero_le _⟩ rfl d_Chronicle_goOn_19) (fun H locs hS h4 => ?_)
    refine lv_aload_n F.hx F.hb d_Chronicle_goOn_22 rfl (lv_at hl 4 rfl) ?_
    refine r_get (v := vI ((q3.1).1 k1 14)) (N := 20) (T := T11) (j := 14) F hS (Town_lt hk1) (Town_sh hk1) (Town_N hk1) rfl (Nat.le_of_ble_eq_true rfl) ing11 mw_134 (fv_int rfl) d_Chronicle_goOn_23 ?_
    have i5 := hS.rng k1 14
    obtain ⟨c6, hT⟩ := q_guardn hT
    refine r_irem F.hx F.hb i5 c6 d_Chronicle_goOn_26 ?_
    refine lv_istore_n (lv' := [(3, vI (q_rem (q3.2) ((q3.1).1 k1 14))), (5, vI (-2)), (4, vI (-2)), (0, .ref (b + k0)), (1, .ref (b + k1)), (2, .ref (b + k2))]) F.hx F.hb d_Chronicle_goOn_27 rfl hl (Nat.le_of_ble_eq_true rfl) rfl (fun ls hl => ?_)
    refine lv_aload_n F.hx F.hb d_Chronicle_goOn_28 rfl (lv_at hl 3 rfl) ?_
    obtain ⟨q7, hq7⟩ : ∃ q, q = (t_Chronicle_number (q3.1) k0) := ⟨_, rfl⟩
    replace hT := qlet_eq hT hq7
    refine r_backI F hS (r_runV (k := k0) (N := 6) (T := T2) (As := []) F hS (Chronicle_lt hk0) (Chronicle_sh hk0) rfl (c_Chronicle_number l F.2.2.1 (q3.1) k0 hk0 _ hq7.symm) gs_Chronicle_43 hd_Chronicle_number ⟨Nat.le_of_ble_eq_true rfl, Nat.le_of_ble_eq_true rfl⟩ rfl hl.1 (Nat.le_of_ble_eq_true rfl) ⟨Nat.zero_le _, Nat.zero_le _⟩ rfl d_Chronicle_goOn_29) (fun H locs hS h8 => ?_)
    refine r_iconst F.hx F.hb d_Chronicle_goOn_32 ?_
    refine r_irem F.hx F.hb (inr_c rfl) (by decide) d_Chronicle_goOn_33 ?_
    refine lv_istore (lv' := [(4, vI (q_rem (q7.2) 4)), (3, vI (q_rem (q3.2) ((q3.1).1 k1 14))), (5, vI (-2)), (0, .ref (b + k0)), (1, .ref (b + k1)), (2, .ref (b + k2))]) F.hx F.hb d_Chronicle_goOn_34 hl (Nat.le_of_ble_eq_true rfl) rfl (fun ls hl => ?_)
    refine lv_aload_n F.hx F.hb d_Chronicle_goOn_36 rfl (lv_at hl 5 rfl) ?_
    refine r_get (v := .ref (b + (k2 + 1))) (N := 7) (T := T9) (j := 0) F hS (Scene_lt hk2) (Scene_sh hk2) (Scene_N hk2) rfl (Nat.le_of_ble_eq_true rfl) ing9 mw_273 (Scene_g0 hk2 _) d_Chronicle_goOn_37 ?_
    refine lv_iload_n F.hx F.hb d_Chronicle_goOn_40 rfl (lv_at hl 1 rfl) ?_
    obtain ⟨q9, hq9⟩ : ∃ q, q = (t_WF_look (q7.1) (k2 + 1) 4 (q_rem (q3.2) ((q3.1).1 k1 14))) := ⟨_, rfl⟩
    replace hT := qlet_eq hT hq9
    refine r_backI F hS (r_runSN (As := [.ref (b + (k2 + 1)), vI (q_rem (q3.2) ((q3.1).1 k1 14))]) F hS (c_WF_look l F.2.2.1 (q7.1) (k2 + 1) 4 (q_rem (q3.2) ((q3.1).1 k1 14)) (Scene_f0 hk2) (q_inr_toInt _) _ hq9.symm) mw_519 mw_518 mw_1 gs_Chronicle_50 hd_WF_look ⟨Nat.le_of_ble_eq_true rfl, Nat.le_of_ble_eq_true rfl⟩ rfl hl.1 (Nat.le_of_ble_eq_true rfl) ⟨Nat.zero_le _, Nat.zero_le _⟩ rfl d_Chronicle_goOn_41) (fun H locs hS h10 => ?_)
    refine lv_istore (lv' := [(5, vI q9), (4, vI (q_rem (q7.2) 4)), (3, vI (q_rem (q3.2) ((q3.1).1 k1 14))), (0, .ref (b + k0)), (1, .ref (b + k1)), (2, .ref (b + k2))]) F.hx F.hb d_Chronicle_goOn_44 hl (Nat.le_of_ble_eq_true rfl) rfl (fun ls hl => ?_)
    refine lv_aload_n F.hx F.hb d_Chronicle_goOn_46 rfl (lv_at hl 5 rfl) ?_
    refine r_get (v := .ref (b + (k2 + 1))) (N := 7) (T := T9) (j := 0) F hS (Scene_lt hk2) (Scene_sh hk2) (Scene_N hk2) rfl (Nat.le_of_ble_eq_true rfl) ing9 mw_273 (Scene_g0 hk2 _) d_Chronicle_goOn_47 ?_
    refine lv_iload_n F.hx F.hb d_Chronicle_goOn_50 rfl (lv_at hl 2 rfl) ?_
    refine lv_iload F.hx F.hb d_Chronicle_goOn_51 (lv_at hl 1 rfl) ?_
    obtain ⟨q11, hq11⟩ : ∃ q, q = (t_WF_put (q7.1) (k2 + 1) 4 (q_rem (q3.2) ((q3.1).1 k1 14)) (q_rem (q7.2) 4)) := ⟨_, rfl⟩
    replace hT := qlet_eq hT hq11
    refine r_backV F hS (r_runSN (As := [.ref (b + (k2 + 1)), vI (q_rem (q3.2) ((q3.1).1 k1 14)), vI (q_rem (q7.2) 4)]) F hS (c_WF_put l F.2.2.1 (q7.1) (k2 + 1) 4 (q_rem (q3.2) ((q3.1).1 k1 14)) (q_rem (q7.2) 4) (Scene_f0 hk2) (q_inr_toInt _) (q_inr_toInt _) _ hq11.symm) mw_512 mw_511 mw_1 gs_Chronicle_54 hd_WF_put ⟨Nat.le_of_ble_eq_true rfl, Nat.le_of_ble_eq_true rfl⟩ rfl hl.1 (Nat.le_of_ble_eq_true rfl) ⟨Nat.zero_le _, Nat.zero_le _⟩ rfl d_Chronicle_goOn_53) (fun H locs hS => ?_)
    refine lv_aload_n F.hx F.hb d_Chronicle_goOn_56 rfl (lv_at hl 5 rfl) ?_
    refine lv_aload_n F.hx F.hb d_Chronicle_goOn_57 rfl (lv_at hl 4 rfl) ?_
    obtain ⟨q13, hq13, hT⟩ := q_obind hT
    refine r_backV F hS (r_runV (k := k2) (N := 7) (T := T9) (As := [.ref (b + k1)]) F hS (Scene_lt hk2) (Scene_sh hk2) rfl (c_Scene_pourAnew l F.2.2.1 q11 k2 k1 hk2 hk1 _ hq13) gs_Chronicle_58 hd_Scene_pourAnew ⟨Nat.le_of_ble_eq_true rfl, Nat.le_of_ble_eq_true rfl⟩ rfl hl.1 (Nat.le_of_ble_eq_true rfl) ⟨Nat.zero_le _, Nat.zero_le _⟩ rfl d_Chronicle_goOn_58) (fun H locs hS => ?_)
    exact k_Chronicle_goOn_L61 l hlo k0 k1 k2 hk0 hk1 hk2 F hlk hr q13 (q_rem (q3.2) ((q3.1).1 k1 14)) (q_inr_toInt _) (q_rem (q7.2) 4) (q_inr_toInt _) q9 h10 _ _ _ hS (lv_sub hl [3, 2, 1, 0] rfl) hT
theorem d_WF_years_0 : decode b_WF_years 0 = .ok (.iload_n 1, 1) := dc_27 (by decide +kernel)
theorem d_WF_years_1 : decode b_WF_years 1 = .ok (.ifCond .lt 23, 3) := dc_155 (by decide +kernel)
theorem d_WF_years_4 : decode b_WF_years 4 = .ok (.iload_n 1, 1) := dc_27 (by decide +kernel)
theorem d_WF_years_5 : decode b_WF_years 5 = .ok (.bipush 99, 2) := dc_16 (by decide +kernel)
theorem d_WF_years_7 : decode b_WF_years 7 = .ok (.if_icmp .gt 17, 3) := dc_163 (by decide +kernel)
theorem d_WF_years_10 : decode b_WF_years 10 = .ok (.aload_n 0, 1) := dc_42 (by decide +kernel)
theorem d_WF_years_11 : decode b_WF_years 11 = .ok (.getfield 59, 3) := dc_180 (by decide +kernel)
theorem d_WF_years_14 : decode b_WF_years 14 = .ok (.getfield 218, 3) := dc_180 (by decide +kernel)
theorem d_WF_years_17 : decode b_WF_years 17 = .ok (.iload_n 1, 1) := dc_27 (by decide +kernel)
theorem d_WF_years_18 : decode b_WF_years 18 = .ok (.iadd, 1) := dc_96 (by decide +kernel)
theorem d_WF_years_19 : decode b_WF_years 19 = .ok (.bipush 99, 2) := dc_16 (by decide +kernel)
theorem d_WF_years_21 : decode b_WF_years 21 = .ok (.if_icmp .le 5, 3) := dc_164 (by decide +kernel)
theorem d_WF_years_24 : decode b_WF_years 24 = .ok (.iconst (-1), 1) := dc_2 (by decide +kernel)
theorem d_WF_years_25 : decode b_WF_years 25 = .ok (.ireturn, 1) := dc_172 (by decide +kernel)
theorem d_WF_years_26 : decode b_WF_years 26 = .ok (.iconst 0, 1) := dc_3 (by decide +kernel)
theorem d_WF_years_27 : decode b_WF_years 27 = .ok (.istore_n 2, 1) := dc_61 (by decide +kernel)
theorem d_WF_years_28 : decode b_WF_years 28 = .ok (.iload_n 2, 1) := dc_28 (by decide +kernel)
theorem d_WF_years_29 : decode b_WF_years 29 = .ok (.iload_n 1, 1) := dc_27 (by decide +kernel)
theorem d_WF_years_30 : decode b_WF_years 30 = .ok (.if_icmp .ge 24, 3) := dc_162 (by decide +kernel)
theorem d_WF_years_33 : decode b_WF_years 33 = .ok (.aload_n 0, 1) := dc_42 (by decide +kernel)
theorem d_WF_years_34 : decode b_WF_years 34 = .ok (.getfield 59, 3) := dc_180 (by decide +kernel)
theorem d_WF_years_37 : decode b_WF_years 37 = .ok (.aload_n 0, 1) := dc_42 (by decide +kernel)
theorem d_WF_years_38 : decode b_WF_years 38 = .ok (.getfield 22, 3) := dc_180 (by decide +kernel)
theorem d_WF_years_41 : decode b_WF_years 41 = .ok (.aload_n 0, 1) := dc_42 (by decide +kernel)
theorem d_WF_years_42 : decode b_WF_years 42 = .ok (.getfield 46, 3) := dc_180 (by decide +kernel)
theorem d_WF_years_45 : decode b_WF_years 45 = .ok (.invokevirtual 391, 3) := dc_182 (by decide +kernel)
theorem d_WF_years_48 : decode b_WF_years 48 = .ok (.iinc 2 1, 3) := dc_132 (by decide +kernel)
theorem d_WF_years_51 : decode b_WF_years 51 = .ok (.goto (-23), 3) := dc_167 (by decide +kernel)
theorem d_WF_years_54 : decode b_WF_years 54 = .ok (.iload_n 1, 1) := dc_27 (by decide +kernel)
theorem d_WF_years_55 : decode b_WF_years 55 = .ok (.ifCond .le 18, 3) := dc_158 (by decide +kernel)
theorem d_WF_years_58 : decode b_WF_years 58 = .ok (.aload_n 0, 1) := dc_42 (by decide +kernel)
theorem d_WF_years_59 : decode b_WF_years 59 = .ok (.getfield 69, 3) := dc_180 (by decide +kernel)
theorem d_WF_years_62 : decode b_WF_years 62 = .ok (.invokevirtual 279, 3) := dc_182 (by decide +kernel)
theorem d_WF_years_65 : decode b_WF_years 65 = .ok (.aload_n 0, 1) := dc_42 (by decide +kernel)
theorem d_WF_years_66 : decode b_WF_years 66 = .ok (.getfield 83, 3) := dc_180 (by decide +kernel)
theorem d_WF_years_69 : decode b_WF_years 69 = .ok (.iconst 0, 1) := dc_3 (by decide +kernel)
theorem d_WF_years_70 : decode b_WF_years 70 = .ok (.putfield 280, 3) := dc_181 (by decide +kernel)
theorem d_WF_years_73 : decode b_WF_years 73 = .ok (.aload_n 0, 1) := dc_42 (by decide +kernel)
theorem d_WF_years_74 : decode b_WF_years 74 = .ok (.getfield 59, 3) := dc_180 (by decide +kernel)
theorem d_WF_years_77 : decode b_WF_years 77 = .ok (.getfield 218, 3) := dc_180 (by decide +kernel)
theorem d_WF_years_80 : decode b_WF_years 80 = .ok (.ireturn, 1) := dc_172 (by decide +kernel)
def t_WF_years_L73 (x1 : Int)  (M : Mem)  : Option (Mem × Int) := (some (M, (M.1 62 3)))
def t_WF_years_L28 (x1 : Int)  : Nat → Mem → Int → Option (Mem × Int)
  | 0, _, _ => none
  | fu + 1, M, v2_ => (if x1 ≤ v2_ then (if x1 ≤ 0 then (t_WF_years_L73 x1 M) else (qlet (t_Past_clear M) fun q7 => (qlet (setI q7 177 8 0) fun M9 => (t_WF_years_L73 x1 M9)))) else (obind (t_Chronicle_goOn M 62 ((M.1 0 4).toNat) 47) fun q11 => (t_WF_years_L28 x1 fu q11 (w32 (v2_ + 1)))))
def t_WF_years (M : Mem) (x1 : Int) : Option (Mem × Int) := (if x1 < 0 then (some (M, (-1))) else (if 99 < x1 then (some (M, (-1))) else (if (w32 ((M.1 62 3) + x1)) ≤ 99 then (t_WF_years_L28 x1 FU M 0) else (some (M, (-1))))))
set_option maxHeartbeats 4000000 in
set_option maxRecDepth 100000 in
theorem k_WF_years_L73 (l : Launch) {p : Program} {e : Env} {s : State} {m : MethodId} {below : List Frame} {meth : Method} {c : Code} {b n : Nat} {C : CT} (hlo : 191 ≤ n) (x1 : Int) (hx1 : InR x1) (F : Cx b p m c b_WF_years 3 s ([.ref (b + 0), vI x1] : List Value).toArray "WardFalls" C n 191) (hlk : meth.locks = false) (hr : meth.sig.returnType = some .int) {res : Mem × Int} (M : Mem)  (H : Heap) (locs : List Loc) (ls : Array Slot) (hS : St b C n M s H locs) (hl : lv_has ls 3 [(0, .ref (b + 0))]) (hT : t_WF_years_L73 x1 M = some res) : W p l e (headSpec (wsM y_WF_years b_WF_years 3 (some .int)) (rmD 6)).room s m ([.ref (b + 0), vI x1] : List Value).toArray below meth c H locs 0 0 (MQ below (QI b C n res.1 res.2) ([.ref (b + 0), vI x1] : List Value).toArray s 0 0 (frb b)) (F0 m 73 ls []) := by
  unfold t_WF_years_L73 at hT
  refine lv_aload_n F.hx F.hb d_WF_years_73 rfl (lv_at hl 0 rfl) ?_
  refine r_get (v := .ref (b + 62)) (N := 19) (T := T0) (j := 11) F hS (show 0 < 191 by decide) (show shK 0 = 4 from rfl) (show shN 0 = 19 from rfl) rfl (Nat.le_of_ble_eq_true rfl) ing0 mw_561 (fv_sg rfl rfl rfl) d_WF_years_74 ?_
  refine r_get (v := vI (M.1 62 3)) (N := 6) (T := T2) (j := 3) F hS (show 62 < 191 by decide) (show shK 62 = 6 from rfl) (show shN 62 = 6 from rfl) rfl (Nat.le_of_ble_eq_true rfl) ing2 mw_321 (fv_int rfl) d_WF_years_77 ?_
  have i13 := hS.rng 62 3
  cases hT
  exact r_iret F hlk hr rfl hS i13 d_WF_years_80
set_option maxHeartbeats 4000000 in
set_option maxRecDepth 100000 in
theorem k_WF_years_L28 (l : Launch) {p : Program} {e : Env} {s : State} {m : MethodId} {below : List Frame} {meth : Method} {c : Code} {b n : Nat} {C : CT} (hlo : 191 ≤ n) (x1 : Int) (hx1 : InR x1) (F : Cx b p m c b_WF_years 3 s ([.ref (b + 0), vI x1] : List Value).toArray "WardFalls" C n 191) (hlk : meth.locks = false) (hr : meth.sig.returnType = some .int) {res : Mem × Int} : ∀ (fu : Nat) (M : Mem) (v2_ : Int) (hv2_ : InR v2_) (H : Heap) (locs : List Loc) (ls : Array Slot), St b C n M s H locs → lv_has ls 3 [(0, .ref (b + 0)), (1, vI x1), (2, vI v2_)] → t_WF_years_L28 x1 fu M v2_ = some res → W p l e (headSpec (wsM y_WF_years b_WF_years 3 (some .int)) (rmD 6)).room s m ([.ref (b + 0), vI x1] : List Value).toArray below meth c H locs 0 0 (MQ below (QI b C n res.1 res.2) ([.ref (b + 0), vI x1] : List Value).toArray s 0 0 (frb b)) (F0 m 28 ls []) := by
  intro fu
  induction fu with
  | zero => intro M v2_ hv2_ H locs ls hS hl hT; exact absurd hT (by simp [t_WF_years_L28])
  | succ fu ih =>
    intro M v2_ hv2_ H locs ls hS hl hT
    rw [t_WF_years_L28] at hT
    refine lv_iload_n F.hx F.hb d_WF_years_28 rfl (lv_at hl 2 rfl) ?_
    refine lv_iload_n F.hx F.hb d_WF_years_29 rfl (lv_at hl 1 rfl) ?_
    refine r_icmp_ge (tgt := 54) F.hx F.hb hv2_ hx1 d_WF_years_30 (by decide) (fun c5 => ?_) (fun c5 => ?_)
    · replace hT := (if_pos c5).symm.trans hT
      refine lv_iload_n F.hx F.hb d_WF_years_54 rfl (lv_at hl 1 rfl) ?_
      refine r_if_le (tgt := 73) F.hx F.hb hx1 d_WF_years_55 (by decide) (fun c6 => ?_) (fun c6 => ?_)
      · replace hT := (if_pos c6).symm.trans hT
        exact k_WF_years_L73 l hlo x1 hx1 F hlk hr M _ _ _ hS (lv_sub hl [0] rfl) hT
      · replace hT := (if_neg c6).symm.trans hT
        refine lv_aload_n F.hx F.hb d_WF_years_58 rfl (lv_at hl 0 rfl) ?_
        refine r_get (v := .ref (b + 70)) (N := 19) (T := T0) (j := 14) F hS (show 0 < 191 by decide) (show shK 0 = 4 from rfl) (show shN 0 = 19 from rfl) rfl (Nat.le_of_ble_eq_true rfl) ing0 mw_564 (fv_sg rfl rfl rfl) d_WF_years_59 ?_
        obtain ⟨q7, hq7⟩ : ∃ q, q = (t_Past_clear M) := ⟨_, rfl⟩
        replace hT := qlet_eq hT hq7
        refine r_backV F hS (r_runV (k := 70) (N := 3) (T := T6) (As := []) F hS (show 70 < 191 by decide) (show shK 70 = 10 from rfl) rfl (c_Past_clear l F.2.2.1 M _ hq7.symm) gs_WF_279 hd_Past_clear ⟨Nat.le_of_ble_eq_true rfl, Nat.le_of_ble_eq_true rfl⟩ rfl hl.1 (Nat.le_of_ble_eq_true rfl) ⟨Nat.zero_le _, Nat.zero_le _⟩ rfl d_WF_years_62) (fun H locs hS => ?_)
        refine lv_aload_n F.hx F.hb d_WF_years_65 rfl (lv_at hl 0 rfl) ?_
        refine r_get (v := .ref (b + 177)) (N := 19) (T := T0) (j := 16) F hS (show 0 < 191 by decide) (show shK 0 = 4 from rfl) (show shN 0 = 19 from rfl) rfl (Nat.le_of_ble_eq_true rfl) ing0 mw_566 (fv_sg rfl rfl rfl) d_WF_years_66 ?_
        refine r_iconst F.hx F.hb d_WF_years_69 ?_
        refine r_putI (N := 9) (T := T4) (j := 8) F hS (show 177 < 191 by decide) (show shK 177 = 8 from rfl) (show shN 177 = 9 from rfl) rfl (Nat.le_of_ble_eq_true rfl) ing4 tyok4 nm4 rfl rfl (nar_z (Or.inl rfl)) (fit_z (Or.inl rfl)) rfl rfl mw_448 (inr_c rfl) d_WF_years_70 (fun H locs hS => ?_)
        obtain ⟨M9, eM9⟩ : ∃ q, q = (setI q7 177 8 0) := ⟨_, rfl⟩
        replace hS : St b C n M9 s H locs := by rw [eM9]; exact hS
        replace hT := qlet_eq hT eM9
        exact k_WF_years_L73 l hlo x1 hx1 F hlk hr M9 _ _ _ hS (lv_sub hl [0] rfl) hT
    · replace hT := (if_neg c5).symm.trans hT
      refine lv_aload_n F.hx F.hb d_WF_years_33 rfl (lv_at hl 0 rfl) ?_
      refine r_get (v := .ref (b + 62)) (N := 19) (T := T0) (j := 11) F hS (show 0 < 191 by decide) (show shK 0 = 4 from rfl) (show shN 0 = 19 from rfl) rfl (Nat.le_of_ble_eq_true rfl) ing0 mw_561 (fv_sg rfl rfl rfl) d_WF_years_34 ?_
      refine lv_aload_n F.hx F.hb d_WF_years_37 rfl (lv_at hl 0 rfl) ?_
      have h10 := St_town hS
      refine r_get (v := .ref (b + ((M.1 0 4).toNat))) (N := 19) (T := T0) (j := 4) F hS (show 0 < 191 by decide) (show shK 0 = 4 from rfl) (show shN 0 = 19 from rfl) rfl (Nat.le_of_ble_eq_true rfl) ing0 mw_554 (fv_town hS) d_WF_years_38 ?_
      refine lv_aload_n F.hx F.hb d_WF_years_41 rfl (lv_at hl 0 rfl) ?_
      refine r_get (v := .ref (b + 47)) (N := 19) (T := T0) (j := 8) F hS (show 0 < 191 by decide) (show shK 0 = 4 from rfl) (show shN 0 = 19 from rfl) rfl (Nat.le_of_ble_eq_true rfl) ing0 mw_558 (fv_sg rfl rfl rfl) d_WF_years_42 ?_
      obtain ⟨q11, hq11, hT⟩ := q_obind hT
      refine r_backV F hS (r_runV (k := 62) (N := 6) (T := T2) (As := [.ref (b + ((M.1 0 4).toNat)), .ref (b + 47)]) F hS (show 62 < 191 by decide) (show shK 62 = 6 from rfl) rfl (c_Chronicle_goOn l F.2.2.1 M 62 ((M.1 0 4).toNat) 47 (by decide : isChronicle 62) h10 (by decide : isScene 47) _ hq11) gs_WF_391 hd_Chronicle_goOn ⟨Nat.le_of_ble_eq_true rfl, Nat.le_of_ble_eq_true rfl⟩ rfl hl.1 (Nat.le_of_ble_eq_true rfl) ⟨Nat.zero_le _, Nat.zero_le _⟩ rfl d_WF_years_45) (fun H locs hS => ?_)
      refine lv_iinc (v := Int32.ofInt (w32 (v2_ + 1))) (lv' := [(2, vI (w32 (v2_ + 1))), (0, .ref (b + 0)), (1, vI x1)]) F.hx F.hb d_WF_years_48 hl (k := 2) rfl (q_of_add _ _) (Nat.le_of_ble_eq_true rfl) rfl (fun ls hl => ?_)
      refine lv_goto (tgt := 28) F.hx F.hb d_WF_years_51 (by decide) ?_
      exact ih q11 (w32 (v2_ + 1)) (inr_w32 _) _ _ _ hS (lv_sub hl [1, 2, 0] rfl) hT
set_option maxHeartbeats 4000000 in
set_option maxRecDepth 100000 in
theorem c_WF_years (l : Launch) {b n : Nat} {C : CT} (hlo : 191 ≤ n) (M : Mem) (x1 : Int) (hx1 : InR x1) (res : Mem × Int) (hT : t_WF_years M x1 = some res) : CM l b C n 6 y_WF_years b_WF_years 3 (some .int) [.ref (b + 0), vI x1] M (QI b C n res.1 res.2) := by
  refine CM.of (lo := 191) (ow := "WardFalls") (by decide) rfl (Nat.le_of_ble_eq_true rfl) hlo (fun p e s m below meth c F hlk hr hS ls hl => ?_)
  have hl : lv_has ls 3 [(0, .ref (b + 0)), (1, vI x1)] := hl
  unfold t_WF_years at hT
  refine lv_iload_n F.hx F.hb d_WF_years_0 rfl (lv_at hl 1 rfl) ?_
  refine r_if_lt (tgt := 24) F.hx F.hb hx1 d_WF_years_1 (by decide) (fun c1 => ?_) (fun c1 => ?_)
  · replace hT := (if_pos c1).symm.trans hT
    refine r_iconst F.hx F.hb d_WF_years_24 ?_
    cases hT
    exact r_iret F hlk hr rfl hS (inr_c rfl) d_WF_years_25
  · replace hT := (if_neg c1).symm.trans hT
    refine lv_iload_n F.hx F.hb d_WF_years_4 rfl (lv_at hl 1 rfl) ?_
    refine r_bipush F.hx F.hb d_WF_years_5 rfl ?_
    refine r_icmp_gt (tgt := 24) F.hx F.hb hx1 (inr_c rfl) d_WF_years_7 (by decide) (fun c2 => ?_) (fun c2 => ?_)
    · replace hT := (if_pos c2).symm.trans hT
      refine r_iconst F.hx F.hb d_WF_years_24 ?_
      cases hT
      exact r_iret F hlk hr rfl hS (inr_c rfl) d_WF_years_25
    · replace hT := (if_neg c2).symm.trans hT
      refine lv_aload_n F.hx F.hb d_WF_years_10 rfl (lv_at hl 0 rfl) ?_
      refine r_get (v := .ref (b + 62)) (N := 19) (T := T0) (j := 11) F hS (show 0 < 191 by decide) (show shK 0 = 4 from rfl) (show shN 0 = 19 from rfl) rfl (Nat.le_of_ble_eq_true rfl) ing0 mw_561 (fv_sg rfl rfl rfl) d_WF_years_11 ?_
      refine r_get (v := vI (M.1 62 3)) (N := 6) (T := T2) (j := 3) F hS (show 62 < 191 by decide) (show shK 62 = 6 from rfl) (show shN 62 = 6 from rfl) rfl (Nat.le_of_ble_eq_true rfl) ing2 mw_321 (fv_int rfl) d_WF_years_14 ?_
      have i3 := hS.rng 62 3
      refine lv_iload_n F.hx F.hb d_WF_years_17 rfl (lv_at hl 1 rfl) ?_
      refine r_iadd F.hx F.hb d_WF_years_18 ?_
      refine r_bipush F.hx F.hb d_WF_years_19 rfl ?_
      refine r_icmp_le (tgt := 26) F.hx F.hb (inr_w32 _) (inr_c rfl) d_WF_years_21 (by decide) (fun c4 => ?_) (fun c4 => ?_)
      · replace hT := (if_pos c4).symm.trans hT
        refine r_iconst F.hx F.hb d_WF_years_26 ?_
        refine lv_istore_n (lv' := [(2, vI 0), (0, .ref (b + 0)), (1, vI x1)]) F.hx F.hb d_WF_years_27 rfl hl (Nat.le_of_ble_eq_true rfl) rfl (fun ls hl => ?_)
        exact k_WF_years_L28 l hlo x1 hx1 F hlk hr FU M 0 (inr_c rfl) _ _ _ hS (lv_sub hl [1, 2, 0] rfl) hT
      · replace hT := (if_neg c4).symm.trans hT
        refine r_iconst F.hx F.hb d_WF_years_24 ?_
        cases hT
        exact r_iret F hlk hr rfl hS (inr_c rfl) d_WF_years_25
theorem d_WF_voted_0 : decode b_WF_voted 0 = .ok (.iload_n 1, 1) := dc_27 (by decide +kernel)
theorem d_WF_voted_1 : decode b_WF_voted 1 = .ok (.ifCond .lt 14, 3) := dc_155 (by decide +kernel)
theorem d_WF_voted_4 : decode b_WF_voted 4 = .ok (.iload_n 1, 1) := dc_27 (by decide +kernel)
theorem d_WF_voted_5 : decode b_WF_voted 5 = .ok (.aload_n 0, 1) := dc_42 (by decide +kernel)
theorem d_WF_voted_6 : decode b_WF_voted 6 = .ok (.getfield 59, 3) := dc_180 (by decide +kernel)
theorem d_WF_voted_9 : decode b_WF_voted 9 = .ok (.getfield 218, 3) := dc_180 (by decide +kernel)
theorem d_WF_voted_12 : decode b_WF_voted 12 = .ok (.if_icmp .lt 5, 3) := dc_161 (by decide +kernel)
theorem d_WF_voted_15 : decode b_WF_voted 15 = .ok (.iconst (-1), 1) := dc_2 (by decide +kernel)
theorem d_WF_voted_16 : decode b_WF_voted 16 = .ok (.ireturn, 1) := dc_172 (by decide +kernel)
theorem d_WF_voted_17 : decode b_WF_voted 17 = .ok (.iload_n 2, 1) := dc_28 (by decide +kernel)
theorem d_WF_voted_18 : decode b_WF_voted 18 = .ok (.tableswitch 62 0 2 #[26, 38, 50], 26) := by decide +kernel
theorem d_WF_voted_44 : decode b_WF_voted 44 = .ok (.aload_n 0, 1) := dc_42 (by decide +kernel)
theorem d_WF_voted_45 : decode b_WF_voted 45 = .ok (.getfield 59, 3) := dc_180 (by decide +kernel)
theorem d_WF_voted_48 : decode b_WF_voted 48 = .ok (.getfield 394, 3) := dc_180 (by decide +kernel)
theorem d_WF_voted_51 : decode b_WF_voted 51 = .ok (.iload_n 1, 1) := dc_27 (by decide +kernel)
theorem d_WF_voted_52 : decode b_WF_voted 52 = .ok (.invokestatic 204, 3) := dc_184 (by decide +kernel)
theorem d_WF_voted_55 : decode b_WF_voted 55 = .ok (.ireturn, 1) := dc_172 (by decide +kernel)
theorem d_WF_voted_56 : decode b_WF_voted 56 = .ok (.aload_n 0, 1) := dc_42 (by decide +kernel)
theorem d_WF_voted_57 : decode b_WF_voted 57 = .ok (.getfield 59, 3) := dc_180 (by decide +kernel)
theorem d_WF_voted_60 : decode b_WF_voted 60 = .ok (.getfield 396, 3) := dc_180 (by decide +kernel)
theorem d_WF_voted_63 : decode b_WF_voted 63 = .ok (.iload_n 1, 1) := dc_27 (by decide +kernel)
theorem d_WF_voted_64 : decode b_WF_voted 64 = .ok (.invokestatic 204, 3) := dc_184 (by decide +kernel)
theorem d_WF_voted_67 : decode b_WF_voted 67 = .ok (.ireturn, 1) := dc_172 (by decide +kernel)
theorem d_WF_voted_68 : decode b_WF_voted 68 = .ok (.aload_n 0, 1) := dc_42 (by decide +kernel)
theorem d_WF_voted_69 : decode b_WF_voted 69 = .ok (.getfield 59, 3) := dc_180 (by decide +kernel)
theorem d_WF_voted_72 : decode b_WF_voted 72 = .ok (.getfield 397, 3) := dc_180 (by decide +kernel)
theorem d_WF_voted_75 : decode b_WF_voted 75 = .ok (.iload_n 1, 1) := dc_27 (by decide +kernel)
theorem d_WF_voted_76 : decode b_WF_voted 76 = .ok (.invokestatic 204, 3) := dc_184 (by decide +kernel)
theorem d_WF_voted_79 : decode b_WF_voted 79 = .ok (.ireturn, 1) := dc_172 (by decide +kernel)
theorem d_WF_voted_80 : decode b_WF_voted 80 = .ok (.iconst (-1), 1) := dc_2 (by decide +kernel)
theorem d_WF_voted_81 : decode b_WF_voted 81 = .ok (.ireturn, 1) := dc_172 (by decide +kernel)
def t_WF_voted (M : Mem) (x1 : Int) (x2 : Int) : Int := (if x1 < 0 then (-1) else (if x1 < (M.1 62 3) then (if x2 = 0 then (qlet (t_WF_look M 63 99 x1) fun q5 => q5) else (if x2 = 1 then (qlet (t_WF_look M 64 99 x1) fun q8 => q8) else (if x2 = 2 then (qlet (t_WF_look M 65 99 x1) fun q11 => q11) else (-1)))) else (-1)))
set_option maxHeartbeats 4000000 in
set_option maxRecDepth 100000 in
theorem c_WF_voted (l : Launch) {b n : Nat} {C : CT} (hlo : 191 ≤ n) (M : Mem) (x1 : Int) (x2 : Int) (hx1 : InR x1) (hx2 : InR x2) (res : Int) (hT : t_WF_voted M x1 x2 = res) : CM l b C n 1 y_WF_voted b_WF_voted 3 (some .int) [.ref (b + 0), vI x1, vI x2] M (QI b C n M res) := by
  refine CM.of (lo := 191) (ow := "WardFalls") (by decide) rfl (Nat.le_of_ble_eq_true rfl) hlo (fun p e s m below meth c F hlk hr hS ls hl => ?_)
  have hl : lv_has ls 3 [(0, .ref (b + 0)), (1, vI x1), (2, vI x2)] := hl
  unfold t_WF_voted at hT
  refine lv_iload_n F.hx F.hb d_WF_voted_0 rfl (lv_at hl 1 rfl) ?_
  refine r_if_lt (tgt := 15) F.hx F.hb hx1 d_WF_voted_1 (by decide) (fun c1 => ?_) (fun c1 => ?_)
  · replace hT := (if_pos c1).symm.trans hT
    refine r_iconst F.hx F.hb d_WF_voted_15 ?_
    subst hT
    exact r_iret F hlk hr rfl hS (inr_c rfl) d_WF_voted_16
  · replace hT := (if_neg c1).symm.trans hT
    refine lv_iload_n F.hx F.hb d_WF_voted_4 rfl (lv_at hl 1 rfl) ?_
    refine lv_aload_n F.hx F.hb d_WF_voted_5 rfl (lv_at hl 0 rfl) ?_
    refine r_get (v := .ref (b + 62)) (N := 19) (T := T0) (j := 11) F hS (show 0 < 191 by decide) (show shK 0 = 4 from rfl) (show shN 0 = 19 from rfl) rfl (Nat.le_of_ble_eq_true rfl) ing0 mw_561 (fv_sg rfl rfl rfl) d_WF_voted_6 ?_
    refine r_get (v := vI (M.1 62 3)) (N := 6) (T := T2) (j := 3) F hS (show 62 < 191 by decide) (show shK 62 = 6 from rfl) (show shN 62 = 6 from rfl) rfl (Nat.le_of_ble_eq_true rfl) ing2 mw_321 (fv_int rfl) d_WF_voted_9 ?_
    have i2 := hS.rng 62 3
    refine r_icmp_lt (tgt := 17) F.hx F.hb hx1 i2 d_WF_voted_12 (by decide) (fun c3 => ?_) (fun c3 => ?_)
    · replace hT := (if_pos c3).symm.trans hT
      refine lv_iload_n F.hx F.hb d_WF_voted_17 rfl (lv_at hl 2 rfl) ?_
      rcases q_ite hT with ⟨c4, hT⟩ | ⟨c4, hT⟩
      · refine r_tableIn (i := 0) (tgt := 44) F.hx F.hb hx2 c4 d_WF_voted_18 (by decide) (by decide) rfl (by decide) ?_
        refine lv_aload_n F.hx F.hb d_WF_voted_44 rfl (lv_at hl 0 rfl) ?_
        refine r_get (v := .ref (b + 62)) (N := 19) (T := T0) (j := 11) F hS (show 0 < 191 by decide) (show shK 0 = 4 from rfl) (show shN 0 = 19 from rfl) rfl (Nat.le_of_ble_eq_true rfl) ing0 mw_561 (fv_sg rfl rfl rfl) d_WF_voted_45 ?_
        refine r_get (v := .ref (b + 63)) (N := 6) (T := T2) (j := 0) F hS (show 62 < 191 by decide) (show shK 62 = 6 from rfl) (show shN 62 = 6 from rfl) rfl (Nat.le_of_ble_eq_true rfl) ing2 mw_315 (fv_sg rfl rfl rfl) d_WF_voted_48 ?_
        refine lv_iload_n F.hx F.hb d_WF_voted_51 rfl (lv_at hl 1 rfl) ?_
        obtain ⟨q5, hq5⟩ : ∃ q, q = (t_WF_look M 63 99 x1) := ⟨_, rfl⟩
        replace hT := qlet_eq hT hq5
        refine r_backI F hS (r_runS (As := [.ref (b + 63), vI x1]) F hS (c_WF_look l F.2.2.1 M 63 99 x1 (show arrP 0 63 99 191 from ⟨rfl, rfl, by decide⟩) hx1 _ hq5.symm) gs_WF_204 hd_WF_look ⟨Nat.le_of_ble_eq_true rfl, Nat.le_of_ble_eq_true rfl⟩ rfl hl.1 (Nat.le_of_ble_eq_true rfl) ⟨Nat.zero_le _, Nat.zero_le _⟩ rfl d_WF_voted_52) (fun H locs hS h6 => ?_)
        subst hT
        exact r_iret F hlk hr rfl hS h6 d_WF_voted_55
      ·
        rcases q_ite hT with ⟨c7, hT⟩ | ⟨c7, hT⟩
        · refine r_tableIn (i := 1) (tgt := 56) F.hx F.hb hx2 c7 d_WF_voted_18 (by decide) (by decide) rfl (by decide) ?_
          refine lv_aload_n F.hx F.hb d_WF_voted_56 rfl (lv_at hl 0 rfl) ?_
          refine r_get (v := .ref (b + 62)) (N := 19) (T := T0) (j := 11) F hS (show 0 < 191 by decide) (show shK 0 = 4 from rfl) (show shN 0 = 19 from rfl) rfl (Nat.le_of_ble_eq_true rfl) ing0 mw_561 (fv_sg rfl rfl rfl) d_WF_voted_57 ?_
          refine r_get (v := .ref (b + 64)) (N := 6) (T := T2) (j := 1) F hS (show 62 < 191 by decide) (show shK 62 = 6 from rfl) (show shN 62 = 6 from rfl) rfl (Nat.le_of_ble_eq_true rfl) ing2 mw_317 (fv_sg rfl rfl rfl) d_WF_voted_60 ?_
          refine lv_iload_n F.hx F.hb d_WF_voted_63 rfl (lv_at hl 1 rfl) ?_
          obtain ⟨q8, hq8⟩ : ∃ q, q = (t_WF_look M 64 99 x1) := ⟨_, rfl⟩
          replace hT := qlet_eq hT hq8
          refine r_backI F hS (r_runS (As := [.ref (b + 64), vI x1]) F hS (c_WF_look l F.2.2.1 M 64 99 x1 (show arrP 0 64 99 191 from ⟨rfl, rfl, by decide⟩) hx1 _ hq8.symm) gs_WF_204 hd_WF_look ⟨Nat.le_of_ble_eq_true rfl, Nat.le_of_ble_eq_true rfl⟩ rfl hl.1 (Nat.le_of_ble_eq_true rfl) ⟨Nat.zero_le _, Nat.zero_le _⟩ rfl d_WF_voted_64) (fun H locs hS h9 => ?_)
          subst hT
          exact r_iret F hlk hr rfl hS h9 d_WF_voted_67
        ·
          rcases q_ite hT with ⟨c10, hT⟩ | ⟨c10, hT⟩
          · refine r_tableIn (i := 2) (tgt := 68) F.hx F.hb hx2 c10 d_WF_voted_18 (by decide) (by decide) rfl (by decide) ?_
            refine lv_aload_n F.hx F.hb d_WF_voted_68 rfl (lv_at hl 0 rfl) ?_
            refine r_get (v := .ref (b + 62)) (N := 19) (T := T0) (j := 11) F hS (show 0 < 191 by decide) (show shK 0 = 4 from rfl) (show shN 0 = 19 from rfl) rfl (Nat.le_of_ble_eq_true rfl) ing0 mw_561 (fv_sg rfl rfl rfl) d_WF_voted_69 ?_
            refine r_get (v := .ref (b + 65)) (N := 6) (T := T2) (j := 2) F hS (show 62 < 191 by decide) (show shK 62 = 6 from rfl) (show shN 62 = 6 from rfl) rfl (Nat.le_of_ble_eq_true rfl) ing2 mw_319 (fv_sg rfl rfl rfl) d_WF_voted_72 ?_
            refine lv_iload_n F.hx F.hb d_WF_voted_75 rfl (lv_at hl 1 rfl) ?_
            obtain ⟨q11, hq11⟩ : ∃ q, q = (t_WF_look M 65 99 x1) := ⟨_, rfl⟩
            replace hT := qlet_eq hT hq11
            refine r_backI F hS (r_runS (As := [.ref (b + 65), vI x1]) F hS (c_WF_look l F.2.2.1 M 65 99 x1 (show arrP 0 65 99 191 from ⟨rfl, rfl, by decide⟩) hx1 _ hq11.symm) gs_WF_204 hd_WF_look ⟨Nat.le_of_ble_eq_true rfl, Nat.le_of_ble_eq_true rfl⟩ rfl hl.1 (Nat.le_of_ble_eq_true rfl) ⟨Nat.zero_le _, Nat.zero_le _⟩ rfl d_WF_voted_76) (fun H locs hS h12 => ?_)
            subst hT
            exact r_iret F hlk hr rfl hS h12 d_WF_voted_79
          ·
            refine r_tableOut (tgt := 80) F.hx F.hb hx2 (by omega) d_WF_voted_18 (by decide) ?_
            refine r_iconst F.hx F.hb d_WF_voted_80 ?_
            subst hT
            exact r_iret F hlk hr rfl hS (inr_c rfl) d_WF_voted_81
    · replace hT := (if_neg c3).symm.trans hT
      refine r_iconst F.hx F.hb d_WF_voted_15 ?_
      subst hT
      exact r_iret F hlk hr rfl hS (inr_c rfl) d_WF_voted_16
