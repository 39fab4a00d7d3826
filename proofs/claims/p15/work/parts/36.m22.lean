theorem d_MO_thing_0 : decode b_MO_thing 0 = .ok (.aload_n 0, 1) := dc_42 (by decide +kernel)
theorem d_MO_thing_1 : decode b_MO_thing 1 = .ok (.iconst 0, 1) := dc_3 (by decide +kernel)
theorem d_MO_thing_2 : decode b_MO_thing 2 = .ok (.putfield 145, 3) := dc_181 (by decide +kernel)
theorem d_MO_thing_5 : decode b_MO_thing 5 = .ok (.aload_n 0, 1) := dc_42 (by decide +kernel)
theorem d_MO_thing_6 : decode b_MO_thing 6 = .ok (.iload_n 1, 1) := dc_27 (by decide +kernel)
theorem d_MO_thing_7 : decode b_MO_thing 7 = .ok (.invokevirtual 378, 3) := dc_182 (by decide +kernel)
theorem d_MO_thing_10 : decode b_MO_thing 10 = .ok (.ifCond .ne 5, 3) := dc_154 (by decide +kernel)
theorem d_MO_thing_13 : decode b_MO_thing 13 = .ok (.iconst (-1), 1) := dc_2 (by decide +kernel)
theorem d_MO_thing_14 : decode b_MO_thing 14 = .ok (.ireturn, 1) := dc_172 (by decide +kernel)
theorem d_MO_thing_15 : decode b_MO_thing 15 = .ok (.iload_n 2, 1) := dc_28 (by decide +kernel)
theorem d_MO_thing_16 : decode b_MO_thing 16 = .ok (.ifCond .ne 12, 3) := dc_154 (by decide +kernel)
theorem d_MO_thing_19 : decode b_MO_thing 19 = .ok (.aload_n 0, 1) := dc_42 (by decide +kernel)
theorem d_MO_thing_20 : decode b_MO_thing 20 = .ok (.getfield 79, 3) := dc_180 (by decide +kernel)
theorem d_MO_thing_23 : decode b_MO_thing 23 = .ok (.iload_n 1, 1) := dc_27 (by decide +kernel)
theorem d_MO_thing_24 : decode b_MO_thing 24 = .ok (.iaload, 1) := dc_46 (by decide +kernel)
theorem d_MO_thing_25 : decode b_MO_thing 25 = .ok (.goto 46, 3) := dc_167 (by decide +kernel)
theorem d_MO_thing_28 : decode b_MO_thing 28 = .ok (.iload_n 2, 1) := dc_28 (by decide +kernel)
theorem d_MO_thing_29 : decode b_MO_thing 29 = .ok (.iconst 1, 1) := dc_4 (by decide +kernel)
theorem d_MO_thing_30 : decode b_MO_thing 30 = .ok (.if_icmp .ne 12, 3) := dc_160 (by decide +kernel)
theorem d_MO_thing_33 : decode b_MO_thing 33 = .ok (.aload_n 0, 1) := dc_42 (by decide +kernel)
theorem d_MO_thing_34 : decode b_MO_thing 34 = .ok (.getfield 38, 3) := dc_180 (by decide +kernel)
theorem d_MO_thing_37 : decode b_MO_thing 37 = .ok (.iload_n 1, 1) := dc_27 (by decide +kernel)
theorem d_MO_thing_38 : decode b_MO_thing 38 = .ok (.iaload, 1) := dc_46 (by decide +kernel)
theorem d_MO_thing_39 : decode b_MO_thing 39 = .ok (.goto 32, 3) := dc_167 (by decide +kernel)
theorem d_MO_thing_42 : decode b_MO_thing 42 = .ok (.iload_n 2, 1) := dc_28 (by decide +kernel)
theorem d_MO_thing_43 : decode b_MO_thing 43 = .ok (.iconst 2, 1) := dc_5 (by decide +kernel)
theorem d_MO_thing_44 : decode b_MO_thing 44 = .ok (.if_icmp .ne 12, 3) := dc_160 (by decide +kernel)
theorem d_MO_thing_47 : decode b_MO_thing 47 = .ok (.aload_n 0, 1) := dc_42 (by decide +kernel)
theorem d_MO_thing_48 : decode b_MO_thing 48 = .ok (.getfield 82, 3) := dc_180 (by decide +kernel)
theorem d_MO_thing_51 : decode b_MO_thing 51 = .ok (.iload_n 1, 1) := dc_27 (by decide +kernel)
theorem d_MO_thing_52 : decode b_MO_thing 52 = .ok (.iaload, 1) := dc_46 (by decide +kernel)
theorem d_MO_thing_53 : decode b_MO_thing 53 = .ok (.goto 18, 3) := dc_167 (by decide +kernel)
theorem d_MO_thing_56 : decode b_MO_thing 56 = .ok (.iload_n 2, 1) := dc_28 (by decide +kernel)
theorem d_MO_thing_57 : decode b_MO_thing 57 = .ok (.iconst 3, 1) := dc_6 (by decide +kernel)
theorem d_MO_thing_58 : decode b_MO_thing 58 = .ok (.if_icmp .ne 12, 3) := dc_160 (by decide +kernel)
theorem d_MO_thing_61 : decode b_MO_thing 61 = .ok (.aload_n 0, 1) := dc_42 (by decide +kernel)
theorem d_MO_thing_62 : decode b_MO_thing 62 = .ok (.getfield 85, 3) := dc_180 (by decide +kernel)
theorem d_MO_thing_65 : decode b_MO_thing 65 = .ok (.iload_n 1, 1) := dc_27 (by decide +kernel)
theorem d_MO_thing_66 : decode b_MO_thing 66 = .ok (.iaload, 1) := dc_46 (by decide +kernel)
theorem d_MO_thing_67 : decode b_MO_thing 67 = .ok (.goto 4, 3) := dc_167 (by decide +kernel)
theorem d_MO_thing_70 : decode b_MO_thing 70 = .ok (.iconst (-1), 1) := dc_2 (by decide +kernel)
theorem d_MO_thing_71 : decode b_MO_thing 71 = .ok (.ireturn, 1) := dc_172 (by decide +kernel)
def t_MO_thing (M : Mem) (x1 : Int) (x2 : Int) : Option (Mem × Int) := (qlet (setI M 191 0 0) fun M1 => (qlet (t_MO_isThing M1 x1) fun q2 => (if q2 = 0 then (some (M1, (-1))) else (if x2 = 0 then (qguard (0 ≤ x1 ∧ x1 < 184) (some (M1, (M1.1 213 x1)))) else (if x2 = 1 then (qguard (0 ≤ x1 ∧ x1 < 16) (some (M1, (M1.1 201 x1)))) else (if x2 = 2 then (qguard (0 ≤ x1 ∧ x1 < 184) (some (M1, (M1.1 214 x1)))) else (if x2 = 3 then (qguard (0 ≤ x1 ∧ x1 < 184) (some (M1, (M1.1 215 x1)))) else (some (M1, (-1))))))))))
set_option maxHeartbeats 4000000 in
set_option maxRecDepth 100000 in
theorem c_MO_thing (l : Launch) {b n : Nat} {C : CT} (hlo : 231 ≤ n) (M : Mem) (x1 : Int) (x2 : Int) (hx1 : InR x1) (hx2 : InR x2) (res : Mem × Int) (hT : t_MO_thing M x1 x2 = some res) : CM l b C n 1 y_MO_thing b_MO_thing 3 (some .int) [.ref (b + 191), vI x1, vI x2] M (QI b C n res.1 res.2) := by
  refine CM.of (lo := 231) (ow := "WardFallsModel") (by decide) rfl (Nat.le_of_ble_eq_true rfl) hlo (fun p e s m below meth c F hlk hr hS ls hl => ?_)
  have hl : lv_has ls 3 [(0, .ref (b + 191)), (1, vI x1), (2, vI x2)] := hl
  unfold t_MO_thing at hT
  refine lv_aload_n F.hx F.hb d_MO_thing_0 rfl (lv_at hl 0 rfl) ?_
  refine r_iconst F.hx F.hb d_MO_thing_1 ?_
  refine r_putI (N := 68) (T := T1) (j := 0) F hS (show 191 < 231 by decide) (show shK 191 = 5 from rfl) (show shN 191 = 68 from rfl) rfl (Nat.le_of_ble_eq_true rfl) ing1 tyok1 nm1 rfl rfl rfl rfl rfl rfl mw_1389 (inr_c rfl) d_MO_thing_2 (fun H locs hS => ?_)
  obtain ⟨M1, eM1⟩ : ∃ q, q = (setI M 191 0 0) := ⟨_, rfl⟩
  replace hS : St b C n M1 s H locs := by rw [eM1]; exact hS
  replace hT := qlet_eq hT eM1
  refine lv_aload_n F.hx F.hb d_MO_thing_5 rfl (lv_at hl 0 rfl) ?_
  refine lv_iload_n F.hx F.hb d_MO_thing_6 rfl (lv_at hl 1 rfl) ?_
  obtain ⟨q2, hq2⟩ : ∃ q, q = (t_MO_isThing M1 x1) := ⟨_, rfl⟩
  replace hT := qlet_eq hT hq2
  refine r_backZ F hS (r_runV (k := 191) (N := 68) (T := T1) (As := [vI x1]) F hS (show 191 < 231 by decide) (show shK 191 = 5 from rfl) rfl (c_MO_isThing l F.2.2.1 M1 x1 hx1 _ hq2.symm) gs_MO_378 hd_MO_isThing ⟨Nat.le_of_ble_eq_true rfl, Nat.le_of_ble_eq_true rfl⟩ rfl hl.1 (Nat.le_of_ble_eq_true rfl) ⟨Nat.zero_le _, Nat.zero_le _⟩ rfl d_MO_thing_7) (fun H locs hS h3 => ?_)
  refine r_if_ne (tgt := 15) F.hx F.hb (inr_z h3) d_MO_thing_10 (by decide) (fun c4 => ?_) (fun c4 => ?_)
  · replace hT := (if_neg c4).symm.trans hT
    refine lv_iload_n F.hx F.hb d_MO_thing_15 rfl (lv_at hl 2 rfl) ?_
    refine r_if_ne (tgt := 28) F.hx F.hb hx2 d_MO_thing_16 (by decide) (fun c5 => ?_) (fun c5 => ?_)
    · replace hT := (if_neg c5).symm.trans hT
      refine lv_iload_n F.hx F.hb d_MO_thing_28 rfl (lv_at hl 2 rfl) ?_
      refine r_iconst F.hx F.hb d_MO_thing_29 ?_
      refine r_icmp_ne (tgt := 42) F.hx F.hb hx2 (inr_c rfl) d_MO_thing_30 (by decide) (fun c6 => ?_) (fun c6 => ?_)
      · replace hT := (if_neg c6).symm.trans hT
        refine lv_iload_n F.hx F.hb d_MO_thing_42 rfl (lv_at hl 2 rfl) ?_
        refine r_iconst F.hx F.hb d_MO_thing_43 ?_
        refine r_icmp_ne (tgt := 56) F.hx F.hb hx2 (inr_c rfl) d_MO_thing_44 (by decide) (fun c7 => ?_) (fun c7 => ?_)
        · replace hT := (if_neg c7).symm.trans hT
          refine lv_iload_n F.hx F.hb d_MO_thing_56 rfl (lv_at hl 2 rfl) ?_
          refine r_iconst F.hx F.hb d_MO_thing_57 ?_
          refine r_icmp_ne (tgt := 70) F.hx F.hb hx2 (inr_c rfl) d_MO_thing_58 (by decide) (fun c8 => ?_) (fun c8 => ?_)
          · replace hT := (if_neg c8).symm.trans hT
            refine r_iconst F.hx F.hb d_MO_thing_70 ?_
            cases hT
            exact r_iret F hlk hr rfl hS (inr_c rfl) d_MO_thing_71
          · replace hT := (if_pos c8).symm.trans hT
            refine lv_aload_n F.hx F.hb d_MO_thing_61 rfl (lv_at hl 0 rfl) ?_
            refine r_get (v := .ref (b + 215)) (N := 68) (T := T1) (j := 38) F hS (show 191 < 231 by decide) (show shK 191 = 5 from rfl) (show shN 191 = 68 from rfl) rfl (Nat.le_of_ble_eq_true rfl) ing1 mw_1427 (fv_sg rfl rfl rfl) d_MO_thing_62 ?_
            refine lv_iload_n F.hx F.hb d_MO_thing_65 rfl (lv_at hl 1 rfl) ?_
            obtain ⟨⟨g9a, g9b⟩, hT⟩ := q_guard hT
            refine r_iald F hS (show 215 < 231 by decide) (show shK 215 = 0 from rfl) (show shN 215 = 184 from rfl) hx1 g9a g9b d_MO_thing_66 ?_
            have i10 := hS.rng 215 x1
            refine lv_goto (tgt := 71) F.hx F.hb d_MO_thing_67 (by decide) ?_
            cases hT
            exact r_iret F hlk hr rfl hS i10 d_MO_thing_71
        · replace hT := (if_pos c7).symm.trans hT
          refine lv_aload_n F.hx F.hb d_MO_thing_47 rfl (lv_at hl 0 rfl) ?_
          refine r_get (v := .ref (b + 214)) (N := 68) (T := T1) (j := 37) F hS (show 191 < 231 by decide) (show shK 191 = 5 from rfl) (show shN 191 = 68 from rfl) rfl (Nat.le_of_ble_eq_true rfl) ing1 mw_1426 (fv_sg rfl rfl rfl) d_MO_thing_48 ?_
          refine lv_iload_n F.hx F.hb d_MO_thing_51 rfl (lv_at hl 1 rfl) ?_
          obtain ⟨⟨g11a, g11b⟩, hT⟩ := q_guard hT
          refine r_iald F hS (show 214 < 231 by decide) (show shK 214 = 0 from rfl) (show shN 214 = 184 from rfl) hx1 g11a g11b d_MO_thing_52 ?_
          have i12 := hS.rng 214 x1
          refine lv_goto (tgt := 71) F.hx F.hb d_MO_thing_53 (by decide) ?_
          cases hT
          exact r_iret F hlk hr rfl hS i12 d_MO_thing_71
      · replace hT := (if_pos c6).symm.trans hT
        refine lv_aload_n F.hx F.hb d_MO_thing_33 rfl (lv_at hl 0 rfl) ?_
        refine r_get (v := .ref (b + 201)) (N := 68) (T := T1) (j := 11) F hS (show 191 < 231 by decide) (show shK 191 = 5 from rfl) (show shN 191 = 68 from rfl) rfl (Nat.le_of_ble_eq_true rfl) ing1 mw_1400 (fv_sg rfl rfl rfl) d_MO_thing_34 ?_
        refine lv_iload_n F.hx F.hb d_MO_thing_37 rfl (lv_at hl 1 rfl) ?_
        obtain ⟨⟨g13a, g13b⟩, hT⟩ := q_guard hT
        refine r_iald F hS (show 201 < 231 by decide) (show shK 201 = 0 from rfl) (show shN 201 = 16 from rfl) hx1 g13a g13b d_MO_thing_38 ?_
        have i14 := hS.rng 201 x1
        refine lv_goto (tgt := 71) F.hx F.hb d_MO_thing_39 (by decide) ?_
        cases hT
        exact r_iret F hlk hr rfl hS i14 d_MO_thing_71
    · replace hT := (if_pos c5).symm.trans hT
      refine lv_aload_n F.hx F.hb d_MO_thing_19 rfl (lv_at hl 0 rfl) ?_
      refine r_get (v := .ref (b + 213)) (N := 68) (T := T1) (j := 36) F hS (show 191 < 231 by decide) (show shK 191 = 5 from rfl) (show shN 191 = 68 from rfl) rfl (Nat.le_of_ble_eq_true rfl) ing1 mw_1425 (fv_sg rfl rfl rfl) d_MO_thing_20 ?_
      refine lv_iload_n F.hx F.hb d_MO_thing_23 rfl (lv_at hl 1 rfl) ?_
      obtain ⟨⟨g15a, g15b⟩, hT⟩ := q_guard hT
      refine r_iald F hS (show 213 < 231 by decide) (show shK 213 = 0 from rfl) (show shN 213 = 184 from rfl) hx1 g15a g15b d_MO_thing_24 ?_
      have i16 := hS.rng 213 x1
      refine lv_goto (tgt := 71) F.hx F.hb d_MO_thing_25 (by decide) ?_
      cases hT
      exact r_iret F hlk hr rfl hS i16 d_MO_thing_71
  · replace hT := (if_pos c4).symm.trans hT
    refine r_iconst F.hx F.hb d_MO_thing_13 ?_
    cases hT
    exact r_iret F hlk hr rfl hS (inr_c rfl) d_MO_thing_14
theorem wn_MO_callsPush_0 : ∀ i, i < 96 → bA b_MO_callsPush (0 + i) = wB [42, 27, 28, 182, 1, 82, 62, 42, 180, 0, 25, 29, 46, 4, 100, 54, 4, 42, 180, 0, 106, 3, 21, 4, 2, 160, 0, 7, 9, 167, 0, 11, 42, 180, 0, 22, 21, 4, 46, 133, 80, 42, 180, 0, 106, 4, 21, 4, 2, 160, 0, 7, 9, 167, 0, 10, 42, 21, 4, 182, 1, 116, 133, 80, 42, 3, 29, 182, 1, 107, 54, 5, 42, 180, 0, 106, 5, 21, 5, 2, 159, 0, 7, 4, 167, 0, 4, 3, 184, 1, 128, 80, 42, 180, 0, 106] i := wB_of (by decide +kernel)
theorem d_MO_callsPush_0 : decode b_MO_callsPush 0 = .ok (.aload_n 0, 1) := dc_42 (q0_win (r := 0) wn_MO_callsPush_0 (by decide +kernel))
theorem d_MO_callsPush_1 : decode b_MO_callsPush 1 = .ok (.iload_n 1, 1) := dc_27 (q0_win (r := 1) wn_MO_callsPush_0 (by decide +kernel))
theorem d_MO_callsPush_2 : decode b_MO_callsPush 2 = .ok (.iload_n 2, 1) := dc_28 (q0_win (r := 2) wn_MO_callsPush_0 (by decide +kernel))
theorem d_MO_callsPush_3 : decode b_MO_callsPush 3 = .ok (.invokevirtual 338, 3) := dc_182 (qU2_win (r := 3) wn_MO_callsPush_0 (by decide +kernel))
theorem d_MO_callsPush_6 : decode b_MO_callsPush 6 = .ok (.istore_n 3, 1) := dc_62 (q0_win (r := 6) wn_MO_callsPush_0 (by decide +kernel))
theorem d_MO_callsPush_7 : decode b_MO_callsPush 7 = .ok (.aload_n 0, 1) := dc_42 (q0_win (r := 7) wn_MO_callsPush_0 (by decide +kernel))
theorem d_MO_callsPush_8 : decode b_MO_callsPush 8 = .ok (.getfield 25, 3) := dc_180 (qU2_win (r := 8) wn_MO_callsPush_0 (by decide +kernel))
theorem d_MO_callsPush_11 : decode b_MO_callsPush 11 = .ok (.iload_n 3, 1) := dc_29 (q0_win (r := 11) wn_MO_callsPush_0 (by decide +kernel))
theorem d_MO_callsPush_12 : decode b_MO_callsPush 12 = .ok (.iaload, 1) := dc_46 (q0_win (r := 12) wn_MO_callsPush_0 (by decide +kernel))
theorem d_MO_callsPush_13 : decode b_MO_callsPush 13 = .ok (.iconst 1, 1) := dc_4 (q0_win (r := 13) wn_MO_callsPush_0 (by decide +kernel))
theorem d_MO_callsPush_14 : decode b_MO_callsPush 14 = .ok (.isub, 1) := dc_100 (q0_win (r := 14) wn_MO_callsPush_0 (by decide +kernel))
theorem d_MO_callsPush_15 : decode b_MO_callsPush 15 = .ok (.istore 4, 2) := dc_54 (qU1_win (r := 15) wn_MO_callsPush_0 (by decide +kernel))
theorem d_MO_callsPush_17 : decode b_MO_callsPush 17 = .ok (.aload_n 0, 1) := dc_42 (q0_win (r := 17) wn_MO_callsPush_0 (by decide +kernel))
theorem d_MO_callsPush_18 : decode b_MO_callsPush 18 = .ok (.getfield 106, 3) := dc_180 (qU2_win (r := 18) wn_MO_callsPush_0 (by decide +kernel))
theorem d_MO_callsPush_21 : decode b_MO_callsPush 21 = .ok (.iconst 0, 1) := dc_3 (q0_win (r := 21) wn_MO_callsPush_0 (by decide +kernel))
theorem d_MO_callsPush_22 : decode b_MO_callsPush 22 = .ok (.iload 4, 2) := dc_21 (qU1_win (r := 22) wn_MO_callsPush_0 (by decide +kernel))
theorem d_MO_callsPush_24 : decode b_MO_callsPush 24 = .ok (.iconst (-1), 1) := dc_2 (q0_win (r := 24) wn_MO_callsPush_0 (by decide +kernel))
theorem d_MO_callsPush_25 : decode b_MO_callsPush 25 = .ok (.if_icmp .ne 7, 3) := dc_160 (qS2_win (r := 25) wn_MO_callsPush_0 (by decide +kernel))
theorem d_MO_callsPush_28 : decode b_MO_callsPush 28 = .ok (.lconst 0, 1) := dc_9 (q0_win (r := 28) wn_MO_callsPush_0 (by decide +kernel))
theorem d_MO_callsPush_29 : decode b_MO_callsPush 29 = .ok (.goto 11, 3) := dc_167 (qS2_win (r := 29) wn_MO_callsPush_0 (by decide +kernel))
theorem d_MO_callsPush_32 : decode b_MO_callsPush 32 = .ok (.aload_n 0, 1) := dc_42 (q0_win (r := 32) wn_MO_callsPush_0 (by decide +kernel))
theorem d_MO_callsPush_33 : decode b_MO_callsPush 33 = .ok (.getfield 22, 3) := dc_180 (qU2_win (r := 33) wn_MO_callsPush_0 (by decide +kernel))
theorem d_MO_callsPush_36 : decode b_MO_callsPush 36 = .ok (.iload 4, 2) := dc_21 (qU1_win (r := 36) wn_MO_callsPush_0 (by decide +kernel))
theorem d_MO_callsPush_38 : decode b_MO_callsPush 38 = .ok (.iaload, 1) := dc_46 (q0_win (r := 38) wn_MO_callsPush_0 (by decide +kernel))
theorem d_MO_callsPush_39 : decode b_MO_callsPush 39 = .ok (.i2l, 1) := dc_133 (q0_win (r := 39) wn_MO_callsPush_0 (by decide +kernel))
theorem d_MO_callsPush_40 : decode b_MO_callsPush 40 = .ok (.lastore, 1) := dc_80 (q0_win (r := 40) wn_MO_callsPush_0 (by decide +kernel))
theorem d_MO_callsPush_41 : decode b_MO_callsPush 41 = .ok (.aload_n 0, 1) := dc_42 (q0_win (r := 41) wn_MO_callsPush_0 (by decide +kernel))
theorem d_MO_callsPush_42 : decode b_MO_callsPush 42 = .ok (.getfield 106, 3) := dc_180 (qU2_win (r := 42) wn_MO_callsPush_0 (by decide +kernel))
theorem d_MO_callsPush_45 : decode b_MO_callsPush 45 = .ok (.iconst 1, 1) := dc_4 (q0_win (r := 45) wn_MO_callsPush_0 (by decide +kernel))
theorem d_MO_callsPush_46 : decode b_MO_callsPush 46 = .ok (.iload 4, 2) := dc_21 (qU1_win (r := 46) wn_MO_callsPush_0 (by decide +kernel))
theorem d_MO_callsPush_48 : decode b_MO_callsPush 48 = .ok (.iconst (-1), 1) := dc_2 (q0_win (r := 48) wn_MO_callsPush_0 (by decide +kernel))
theorem d_MO_callsPush_49 : decode b_MO_callsPush 49 = .ok (.if_icmp .ne 7, 3) := dc_160 (qS2_win (r := 49) wn_MO_callsPush_0 (by decide +kernel))
theorem d_MO_callsPush_52 : decode b_MO_callsPush 52 = .ok (.lconst 0, 1) := dc_9 (q0_win (r := 52) wn_MO_callsPush_0 (by decide +kernel))
theorem d_MO_callsPush_53 : decode b_MO_callsPush 53 = .ok (.goto 10, 3) := dc_167 (qS2_win (r := 53) wn_MO_callsPush_0 (by decide +kernel))
theorem d_MO_callsPush_56 : decode b_MO_callsPush 56 = .ok (.aload_n 0, 1) := dc_42 (q0_win (r := 56) wn_MO_callsPush_0 (by decide +kernel))
theorem d_MO_callsPush_57 : decode b_MO_callsPush 57 = .ok (.iload 4, 2) := dc_21 (qU1_win (r := 57) wn_MO_callsPush_0 (by decide +kernel))
theorem d_MO_callsPush_59 : decode b_MO_callsPush 59 = .ok (.invokevirtual 372, 3) := dc_182 (qU2_win (r := 59) wn_MO_callsPush_0 (by decide +kernel))
theorem d_MO_callsPush_62 : decode b_MO_callsPush 62 = .ok (.i2l, 1) := dc_133 (q0_win (r := 62) wn_MO_callsPush_0 (by decide +kernel))
theorem d_MO_callsPush_63 : decode b_MO_callsPush 63 = .ok (.lastore, 1) := dc_80 (q0_win (r := 63) wn_MO_callsPush_0 (by decide +kernel))
theorem d_MO_callsPush_64 : decode b_MO_callsPush 64 = .ok (.aload_n 0, 1) := dc_42 (q0_win (r := 64) wn_MO_callsPush_0 (by decide +kernel))
theorem d_MO_callsPush_65 : decode b_MO_callsPush 65 = .ok (.iconst 0, 1) := dc_3 (q0_win (r := 65) wn_MO_callsPush_0 (by decide +kernel))
theorem d_MO_callsPush_66 : decode b_MO_callsPush 66 = .ok (.iload_n 3, 1) := dc_29 (q0_win (r := 66) wn_MO_callsPush_0 (by decide +kernel))
theorem d_MO_callsPush_67 : decode b_MO_callsPush 67 = .ok (.invokevirtual 363, 3) := dc_182 (qU2_win (r := 67) wn_MO_callsPush_0 (by decide +kernel))
theorem d_MO_callsPush_70 : decode b_MO_callsPush 70 = .ok (.istore 5, 2) := dc_54 (qU1_win (r := 70) wn_MO_callsPush_0 (by decide +kernel))
theorem d_MO_callsPush_72 : decode b_MO_callsPush 72 = .ok (.aload_n 0, 1) := dc_42 (q0_win (r := 72) wn_MO_callsPush_0 (by decide +kernel))
theorem d_MO_callsPush_73 : decode b_MO_callsPush 73 = .ok (.getfield 106, 3) := dc_180 (qU2_win (r := 73) wn_MO_callsPush_0 (by decide +kernel))
theorem d_MO_callsPush_76 : decode b_MO_callsPush 76 = .ok (.iconst 2, 1) := dc_5 (q0_win (r := 76) wn_MO_callsPush_0 (by decide +kernel))
theorem d_MO_callsPush_77 : decode b_MO_callsPush 77 = .ok (.iload 5, 2) := dc_21 (qU1_win (r := 77) wn_MO_callsPush_0 (by decide +kernel))
theorem d_MO_callsPush_79 : decode b_MO_callsPush 79 = .ok (.iconst (-1), 1) := dc_2 (q0_win (r := 79) wn_MO_callsPush_0 (by decide +kernel))
theorem d_MO_callsPush_80 : decode b_MO_callsPush 80 = .ok (.if_icmp .eq 7, 3) := dc_159 (qS2_win (r := 80) wn_MO_callsPush_0 (by decide +kernel))
theorem d_MO_callsPush_83 : decode b_MO_callsPush 83 = .ok (.iconst 1, 1) := dc_4 (q0_win (r := 83) wn_MO_callsPush_0 (by decide +kernel))
theorem d_MO_callsPush_84 : decode b_MO_callsPush 84 = .ok (.goto 4, 3) := dc_167 (qS2_win (r := 84) wn_MO_callsPush_0 (by decide +kernel))
theorem d_MO_callsPush_87 : decode b_MO_callsPush 87 = .ok (.iconst 0, 1) := dc_3 (q0_win (r := 87) wn_MO_callsPush_0 (by decide +kernel))
theorem d_MO_callsPush_88 : decode b_MO_callsPush 88 = .ok (.invokestatic 384, 3) := dc_184 (qU2_win (r := 88) wn_MO_callsPush_0 (by decide +kernel))
theorem d_MO_callsPush_91 : decode b_MO_callsPush 91 = .ok (.lastore, 1) := dc_80 (q0_win (r := 91) wn_MO_callsPush_0 (by decide +kernel))
theorem d_MO_callsPush_92 : decode b_MO_callsPush 92 = .ok (.aload_n 0, 1) := dc_42 (q0_win (r := 92) wn_MO_callsPush_0 (by decide +kernel))
theorem d_MO_callsPush_93 : decode b_MO_callsPush 93 = .ok (.getfield 106, 3) := dc_180 (qU2_win (r := 93) wn_MO_callsPush_0 (by decide +kernel))
theorem wn_MO_callsPush_96 : ∀ i, i < 88 → bA b_MO_callsPush (96 + i) = wB [6, 21, 5, 2, 160, 0, 7, 9, 167, 0, 11, 42, 180, 0, 38, 21, 5, 46, 133, 80, 42, 180, 0, 106, 7, 42, 27, 29, 182, 1, 103, 184, 1, 128, 80, 42, 3, 27, 182, 1, 79, 54, 6, 42, 180, 0, 106, 8, 21, 6, 7, 159, 0, 17, 21, 6, 5, 96, 7, 112, 28, 160, 0, 7, 4, 167, 0, 4, 3, 184, 1, 128, 80, 42, 180, 0, 106, 16, 6, 42, 180, 0, 60, 3, 46, 133, 80, 177] i := wB_of (by decide +kernel)
theorem d_MO_callsPush_96 : decode b_MO_callsPush 96 = .ok (.iconst 3, 1) := dc_6 (q0_win (r := 0) wn_MO_callsPush_96 (by decide +kernel))
theorem d_MO_callsPush_97 : decode b_MO_callsPush 97 = .ok (.iload 5, 2) := dc_21 (qU1_win (r := 1) wn_MO_callsPush_96 (by decide +kernel))
theorem d_MO_callsPush_99 : decode b_MO_callsPush 99 = .ok (.iconst (-1), 1) := dc_2 (q0_win (r := 3) wn_MO_callsPush_96 (by decide +kernel))
theorem d_MO_callsPush_100 : decode b_MO_callsPush 100 = .ok (.if_icmp .ne 7, 3) := dc_160 (qS2_win (r := 4) wn_MO_callsPush_96 (by decide +kernel))
theorem d_MO_callsPush_103 : decode b_MO_callsPush 103 = .ok (.lconst 0, 1) := dc_9 (q0_win (r := 7) wn_MO_callsPush_96 (by decide +kernel))
theorem d_MO_callsPush_104 : decode b_MO_callsPush 104 = .ok (.goto 11, 3) := dc_167 (qS2_win (r := 8) wn_MO_callsPush_96 (by decide +kernel))
theorem d_MO_callsPush_107 : decode b_MO_callsPush 107 = .ok (.aload_n 0, 1) := dc_42 (q0_win (r := 11) wn_MO_callsPush_96 (by decide +kernel))
theorem d_MO_callsPush_108 : decode b_MO_callsPush 108 = .ok (.getfield 38, 3) := dc_180 (qU2_win (r := 12) wn_MO_callsPush_96 (by decide +kernel))
theorem d_MO_callsPush_111 : decode b_MO_callsPush 111 = .ok (.iload 5, 2) := dc_21 (qU1_win (r := 15) wn_MO_callsPush_96 (by decide +kernel))
theorem d_MO_callsPush_113 : decode b_MO_callsPush 113 = .ok (.iaload, 1) := dc_46 (q0_win (r := 17) wn_MO_callsPush_96 (by decide +kernel))
theorem d_MO_callsPush_114 : decode b_MO_callsPush 114 = .ok (.i2l, 1) := dc_133 (q0_win (r := 18) wn_MO_callsPush_96 (by decide +kernel))
theorem d_MO_callsPush_115 : decode b_MO_callsPush 115 = .ok (.lastore, 1) := dc_80 (q0_win (r := 19) wn_MO_callsPush_96 (by decide +kernel))
theorem d_MO_callsPush_116 : decode b_MO_callsPush 116 = .ok (.aload_n 0, 1) := dc_42 (q0_win (r := 20) wn_MO_callsPush_96 (by decide +kernel))
theorem d_MO_callsPush_117 : decode b_MO_callsPush 117 = .ok (.getfield 106, 3) := dc_180 (qU2_win (r := 21) wn_MO_callsPush_96 (by decide +kernel))
theorem d_MO_callsPush_120 : decode b_MO_callsPush 120 = .ok (.iconst 4, 1) := dc_7 (q0_win (r := 24) wn_MO_callsPush_96 (by decide +kernel))
theorem d_MO_callsPush_121 : decode b_MO_callsPush 121 = .ok (.aload_n 0, 1) := dc_42 (q0_win (r := 25) wn_MO_callsPush_96 (by decide +kernel))
theorem d_MO_callsPush_122 : decode b_MO_callsPush 122 = .ok (.iload_n 1, 1) := dc_27 (q0_win (r := 26) wn_MO_callsPush_96 (by decide +kernel))
theorem d_MO_callsPush_123 : decode b_MO_callsPush 123 = .ok (.iload_n 3, 1) := dc_29 (q0_win (r := 27) wn_MO_callsPush_96 (by decide +kernel))
theorem d_MO_callsPush_124 : decode b_MO_callsPush 124 = .ok (.invokevirtual 359, 3) := dc_182 (qU2_win (r := 28) wn_MO_callsPush_96 (by decide +kernel))
theorem d_MO_callsPush_127 : decode b_MO_callsPush 127 = .ok (.invokestatic 384, 3) := dc_184 (qU2_win (r := 31) wn_MO_callsPush_96 (by decide +kernel))
theorem d_MO_callsPush_130 : decode b_MO_callsPush 130 = .ok (.lastore, 1) := dc_80 (q0_win (r := 34) wn_MO_callsPush_96 (by decide +kernel))
theorem d_MO_callsPush_131 : decode b_MO_callsPush 131 = .ok (.aload_n 0, 1) := dc_42 (q0_win (r := 35) wn_MO_callsPush_96 (by decide +kernel))
theorem d_MO_callsPush_132 : decode b_MO_callsPush 132 = .ok (.iconst 0, 1) := dc_3 (q0_win (r := 36) wn_MO_callsPush_96 (by decide +kernel))
theorem d_MO_callsPush_133 : decode b_MO_callsPush 133 = .ok (.iload_n 1, 1) := dc_27 (q0_win (r := 37) wn_MO_callsPush_96 (by decide +kernel))
theorem d_MO_callsPush_134 : decode b_MO_callsPush 134 = .ok (.invokevirtual 335, 3) := dc_182 (qU2_win (r := 38) wn_MO_callsPush_96 (by decide +kernel))
theorem d_MO_callsPush_137 : decode b_MO_callsPush 137 = .ok (.istore 6, 2) := dc_54 (qU1_win (r := 41) wn_MO_callsPush_96 (by decide +kernel))
theorem d_MO_callsPush_139 : decode b_MO_callsPush 139 = .ok (.aload_n 0, 1) := dc_42 (q0_win (r := 43) wn_MO_callsPush_96 (by decide +kernel))
theorem d_MO_callsPush_140 : decode b_MO_callsPush 140 = .ok (.getfield 106, 3) := dc_180 (qU2_win (r := 44) wn_MO_callsPush_96 (by decide +kernel))
theorem d_MO_callsPush_143 : decode b_MO_callsPush 143 = .ok (.iconst 5, 1) := dc_8 (q0_win (r := 47) wn_MO_callsPush_96 (by decide +kernel))
theorem d_MO_callsPush_144 : decode b_MO_callsPush 144 = .ok (.iload 6, 2) := dc_21 (qU1_win (r := 48) wn_MO_callsPush_96 (by decide +kernel))
theorem d_MO_callsPush_146 : decode b_MO_callsPush 146 = .ok (.iconst 4, 1) := dc_7 (q0_win (r := 50) wn_MO_callsPush_96 (by decide +kernel))
theorem d_MO_callsPush_147 : decode b_MO_callsPush 147 = .ok (.if_icmp .eq 17, 3) := dc_159 (qS2_win (r := 51) wn_MO_callsPush_96 (by decide +kernel))
theorem d_MO_callsPush_150 : decode b_MO_callsPush 150 = .ok (.iload 6, 2) := dc_21 (qU1_win (r := 54) wn_MO_callsPush_96 (by decide +kernel))
theorem d_MO_callsPush_152 : decode b_MO_callsPush 152 = .ok (.iconst 2, 1) := dc_5 (q0_win (r := 56) wn_MO_callsPush_96 (by decide +kernel))
theorem d_MO_callsPush_153 : decode b_MO_callsPush 153 = .ok (.iadd, 1) := dc_96 (q0_win (r := 57) wn_MO_callsPush_96 (by decide +kernel))
theorem d_MO_callsPush_154 : decode b_MO_callsPush 154 = .ok (.iconst 4, 1) := dc_7 (q0_win (r := 58) wn_MO_callsPush_96 (by decide +kernel))
theorem d_MO_callsPush_155 : decode b_MO_callsPush 155 = .ok (.irem, 1) := dc_112 (q0_win (r := 59) wn_MO_callsPush_96 (by decide +kernel))
theorem d_MO_callsPush_156 : decode b_MO_callsPush 156 = .ok (.iload_n 2, 1) := dc_28 (q0_win (r := 60) wn_MO_callsPush_96 (by decide +kernel))
theorem d_MO_callsPush_157 : decode b_MO_callsPush 157 = .ok (.if_icmp .ne 7, 3) := dc_160 (qS2_win (r := 61) wn_MO_callsPush_96 (by decide +kernel))
theorem d_MO_callsPush_160 : decode b_MO_callsPush 160 = .ok (.iconst 1, 1) := dc_4 (q0_win (r := 64) wn_MO_callsPush_96 (by decide +kernel))
theorem d_MO_callsPush_161 : decode b_MO_callsPush 161 = .ok (.goto 4, 3) := dc_167 (qS2_win (r := 65) wn_MO_callsPush_96 (by decide +kernel))
theorem d_MO_callsPush_164 : decode b_MO_callsPush 164 = .ok (.iconst 0, 1) := dc_3 (q0_win (r := 68) wn_MO_callsPush_96 (by decide +kernel))
theorem d_MO_callsPush_165 : decode b_MO_callsPush 165 = .ok (.invokestatic 384, 3) := dc_184 (qU2_win (r := 69) wn_MO_callsPush_96 (by decide +kernel))
theorem d_MO_callsPush_168 : decode b_MO_callsPush 168 = .ok (.lastore, 1) := dc_80 (q0_win (r := 72) wn_MO_callsPush_96 (by decide +kernel))
theorem d_MO_callsPush_169 : decode b_MO_callsPush 169 = .ok (.aload_n 0, 1) := dc_42 (q0_win (r := 73) wn_MO_callsPush_96 (by decide +kernel))
theorem d_MO_callsPush_170 : decode b_MO_callsPush 170 = .ok (.getfield 106, 3) := dc_180 (qU2_win (r := 74) wn_MO_callsPush_96 (by decide +kernel))
theorem d_MO_callsPush_173 : decode b_MO_callsPush 173 = .ok (.bipush 6, 2) := dc_16 (qS1_win (r := 77) wn_MO_callsPush_96 (by decide +kernel))
theorem d_MO_callsPush_175 : decode b_MO_callsPush 175 = .ok (.aload_n 0, 1) := dc_42 (q0_win (r := 79) wn_MO_callsPush_96 (by decide +kernel))
theorem d_MO_callsPush_176 : decode b_MO_callsPush 176 = .ok (.getfield 60, 3) := dc_180 (qU2_win (r := 80) wn_MO_callsPush_96 (by decide +kernel))
theorem d_MO_callsPush_179 : decode b_MO_callsPush 179 = .ok (.iconst 0, 1) := dc_3 (q0_win (r := 83) wn_MO_callsPush_96 (by decide +kernel))
theorem d_MO_callsPush_180 : decode b_MO_callsPush 180 = .ok (.iaload, 1) := dc_46 (q0_win (r := 84) wn_MO_callsPush_96 (by decide +kernel))
theorem d_MO_callsPush_181 : decode b_MO_callsPush 181 = .ok (.i2l, 1) := dc_133 (q0_win (r := 85) wn_MO_callsPush_96 (by decide +kernel))
theorem d_MO_callsPush_182 : decode b_MO_callsPush 182 = .ok (.lastore, 1) := dc_80 (q0_win (r := 86) wn_MO_callsPush_96 (by decide +kernel))
theorem d_MO_callsPush_183 : decode b_MO_callsPush 183 = .ok (.return_, 1) := dc_177 (q0_win (r := 87) wn_MO_callsPush_96 (by decide +kernel))
def t_MO_callsPush_L165 (x1 : Int) (x2 : Int)  (M : Mem) (v2_ : Int) (v3_ : Int) : Option (Mem) := (qlet (t_MO_is M v3_) fun q36 => (qguard (0 ≤ v2_ ∧ v2_ < 7) (qlet (setL M 220 v2_ q36) fun M39 => (qlet (setL M39 220 6 (q_i2l (M39.1 207 0))) fun M41 => (some M41)))))
def t_MO_callsPush_L164 (x1 : Int) (x2 : Int)  (M : Mem) (v2_ : Int) : Option (Mem) := (t_MO_callsPush_L165 x1 x2 M v2_ 0)
def t_MO_callsPush_L115 (x1 : Int) (x2 : Int)  (M : Mem) (v3_ : Int) (v5_ : Int) (v6_ : Int64) : Option (Mem) := (qguard (0 ≤ v5_ ∧ v5_ < 7) (qlet (setL M 220 v5_ v6_) fun M26 => (obind (t_MO_isLine M26 x1 v3_) fun q27 => (qlet (t_MO_is M26 q27) fun q29 => (qlet (setL M26 220 4 q29) fun M31 => (obind (t_MO_downOf M31 0 x1) fun q32 => (if q32 = 4 then (t_MO_callsPush_L164 x1 x2 M31 5) else (if (q_rem (w32 (q32 + 2)) 4) = x2 then (t_MO_callsPush_L165 x1 x2 M31 5 1) else (t_MO_callsPush_L164 x1 x2 M31 5)))))))))
def t_MO_callsPush_L88 (x1 : Int) (x2 : Int)  (M : Mem) (v3_ : Int) (v4_ : Int) (v6_ : Int) (v7_ : Int) : Option (Mem) := (qlet (t_MO_is M v7_) fun q18 => (qguard (0 ≤ v6_ ∧ v6_ < 7) (qlet (setL M 220 v6_ q18) fun M21 => (if v4_ = (-1) then (t_MO_callsPush_L115 x1 x2 M21 v3_ 3 0) else (qguard (0 ≤ v4_ ∧ v4_ < 16) (t_MO_callsPush_L115 x1 x2 M21 v3_ 3 (q_i2l (M21.1 201 v4_))))))))
def t_MO_callsPush_L63 (x1 : Int) (x2 : Int)  (M : Mem) (v3_ : Int) (v5_ : Int) (v6_ : Int64) : Option (Mem) := (qguard (0 ≤ v5_ ∧ v5_ < 7) (qlet (setL M 220 v5_ v6_) fun M14 => (obind (t_MO_thingIn M14 0 v3_) fun q15 => (if q15 = (-1) then (t_MO_callsPush_L88 x1 x2 M14 v3_ q15 2 0) else (t_MO_callsPush_L88 x1 x2 M14 v3_ q15 2 1)))))
def t_MO_callsPush_L40 (x1 : Int) (x2 : Int)  (M : Mem) (v3_ : Int) (v4_ : Int) (v6_ : Int) (v7_ : Int64) : Option (Mem) := (qguard (0 ≤ v6_ ∧ v6_ < 7) (qlet (setL M 220 v6_ v7_) fun M9 => (if v4_ = (-1) then (t_MO_callsPush_L63 x1 x2 M9 v3_ 1 0) else (obind (t_MO_sizeOf M9 v4_) fun q11 => (t_MO_callsPush_L63 x1 x2 M9 v3_ 1 (q_i2l q11))))))
def t_MO_callsPush (M : Mem) (x1 : Int) (x2 : Int) : Option (Mem) := (obind (t_MO_beside M x1 x2) fun q1 => (qguard (0 ≤ q1 ∧ q1 < 96) (if (w32 ((M.1 197 q1) - 1)) = (-1) then (t_MO_callsPush_L40 x1 x2 M q1 (w32 ((M.1 197 q1) - 1)) 0 0) else (qguard (0 ≤ (w32 ((M.1 197 q1) - 1)) ∧ (w32 ((M.1 197 q1) - 1)) < 8) (t_MO_callsPush_L40 x1 x2 M q1 (w32 ((M.1 197 q1) - 1)) 0 (q_i2l (M.1 196 (w32 ((M.1 197 q1) - 1)))))))))
set_option maxHeartbeats 4000000 in
set_option maxRecDepth 100000 in
theorem k_MO_callsPush_L165 (l : Launch) {p : Program} {e : Env} {s : State} {m : MethodId} {below : List Frame} {meth : Method} {c : Code} {b n : Nat} {C : CT} (hlo : 231 ≤ n) (x1 : Int) (x2 : Int) (hx1 : InR x1) (hx2 : InR x2) (F : Cx b p m c b_MO_callsPush 7 s ([.ref (b + 191), vI x1, vI x2] : List Value).toArray "WardFallsModel" C n 231) (hlk : meth.locks = false) (hr : meth.sig.returnType = none) {res : Mem} (M : Mem) (v2_ : Int) (hv2_ : InR v2_) (v3_ : Int) (hv3_ : v3_ = 0 ∨ v3_ = 1) (H : Heap) (locs : List Loc) (ls : Array Slot) (hS : St b C n M s H locs) (hl : lv_has ls 7 [(0, .ref (b + 191))]) (hT : t_MO_callsPush_L165 x1 x2 M v2_ v3_ = some res) : W p l e (headSpec (wsM y_MO_callsPush b_MO_callsPush 7 (none)) (rmD 2)).room s m ([.ref (b + 191), vI x1, vI x2] : List Value).toArray below meth c H locs 0 0 (MQ below (QV b C n res) ([.ref (b + 191), vI x1, vI x2] : List Value).toArray s 0 0 (frb b)) (F0 m 165 ls [vI v3_, vI v2_, .ref (b + 220)]) := by
  unfold t_MO_callsPush_L165 at hT
  obtain ⟨q36, hq36⟩ : ∃ q, q = (t_MO_is M v3_) := ⟨_, rfl⟩
  replace hT := qlet_eq hT hq36
  refine r_backL F hS (r_runS (As := [vI v3_]) F hS (c_MO_is l F.2.2.1 M v3_ (inr_z hv3_) _ hq36.symm) gs_MO_384 hd_MO_is ⟨Nat.le_of_ble_eq_true rfl, Nat.le_of_ble_eq_true rfl⟩ rfl hl.1 (Nat.le_of_ble_eq_true rfl) ⟨Nat.zero_le _, Nat.zero_le _⟩ rfl d_MO_callsPush_165) (fun H locs hS => ?_)
  obtain ⟨⟨g38a, g38b⟩, hT⟩ := q_guard hT
  refine r_last F hS (show 220 < 231 by decide) (show shK 220 = 2 from rfl) (show shN 220 = 7 from rfl) hv2_ g38a g38b d_MO_callsPush_168 (fun H locs hS => ?_)
  obtain ⟨M39, eM39⟩ : ∃ q, q = (setL M 220 v2_ q36) := ⟨_, rfl⟩
  replace hS : St b C n M39 s H locs := by rw [eM39]; exact hS
  replace hT := qlet_eq hT eM39
  refine lv_aload_n F.hx F.hb d_MO_callsPush_169 rfl (lv_at hl 0 rfl) ?_
  refine r_get (v := .ref (b + 220)) (N := 68) (T := T1) (j := 52) F hS (show 191 < 231 by decide) (show shK 191 = 5 from rfl) (show shN 191 = 68 from rfl) rfl (Nat.le_of_ble_eq_true rfl) ing1 mw_1441 (fv_sg rfl rfl rfl) d_MO_callsPush_170 ?_
  refine r_bipush F.hx F.hb d_MO_callsPush_173 rfl ?_
  refine lv_aload_n F.hx F.hb d_MO_callsPush_175 rfl (lv_at hl 0 rfl) ?_
  refine r_get (v := .ref (b + 207)) (N := 68) (T := T1) (j := 30) F hS (show 191 < 231 by decide) (show shK 191 = 5 from rfl) (show shN 191 = 68 from rfl) rfl (Nat.le_of_ble_eq_true rfl) ing1 mw_1419 (fv_sg rfl rfl rfl) d_MO_callsPush_176 ?_
  refine r_iconst F.hx F.hb d_MO_callsPush_179 ?_
  refine r_iald F hS (show 207 < 231 by decide) (show shK 207 = 0 from rfl) (show shN 207 = 23 from rfl) (inr_c rfl) (by omega) (by omega) d_MO_callsPush_180 ?_
  have i40 := hS.rng 207 0
  refine r_i2l F.hx F.hb d_MO_callsPush_181 ?_
  refine r_last F hS (show 220 < 231 by decide) (show shK 220 = 2 from rfl) (show shN 220 = 7 from rfl) (inr_c rfl) (by omega) (by omega) d_MO_callsPush_182 (fun H locs hS => ?_)
  obtain ⟨M41, eM41⟩ : ∃ q, q = (setL M39 220 6 (q_i2l (M39.1 207 0))) := ⟨_, rfl⟩
  replace hS : St b C n M41 s H locs := by rw [eM41]; exact hS
  replace hT := qlet_eq hT eM41
  cases hT
  exact r_vret F hlk hr hS d_MO_callsPush_183
set_option maxHeartbeats 4000000 in
set_option maxRecDepth 100000 in
theorem k_MO_callsPush_L164 (l : Launch) {p : Program} {e : Env} {s : State} {m : MethodId} {below : List Frame} {meth : Method} {c : Code} {b n : Nat} {C : CT} (hlo : 231 ≤ n) (x1 : Int) (x2 : Int) (hx1 : InR x1) (hx2 : InR x2) (F : Cx b p m c b_MO_callsPush 7 s ([.ref (b + 191), vI x1, vI x2] : List Value).toArray "WardFallsModel" C n 231) (hlk : meth.locks = false) (hr : meth.sig.returnType = none) {res : Mem} (M : Mem) (v2_ : Int) (hv2_ : InR v2_) (H : Heap) (locs : List Loc) (ls : Array Slot) (hS : St b C n M s H locs) (hl : lv_has ls 7 [(0, .ref (b + 191))]) (hT : t_MO_callsPush_L164 x1 x2 M v2_ = some res) : W p l e (headSpec (wsM y_MO_callsPush b_MO_callsPush 7 (none)) (rmD 2)).room s m ([.ref (b + 191), vI x1, vI x2] : List Value).toArray below meth c H locs 0 0 (MQ below (QV b C n res) ([.ref (b + 191), vI x1, vI x2] : List Value).toArray s 0 0 (frb b)) (F0 m 164 ls [vI v2_, .ref (b + 220)]) := by
  unfold t_MO_callsPush_L164 at hT
  refine r_iconst F.hx F.hb d_MO_callsPush_164 ?_
  exact k_MO_callsPush_L165 l hlo x1 x2 hx1 hx2 F hlk hr M v2_ hv2_ 0 (Or.inl rfl) _ _ _ hS (lv_sub hl [0] rfl) hT
set_option maxHeartbeats 4000000 in
set_option maxRecDepth 100000 in
theorem k_MO_callsPush_L115 (l : Launch) {p : Program} {e : Env} {s : State} {m : MethodId} {below : List Frame} {meth : Method} {c : Code} {b n : Nat} {C : CT} (hlo : 231 ≤ n) (x1 : Int) (x2 : Int) (hx1 : InR x1) (hx2 : InR x2) (F : Cx b p m c b_MO_callsPush 7 s ([.ref (b + 191), vI x1, vI x2] : List Value).toArray "WardFallsModel" C n 231) (hlk : meth.locks = false) (hr : meth.sig.returnType = none) {res : Mem} (M : Mem) (v3_ : Int) (hv3_ : InR v3_) (v5_ : Int) (hv5_ : InR v5_) (v6_ : Int64) (H : Heap) (locs : List Loc) (ls : Array Slot) (hS : St b C n M s H locs) (hl : lv_has ls 7 [(0, .ref (b + 191)), (1, vI x1), (2, vI x2), (3, vI v3_)]) (hT : t_MO_callsPush_L115 x1 x2 M v3_ v5_ v6_ = some res) : W p l e (headSpec (wsM y_MO_callsPush b_MO_callsPush 7 (none)) (rmD 2)).room s m ([.ref (b + 191), vI x1, vI x2] : List Value).toArray below meth c H locs 0 0 (MQ below (QV b C n res) ([.ref (b + 191), vI x1, vI x2] : List Value).toArray s 0 0 (frb b)) (F0 m 115 ls [.long v6_, vI v5_, .ref (b + 220)]) := by
  unfold t_MO_callsPush_L115 at hT
  obtain ⟨⟨g25a, g25b⟩, hT⟩ := q_guard hT
  refine r_last F hS (show 220 < 231 by decide) (show shK 220 = 2 from rfl) (show shN 220 = 7 from rfl) hv5_ g25a g25b d_MO_callsPush_115 (fun H locs hS => ?_)
  obtain ⟨M26, eM26⟩ : ∃ q, q = (setL M 220 v5_ v6_) := ⟨_, rfl⟩
  replace hS : St b C n M26 s H locs := by rw [eM26]; exact hS
  replace hT := qlet_eq hT eM26
  refine lv_aload_n F.hx F.hb d_MO_callsPush_116 rfl (lv_at hl 0 rfl) ?_
  refine r_get (v := .ref (b + 220)) (N := 68) (T := T1) (j := 52) F hS (show 191 < 231 by decide) (show shK 191 = 5 from rfl) (show shN 191 = 68 from rfl) rfl (Nat.le_of_ble_eq_true rfl) ing1 mw_1441 (fv_sg rfl rfl rfl) d_MO_callsPush_117 ?_
  refine r_iconst F.hx F.hb d_MO_callsPush_120 ?_
  refine lv_aload_n F.hx F.hb d_MO_callsPush_121 rfl (lv_at hl 0 rfl) ?_
  refine lv_iload_n F.hx F.hb d_MO_callsPush_122 rfl (lv_at hl 1 rfl) ?_
  refine lv_iload_n F.hx F.hb d_MO_callsPush_123 rfl (lv_at hl 3 rfl) ?_
  obtain ⟨q27, hq27, hT⟩ := q_obind hT
  refine r_backZ F hS (r_runV (k := 191) (N := 68) (T := T1) (As := [vI x1, vI v3_]) F hS (show 191 < 231 by decide) (show shK 191 = 5 from rfl) rfl (c_MO_isLine l F.2.2.1 M26 x1 v3_ hx1 hv3_ _ hq27) gs_MO_359 hd_MO_isLine ⟨Nat.le_of_ble_eq_true rfl, Nat.le_of_ble_eq_true rfl⟩ rfl hl.1 (Nat.le_of_ble_eq_true rfl) ⟨Nat.zero_le _, Nat.zero_le _⟩ rfl d_MO_callsPush_124) (fun H locs hS h28 => ?_)
  obtain ⟨q29, hq29⟩ : ∃ q, q = (t_MO_is M26 q27) := ⟨_, rfl⟩
  replace hT := qlet_eq hT hq29
  refine r_backL F hS (r_runS (As := [vI q27]) F hS (c_MO_is l F.2.2.1 M26 q27 (inr_z h28) _ hq29.symm) gs_MO_384 hd_MO_is ⟨Nat.le_of_ble_eq_true rfl, Nat.le_of_ble_eq_true rfl⟩ rfl hl.1 (Nat.le_of_ble_eq_true rfl) ⟨Nat.zero_le _, Nat.zero_le _⟩ rfl d_MO_callsPush_127) (fun H locs hS => ?_)
  refine r_last F hS (show 220 < 231 by decide) (show shK 220 = 2 from rfl) (show shN 220 = 7 from rfl) (inr_c rfl) (by omega) (by omega) d_MO_callsPush_130 (fun H locs hS => ?_)
  obtain ⟨M31, eM31⟩ : ∃ q, q = (setL M26 220 4 q29) := ⟨_, rfl⟩
  replace hS : St b C n M31 s H locs := by rw [eM31]; exact hS
  replace hT := qlet_eq hT eM31
  refine lv_aload_n F.hx F.hb d_MO_callsPush_131 rfl (lv_at hl 0 rfl) ?_
  refine r_iconst F.hx F.hb d_MO_callsPush_132 ?_
  refine lv_iload_n F.hx F.hb d_MO_callsPush_133 rfl (lv_at hl 1 rfl) ?_
  obtain ⟨q32, hq32, hT⟩ := q_obind hT
  refine r_backI F hS (r_runV (k := 191) (N := 68) (T := T1) (As := [vI 0, vI x1]) F hS (show 191 < 231 by decide) (show shK 191 = 5 from rfl) rfl (c_MO_downOf l F.2.2.1 M31 0 x1 (inr_c rfl) hx1 _ hq32) gs_MO_335 hd_MO_downOf ⟨Nat.le_of_ble_eq_true rfl, Nat.le_of_ble_eq_true rfl⟩ rfl hl.1 (Nat.le_of_ble_eq_true rfl) ⟨Nat.zero_le _, Nat.zero_le _⟩ rfl d_MO_callsPush_134) (fun H locs hS h33 => ?_)
  refine lv_istore (lv' := [(6, vI q32), (0, .ref (b + 191)), (1, vI x1), (2, vI x2), (3, vI v3_)]) F.hx F.hb d_MO_callsPush_137 hl (Nat.le_of_ble_eq_true rfl) rfl (fun ls hl => ?_)
  refine lv_aload_n F.hx F.hb d_MO_callsPush_139 rfl (lv_at hl 1 rfl) ?_
  refine r_get (v := .ref (b + 220)) (N := 68) (T := T1) (j := 52) F hS (show 191 < 231 by decide) (show shK 191 = 5 from rfl) (show shN 191 = 68 from rfl) rfl (Nat.le_of_ble_eq_true rfl) ing1 mw_1441 (fv_sg rfl rfl rfl) d_MO_callsPush_140 ?_
  refine r_iconst F.hx F.hb d_MO_callsPush_143 ?_
  refine lv_iload F.hx F.hb d_MO_callsPush_144 (lv_at hl 0 rfl) ?_
  refine r_iconst F.hx F.hb d_MO_callsPush_146 ?_
  refine r_icmp_eq (tgt := 164) F.hx F.hb h33 (inr_c rfl) d_MO_callsPush_147 (by decide) (fun c34 => ?_) (fun c34 => ?_)
  · replace hT := (if_pos c34).symm.trans hT
    exact k_MO_callsPush_L164 l hlo x1 x2 hx1 hx2 F hlk hr M31 5 (inr_c rfl) _ _ _ hS (lv_sub hl [1] rfl) hT
  · replace hT := (if_neg c34).symm.trans hT
    refine lv_iload F.hx F.hb d_MO_callsPush_150 (lv_at hl 0 rfl) ?_
    refine r_iconst F.hx F.hb d_MO_callsPush_152 ?_
    refine r_iadd F.hx F.hb d_MO_callsPush_153 ?_
    refine r_iconst F.hx F.hb d_MO_callsPush_154 ?_
    refine r_irem F.hx F.hb (inr_c rfl) (by decide) d_MO_callsPush_155 ?_
    refine lv_iload_n F.hx F.hb d_MO_callsPush_156 rfl (lv_at hl 3 rfl) ?_
    refine r_icmp_ne (tgt := 164) F.hx F.hb (q_inr_toInt _) hx2 d_MO_callsPush_157 (by decide) (fun c35 => ?_) (fun c35 => ?_)
    · replace hT := (if_neg c35).symm.trans hT
      exact k_MO_callsPush_L164 l hlo x1 x2 hx1 hx2 F hlk hr M31 5 (inr_c rfl) _ _ _ hS (lv_sub hl [1] rfl) hT
    · replace hT := (if_pos c35).symm.trans hT
      refine r_iconst F.hx F.hb d_MO_callsPush_160 ?_
      refine lv_goto (tgt := 165) F.hx F.hb d_MO_callsPush_161 (by decide) ?_
      exact k_MO_callsPush_L165 l hlo x1 x2 hx1 hx2 F hlk hr M31 5 (inr_c rfl) 1 (Or.inr rfl) _ _ _ hS (lv_sub hl [1] rfl) hT
set_option maxHeartbeats 4000000 in
set_option maxRecDepth 100000 in
theorem k_MO_callsPush_L88 (l : Launch) {p : Program} {e : Env} {s : State} {m : MethodId} {below : List Frame} {meth : Method} {c : Code} {b n : Nat} {C : CT} (hlo : 231 ≤ n) (x1 : Int) (x2 : Int) (hx1 : InR x1) (hx2 : InR x2) (F : Cx b p m c b_MO_callsPush 7 s ([.ref (b + 191), vI x1, vI x2] : List Value).toArray "WardFallsModel" C n 231) (hlk : meth.locks = false) (hr : meth.sig.returnType = none) {res : Mem} (M : Mem) (v3_ : Int) (hv3_ : InR v3_) (v4_ : Int) (hv4_ : InR v4_) (v6_ : Int) (hv6_ : InR v6_) (v7_ : Int) (hv7_ : v7_ = 0 ∨ v7_ = 1) (H : Heap) (locs : List Loc) (ls : Array Slot) (hS : St b C n M s H locs) (hl : lv_has ls 7 [(0, .ref (b + 191)), (1, vI x1), (2, vI x2), (3, vI v3_), (5, vI v4_)]) (hT : t_MO_callsPush_L88 x1 x2 M v3_ v4_ v6_ v7_ = some res) : W p l e (headSpec (wsM y_MO_callsPush b_MO_callsPush 7 (none)) (rmD 2)).room s m ([.ref (b + 191), vI x1, vI x2] : List Value).toArray below meth c H locs 0 0 (MQ below (QV b C n res) ([.ref (b + 191), vI x1, vI x2] : List Value).toArray s 0 0 (frb b)) (F0 m 88 ls [vI v7_, vI v6_, .ref (b + 220)]) := by
  unfold t_MO_callsPush_L88 at hT
  obtain ⟨q18, hq18⟩ : ∃ q, q = (t_MO_is M v7_) := ⟨_, rfl⟩
  replace hT := qlet_eq hT hq18
  refine r_backL F hS (r_runS (As := [vI v7_]) F hS (c_MO_is l F.2.2.1 M v7_ (inr_z hv7_) _ hq18.symm) gs_MO_384 hd_MO_is ⟨Nat.le_of_ble_eq_true rfl, Nat.le_of_ble_eq_true rfl⟩ rfl hl.1 (Nat.le_of_ble_eq_true rfl) ⟨Nat.zero_le _, Nat.zero_le _⟩ rfl d_MO_callsPush_88) (fun H locs hS => ?_)
  obtain ⟨⟨g20a, g20b⟩, hT⟩ := q_guard hT
  refine r_last F hS (show 220 < 231 by decide) (show shK 220 = 2 from rfl) (show shN 220 = 7 from rfl) hv6_ g20a g20b d_MO_callsPush_91 (fun H locs hS => ?_)
  obtain ⟨M21, eM21⟩ : ∃ q, q = (setL M 220 v6_ q18) := ⟨_, rfl⟩
  replace hS : St b C n M21 s H locs := by rw [eM21]; exact hS
  replace hT := qlet_eq hT eM21
  refine lv_aload_n F.hx F.hb d_MO_callsPush_92 rfl (lv_at hl 0 rfl) ?_
  refine r_get (v := .ref (b + 220)) (N := 68) (T := T1) (j := 52) F hS (show 191 < 231 by decide) (show shK 191 = 5 from rfl) (show shN 191 = 68 from rfl) rfl (Nat.le_of_ble_eq_true rfl) ing1 mw_1441 (fv_sg rfl rfl rfl) d_MO_callsPush_93 ?_
  refine r_iconst F.hx F.hb d_MO_callsPush_96 ?_
  refine lv_iload F.hx F.hb d_MO_callsPush_97 (lv_at hl 4 rfl) ?_
  refine r_iconst F.hx F.hb d_MO_callsPush_99 ?_
  refine r_icmp_ne (tgt := 107) F.hx F.hb hv4_ (inr_c rfl) d_MO_callsPush_100 (by decide) (fun c22 => ?_) (fun c22 => ?_)
  · replace hT := (if_neg c22).symm.trans hT
    refine lv_aload_n F.hx F.hb d_MO_callsPush_107 rfl (lv_at hl 0 rfl) ?_
    refine r_get (v := .ref (b + 201)) (N := 68) (T := T1) (j := 11) F hS (show 191 < 231 by decide) (show shK 191 = 5 from rfl) (show shN 191 = 68 from rfl) rfl (Nat.le_of_ble_eq_true rfl) ing1 mw_1400 (fv_sg rfl rfl rfl) d_MO_callsPush_108 ?_
    refine lv_iload F.hx F.hb d_MO_callsPush_111 (lv_at hl 4 rfl) ?_
    obtain ⟨⟨g23a, g23b⟩, hT⟩ := q_guard hT
    refine r_iald F hS (show 201 < 231 by decide) (show shK 201 = 0 from rfl) (show shN 201 = 16 from rfl) hv4_ g23a g23b d_MO_callsPush_113 ?_
    have i24 := hS.rng 201 v4_
    refine r_i2l F.hx F.hb d_MO_callsPush_114 ?_
    exact k_MO_callsPush_L115 l hlo x1 x2 hx1 hx2 F hlk hr M21 v3_ hv3_ 3 (inr_c rfl) (q_i2l (M21.1 201 v4_)) _ _ _ hS (lv_sub hl [0, 1, 2, 3] rfl) hT
  · replace hT := (if_pos c22).symm.trans hT
    refine lv_lconst (v := 0) F.hx F.hb d_MO_callsPush_103 rfl ?_
    refine lv_goto (tgt := 115) F.hx F.hb d_MO_callsPush_104 (by decide) ?_
    exact k_MO_callsPush_L115 l hlo x1 x2 hx1 hx2 F hlk hr M21 v3_ hv3_ 3 (inr_c rfl) 0 _ _ _ hS (lv_sub hl [0, 1, 2, 3] rfl) hT
set_option maxHeartbeats 4000000 in
set_option maxRecDepth 100000 in
theorem k_MO_callsPush_L63 (l : Launch) {p : Program} {e : Env} {s : State} {m : MethodId} {below : List Frame} {meth : Method} {c : Code} {b n : Nat} {C : CT} (hlo : 231 ≤ n) (x1 : Int) (x2 : Int) (hx1 : InR x1) (hx2 : InR x2) (F : Cx b p m c b_MO_callsPush 7 s ([.ref (b + 191), vI x1, vI x2] : List Value).toArray "WardFallsModel" C n 231) (hlk : meth.locks = false) (hr : meth.sig.returnType = none) {res : Mem} (M : Mem) (v3_ : Int) (hv3_ : InR v3_) (v5_ : Int) (hv5_ : v5_ = 0 ∨ v5_ = 1) (v6_ : Int64) (H : Heap) (locs : List Loc) (ls : Array Slot) (hS : St b C n M s H locs) (hl : lv_has ls 7 [(0, .ref (b + 191)), (1, vI x1), (2, vI x2), (3, vI v3_)]) (hT : t_MO_callsPush_L63 x1 x2 M v3_ v5_ v6_ = some res) : W p l e (headSpec (wsM y_MO_callsPush b_MO_callsPush 7 (none)) (rmD 2)).room s m ([.ref (b + 191), vI x1, vI x2] : List Value).toArray below meth c H locs 0 0 (MQ below (QV b C n res) ([.ref (b + 191), vI x1, vI x2] : List Value).toArray s 0 0 (frb b)) (F0 m 63 ls [.long v6_, vI v5_, .ref (b + 220)]) := by
  unfold t_MO_callsPush_L63 at hT
  obtain ⟨⟨g13a, g13b⟩, hT⟩ := q_guard hT
  refine r_last F hS (show 220 < 231 by decide) (show shK 220 = 2 from rfl) (show shN 220 = 7 from rfl) (inr_z hv5_) g13a g13b d_MO_callsPush_63 (fun H locs hS => ?_)
  obtain ⟨M14, eM14⟩ : ∃ q, q = (setL M 220 v5_ v6_) := ⟨_, rfl⟩
  replace hS : St b C n M14 s H locs := by rw [eM14]; exact hS
  replace hT := qlet_eq hT eM14
  refine lv_aload_n F.hx F.hb d_MO_callsPush_64 rfl (lv_at hl 0 rfl) ?_
  refine r_iconst F.hx F.hb d_MO_callsPush_65 ?_
  refine lv_iload_n F.hx F.hb d_MO_callsPush_66 rfl (lv_at hl 3 rfl) ?_
  obtain ⟨q15, hq15, hT⟩ := q_obind hT
  refine r_backI F hS (r_runV (k := 191) (N := 68) (T := T1) (As := [vI 0, vI v3_]) F hS (show 191 < 231 by decide) (show shK 191 = 5 from rfl) rfl (c_MO_thingIn l F.2.2.1 M14 0 v3_ (inr_c rfl) hv3_ _ hq15) gs_MO_363 hd_MO_thingIn ⟨Nat.le_of_ble_eq_true rfl, Nat.le_of_ble_eq_true rfl⟩ rfl hl.1 (Nat.le_of_ble_eq_true rfl) ⟨Nat.zero_le _, Nat.zero_le _⟩ rfl d_MO_callsPush_67) (fun H locs hS h16 => ?_)
  refine lv_istore (lv' := [(5, vI q15), (0, .ref (b + 191)), (1, vI x1), (2, vI x2), (3, vI v3_)]) F.hx F.hb d_MO_callsPush_70 hl (Nat.le_of_ble_eq_true rfl) rfl (fun ls hl => ?_)
  refine lv_aload_n F.hx F.hb d_MO_callsPush_72 rfl (lv_at hl 1 rfl) ?_
  refine r_get (v := .ref (b + 220)) (N := 68) (T := T1) (j := 52) F hS (show 191 < 231 by decide) (show shK 191 = 5 from rfl) (show shN 191 = 68 from rfl) rfl (Nat.le_of_ble_eq_true rfl) ing1 mw_1441 (fv_sg rfl rfl rfl) d_MO_callsPush_73 ?_
  refine r_iconst F.hx F.hb d_MO_callsPush_76 ?_
  refine lv_iload F.hx F.hb d_MO_callsPush_77 (lv_at hl 0 rfl) ?_
  refine r_iconst F.hx F.hb d_MO_callsPush_79 ?_
  refine r_icmp_eq (tgt := 87) F.hx F.hb h16 (inr_c rfl) d_MO_callsPush_80 (by decide) (fun c17 => ?_) (fun c17 => ?_)
  · replace hT := (if_pos c17).symm.trans hT
    refine r_iconst F.hx F.hb d_MO_callsPush_87 ?_
    exact k_MO_callsPush_L88 l hlo x1 x2 hx1 hx2 F hlk hr M14 v3_ hv3_ q15 h16 2 (inr_c rfl) 0 (Or.inl rfl) _ _ _ hS (lv_sub hl [1, 2, 3, 4, 0] rfl) hT
  · replace hT := (if_neg c17).symm.trans hT
    refine r_iconst F.hx F.hb d_MO_callsPush_83 ?_
    refine lv_goto (tgt := 88) F.hx F.hb d_MO_callsPush_84 (by decide) ?_
    exact k_MO_callsPush_L88 l hlo x1 x2 hx1 hx2 F hlk hr M14 v3_ hv3_ q15 h16 2 (inr_c rfl) 1 (Or.inr rfl) _ _ _ hS (lv_sub hl [1, 2, 3, 4, 0] rfl) hT
set_option maxHeartbeats 4000000 in
set_option maxRecDepth 100000 in
theorem k_MO_callsPush_L40 (l : Launch) {p : Program} {e : Env} {s : State} {m : MethodId} {below : List Frame} {meth : Method} {c : Code} {b n : Nat} {C : CT} (hlo : 231 ≤ n) (x1 : Int) (x2 : Int) (hx1 : InR x1) (hx2 : InR x2) (F : Cx b p m c b_MO_callsPush 7 s ([.ref (b + 191), vI x1, vI x2] : List Value).toArray "WardFallsModel" C n 231) (hlk : meth.locks = false) (hr : meth.sig.returnType = none) {res : Mem} (M : Mem) (v3_ : Int) (hv3_ : InR v3_) (v4_ : Int) (hv4_ : InR v4_) (v6_ : Int) (hv6_ : v6_ = 0 ∨ v6_ = 1) (v7_ : Int64) (H : Heap) (locs : List Loc) (ls : Array Slot) (hS : St b C n M s H locs) (hl : lv_has ls 7 [(0, .ref (b + 191)), (1, vI x1), (2, vI x2), (3, vI v3_), (4, vI v4_)]) (hT : t_MO_callsPush_L40 x1 x2 M v3_ v4_ v6_ v7_ = some res) : W p l e (headSpec (wsM y_MO_callsPush b_MO_callsPush 7 (none)) (rmD 2)).room s m ([.ref (b + 191), vI x1, vI x2] : List Value).toArray below meth c H locs 0 0 (MQ below (QV b C n res) ([.ref (b + 191), vI x1, vI x2] : List Value).toArray s 0 0 (frb b)) (F0 m 40 ls [.long v7_, vI v6_, .ref (b + 220)]) := by
  unfold t_MO_callsPush_L40 at hT
  obtain ⟨⟨g8a, g8b⟩, hT⟩ := q_guard hT
  refine r_last F hS (show 220 < 231 by decide) (show shK 220 = 2 from rfl) (show shN 220 = 7 from rfl) (inr_z hv6_) g8a g8b d_MO_callsPush_40 (fun H locs hS => ?_)
  obtain ⟨M9, eM9⟩ : ∃ q, q = (setL M 220 v6_ v7_) := ⟨_, rfl⟩
  replace hS : St b C n M9 s H locs := by rw [eM9]; exact hS
  replace hT := qlet_eq hT eM9
  refine lv_aload_n F.hx F.hb d_MO_callsPush_41 rfl (lv_at hl 0 rfl) ?_
  refine r_get (v := .ref (b + 220)) (N := 68) (T := T1) (j := 52) F hS (show 191 < 231 by decide) (show shK 191 = 5 from rfl) (show shN 191 = 68 from rfl) rfl (Nat.le_of_ble_eq_true rfl) ing1 mw_1441 (fv_sg rfl rfl rfl) d_MO_callsPush_42 ?_
  refine r_iconst F.hx F.hb d_MO_callsPush_45 ?_
  refine lv_iload F.hx F.hb d_MO_callsPush_46 (lv_at hl 4 rfl) ?_
  refine r_iconst F.hx F.hb d_MO_callsPush_48 ?_
  refine r_icmp_ne (tgt := 56) F.hx F.hb hv4_ (inr_c rfl) d_MO_callsPush_49 (by decide) (fun c10 => ?_) (fun c10 => ?_)
  · replace hT := (if_neg c10).symm.trans hT
    refine lv_aload_n F.hx F.hb d_MO_callsPush_56 rfl (lv_at hl 0 rfl) ?_
    refine lv_iload F.hx F.hb d_MO_callsPush_57 (lv_at hl 4 rfl) ?_
    obtain ⟨q11, hq11, hT⟩ := q_obind hT
    refine r_backI F hS (r_runV (k := 191) (N := 68) (T := T1) (As := [vI v4_]) F hS (show 191 < 231 by decide) (show shK 191 = 5 from rfl) rfl (c_MO_sizeOf l F.2.2.1 M9 v4_ hv4_ _ hq11) gs_MO_372 hd_MO_sizeOf ⟨Nat.le_of_ble_eq_true rfl, Nat.le_of_ble_eq_true rfl⟩ rfl hl.1 (Nat.le_of_ble_eq_true rfl) ⟨Nat.zero_le _, Nat.zero_le _⟩ rfl d_MO_callsPush_59) (fun H locs hS h12 => ?_)
    refine r_i2l F.hx F.hb d_MO_callsPush_62 ?_
    exact k_MO_callsPush_L63 l hlo x1 x2 hx1 hx2 F hlk hr M9 v3_ hv3_ 1 (Or.inr rfl) (q_i2l q11) _ _ _ hS (lv_sub hl [0, 1, 2, 3] rfl) hT
  · replace hT := (if_pos c10).symm.trans hT
    refine lv_lconst (v := 0) F.hx F.hb d_MO_callsPush_52 rfl ?_
    refine lv_goto (tgt := 63) F.hx F.hb d_MO_callsPush_53 (by decide) ?_
    exact k_MO_callsPush_L63 l hlo x1 x2 hx1 hx2 F hlk hr M9 v3_ hv3_ 1 (Or.inr rfl) 0 _ _ _ hS (lv_sub hl [0, 1, 2, 3] rfl) hT
set_option maxHeartbeats 4000000 in
set_option maxRecDepth 100000 in
theorem c_MO_callsPush (l : Launch) {b n : Nat} {C : CT} (hlo : 231 ≤ n) (M : Mem) (x1 : Int) (x2 : Int) (hx1 : InR x1) (hx2 : InR x2) (res : Mem) (hT : t_MO_callsPush M x1 x2 = some res) : CM l b C n 2 y_MO_callsPush b_MO_callsPush 7 (none) [.ref (b + 191), vI x1, vI x2] M (QV b C n res) := by
  refine CM.of (lo := 231) (ow := "WardFallsModel") (by decide) rfl (Nat.le_of_ble_eq_true rfl) hlo (fun p e s m below meth c F hlk hr hS ls hl => ?_)
  have hl : lv_has ls 7 [(0, .ref (b + 191)), (1, vI x1), (2, vI x2)] := hl
  unfold t_MO_callsPush at hT
  refine lv_aload_n F.hx F.hb d_MO_callsPush_0 rfl (lv_at hl 0 rfl) ?_
  refine lv_iload_n F.hx F.hb d_MO_callsPush_1 rfl (lv_at hl 1 rfl) ?_
  refine lv_iload_n F.hx F.hb d_MO_callsPush_2 rfl (lv_at hl 2 rfl) ?_
  obtain ⟨q1, hq1, hT⟩ := q_obind hT
  refine r_backI F hS (r_runV (k := 191) (N := 68) (T := T1) (As := [vI x1, vI x2]) F hS (show 191 < 231 by decide) (show shK 191 = 5 from rfl) rfl (c_MO_beside l F.2.2.1 M x1 x2 hx1 hx2 _ hq1) gs_MO_338 hd_MO_beside ⟨Nat.le_of_ble_eq_true rfl, Nat.le_of_ble_eq_true rfl⟩ rfl hl.1 (Nat.le_of_ble_eq_true rfl) ⟨Nat.zero_le _, Nat.zero_le _⟩ rfl d_MO_callsPush_3) (fun H locs hS h2 => ?_)
  refine lv_istore_n (lv' := [(3, vI q1), (0, .ref (b + 191)), (1, vI x1), (2, vI x2)]) F.hx F.hb d_MO_callsPush_6 rfl hl (Nat.le_of_ble_eq_true rfl) rfl (fun ls hl => ?_)
  refine lv_aload_n F.hx F.hb d_MO_callsPush_7 rfl (lv_at hl 1 rfl) ?_
  refine r_get (v := .ref (b + 197)) (N := 68) (T := T1) (j := 7) F hS (show 191 < 231 by decide) (show shK 191 = 5 from rfl) (show shN 191 = 68 from rfl) rfl (Nat.le_of_ble_eq_true rfl) ing1 mw_1396 (fv_sg rfl rfl rfl) d_MO_callsPush_8 ?_
  refine lv_iload_n F.hx F.hb d_MO_callsPush_11 rfl (lv_at hl 0 rfl) ?_
  obtain ⟨⟨g3a, g3b⟩, hT⟩ := q_guard hT
  refine r_iald F hS (show 197 < 231 by decide) (show shK 197 = 0 from rfl) (show shN 197 = 96 from rfl) h2 g3a g3b d_MO_callsPush_12 ?_
  have i4 := hS.rng 197 q1
  refine r_iconst F.hx F.hb d_MO_callsPush_13 ?_
  refine r_isub F.hx F.hb d_MO_callsPush_14 ?_
  refine lv_istore (lv' := [(4, vI (w32 ((M.1 197 q1) - 1))), (3, vI q1), (0, .ref (b + 191)), (1, vI x1), (2, vI x2)]) F.hx F.hb d_MO_callsPush_15 hl (Nat.le_of_ble_eq_true rfl) rfl (fun ls hl => ?_)
  refine lv_aload_n F.hx F.hb d_MO_callsPush_17 rfl (lv_at hl 2 rfl) ?_
  refine r_get (v := .ref (b + 220)) (N := 68) (T := T1) (j := 52) F hS (show 191 < 231 by decide) (show shK 191 = 5 from rfl) (show shN 191 = 68 from rfl) rfl (Nat.le_of_ble_eq_true rfl) ing1 mw_1441 (fv_sg rfl rfl rfl) d_MO_callsPush_18 ?_
  refine r_iconst F.hx F.hb d_MO_callsPush_21 ?_
  refine lv_iload F.hx F.hb d_MO_callsPush_22 (lv_at hl 0 rfl) ?_
  refine r_iconst F.hx F.hb d_MO_callsPush_24 ?_
  refine r_icmp_ne (tgt := 32) F.hx F.hb (inr_w32 _) (inr_c rfl) d_MO_callsPush_25 (by decide) (fun c5 => ?_) (fun c5 => ?_)
  · replace hT := (if_neg c5).symm.trans hT
    refine lv_aload_n F.hx F.hb d_MO_callsPush_32 rfl (lv_at hl 2 rfl) ?_
    refine r_get (v := .ref (b + 196)) (N := 68) (T := T1) (j := 6) F hS (show 191 < 231 by decide) (show shK 191 = 5 from rfl) (show shN 191 = 68 from rfl) rfl (Nat.le_of_ble_eq_true rfl) ing1 mw_1395 (fv_sg rfl rfl rfl) d_MO_callsPush_33 ?_
    refine lv_iload F.hx F.hb d_MO_callsPush_36 (lv_at hl 0 rfl) ?_
    obtain ⟨⟨g6a, g6b⟩, hT⟩ := q_guard hT
    refine r_iald F hS (show 196 < 231 by decide) (show shK 196 = 0 from rfl) (show shN 196 = 8 from rfl) (inr_w32 _) g6a g6b d_MO_callsPush_38 ?_
    have i7 := hS.rng 196 (w32 ((M.1 197 q1) - 1))
    refine r_i2l F.hx F.hb d_MO_callsPush_39 ?_
    exact k_MO_callsPush_L40 l hlo x1 x2 hx1 hx2 F hlk hr M q1 h2 (w32 ((M.1 197 q1) - 1)) (inr_w32 _) 0 (Or.inl rfl) (q_i2l (M.1 196 (w32 ((M.1 197 q1) - 1)))) _ _ _ hS (lv_sub hl [2, 3, 4, 1, 0] rfl) hT
  · replace hT := (if_pos c5).symm.trans hT
    refine lv_lconst (v := 0) F.hx F.hb d_MO_callsPush_28 rfl ?_
    refine lv_goto (tgt := 40) F.hx F.hb d_MO_callsPush_29 (by decide) ?_
    exact k_MO_callsPush_L40 l hlo x1 x2 hx1 hx2 F hlk hr M q1 h2 (w32 ((M.1 197 q1) - 1)) (inr_w32 _) 0 (Or.inl rfl) 0 _ _ _ hS (lv_sub hl [2, 3, 4, 1, 0] rfl) hT
theorem d_MO_law_0 : decode b_MO_law 0 = .ok (.aload_n 0, 1) := dc_42 (by decide +kernel)
theorem d_MO_law_1 : decode b_MO_law 1 = .ok (.iconst 0, 1) := dc_3 (by decide +kernel)
theorem d_MO_law_2 : decode b_MO_law 2 = .ok (.putfield 145, 3) := dc_181 (by decide +kernel)
theorem d_MO_law_5 : decode b_MO_law 5 = .ok (.iload_n 1, 1) := dc_27 (by decide +kernel)
theorem d_MO_law_6 : decode b_MO_law 6 = .ok (.ifCond .lt 16, 3) := dc_155 (by decide +kernel)
theorem d_MO_law_9 : decode b_MO_law 9 = .ok (.iload_n 1, 1) := dc_27 (by decide +kernel)
theorem d_MO_law_10 : decode b_MO_law 10 = .ok (.iconst 1, 1) := dc_4 (by decide +kernel)
theorem d_MO_law_11 : decode b_MO_law 11 = .ok (.if_icmp .gt 11, 3) := dc_163 (by decide +kernel)
theorem d_MO_law_14 : decode b_MO_law 14 = .ok (.aload_n 0, 1) := dc_42 (by decide +kernel)
theorem d_MO_law_15 : decode b_MO_law 15 = .ok (.iload_n 1, 1) := dc_27 (by decide +kernel)
theorem d_MO_law_16 : decode b_MO_law 16 = .ok (.invokevirtual 401, 3) := dc_182 (by decide +kernel)
theorem d_MO_law_19 : decode b_MO_law 19 = .ok (.ifCond .ne 7, 3) := dc_154 (by decide +kernel)
theorem d_MO_law_22 : decode b_MO_law 22 = .ok (.ldc2_w 426, 3) := dc_20 (by decide +kernel)
theorem d_MO_law_25 : decode b_MO_law 25 = .ok (.lreturn, 1) := dc_173 (by decide +kernel)
theorem d_MO_law_26 : decode b_MO_law 26 = .ok (.iload_n 1, 1) := dc_27 (by decide +kernel)
theorem d_MO_law_27 : decode b_MO_law 27 = .ok (.iconst 1, 1) := dc_4 (by decide +kernel)
theorem d_MO_law_28 : decode b_MO_law 28 = .ok (.if_icmp .ne 24, 3) := dc_160 (by decide +kernel)
theorem d_MO_law_31 : decode b_MO_law 31 = .ok (.aload_n 0, 1) := dc_42 (by decide +kernel)
theorem d_MO_law_32 : decode b_MO_law 32 = .ok (.iload_n 2, 1) := dc_28 (by decide +kernel)
theorem d_MO_law_33 : decode b_MO_law 33 = .ok (.invokevirtual 369, 3) := dc_182 (by decide +kernel)
theorem d_MO_law_36 : decode b_MO_law 36 = .ok (.ifCond .ne 7, 3) := dc_154 (by decide +kernel)
theorem d_MO_law_39 : decode b_MO_law 39 = .ok (.ldc2_w 426, 3) := dc_20 (by decide +kernel)
theorem d_MO_law_42 : decode b_MO_law 42 = .ok (.lreturn, 1) := dc_173 (by decide +kernel)
theorem d_MO_law_43 : decode b_MO_law 43 = .ok (.aload_n 0, 1) := dc_42 (by decide +kernel)
theorem d_MO_law_44 : decode b_MO_law 44 = .ok (.iconst 0, 1) := dc_3 (by decide +kernel)
theorem d_MO_law_45 : decode b_MO_law 45 = .ok (.iload_n 2, 1) := dc_28 (by decide +kernel)
theorem d_MO_law_46 : decode b_MO_law 46 = .ok (.invokevirtual 417, 3) := dc_182 (by decide +kernel)
theorem d_MO_law_49 : decode b_MO_law 49 = .ok (.goto 43, 3) := dc_167 (by decide +kernel)
theorem d_MO_law_52 : decode b_MO_law 52 = .ok (.aload_n 0, 1) := dc_42 (by decide +kernel)
theorem d_MO_law_53 : decode b_MO_law 53 = .ok (.iload_n 2, 1) := dc_28 (by decide +kernel)
theorem d_MO_law_54 : decode b_MO_law 54 = .ok (.invokevirtual 428, 3) := dc_182 (by decide +kernel)
theorem d_MO_law_57 : decode b_MO_law 57 = .ok (.ifCond .eq 25, 3) := dc_153 (by decide +kernel)
theorem d_MO_law_60 : decode b_MO_law 60 = .ok (.iload_n 3, 1) := dc_29 (by decide +kernel)
theorem d_MO_law_61 : decode b_MO_law 61 = .ok (.ifCond .lt 21, 3) := dc_155 (by decide +kernel)
theorem d_MO_law_64 : decode b_MO_law 64 = .ok (.iload_n 3, 1) := dc_29 (by decide +kernel)
theorem d_MO_law_65 : decode b_MO_law 65 = .ok (.iconst 3, 1) := dc_6 (by decide +kernel)
theorem d_MO_law_66 : decode b_MO_law 66 = .ok (.if_icmp .gt 16, 3) := dc_163 (by decide +kernel)
theorem d_MO_law_69 : decode b_MO_law 69 = .ok (.aload_n 0, 1) := dc_42 (by decide +kernel)
theorem d_MO_law_70 : decode b_MO_law 70 = .ok (.aload_n 0, 1) := dc_42 (by decide +kernel)
theorem d_MO_law_71 : decode b_MO_law 71 = .ok (.iload_n 2, 1) := dc_28 (by decide +kernel)
theorem d_MO_law_72 : decode b_MO_law 72 = .ok (.iload_n 3, 1) := dc_29 (by decide +kernel)
theorem d_MO_law_73 : decode b_MO_law 73 = .ok (.invokevirtual 338, 3) := dc_182 (by decide +kernel)
theorem d_MO_law_76 : decode b_MO_law 76 = .ok (.invokevirtual 428, 3) := dc_182 (by decide +kernel)
theorem d_MO_law_79 : decode b_MO_law 79 = .ok (.ifCond .ne 7, 3) := dc_154 (by decide +kernel)
theorem d_MO_law_82 : decode b_MO_law 82 = .ok (.ldc2_w 426, 3) := dc_20 (by decide +kernel)
theorem d_MO_law_85 : decode b_MO_law 85 = .ok (.lreturn, 1) := dc_173 (by decide +kernel)
theorem d_MO_law_86 : decode b_MO_law 86 = .ok (.aload_n 0, 1) := dc_42 (by decide +kernel)
theorem d_MO_law_87 : decode b_MO_law 87 = .ok (.iload_n 2, 1) := dc_28 (by decide +kernel)
theorem d_MO_law_88 : decode b_MO_law 88 = .ok (.iload_n 3, 1) := dc_29 (by decide +kernel)
theorem d_MO_law_89 : decode b_MO_law 89 = .ok (.invokevirtual 431, 3) := dc_182 (by decide +kernel)
theorem d_MO_law_92 : decode b_MO_law 92 = .ok (.aload_n 0, 1) := dc_42 (by decide +kernel)
theorem d_MO_law_93 : decode b_MO_law 93 = .ok (.iload_n 1, 1) := dc_27 (by decide +kernel)
theorem d_MO_law_94 : decode b_MO_law 94 = .ok (.invokevirtual 404, 3) := dc_182 (by decide +kernel)
theorem d_MO_law_97 : decode b_MO_law 97 = .ok (.ifCond .eq 12, 3) := dc_153 (by decide +kernel)
theorem d_MO_law_100 : decode b_MO_law 100 = .ok (.aload_n 0, 1) := dc_42 (by decide +kernel)
theorem d_MO_law_101 : decode b_MO_law 101 = .ok (.getfield 109, 3) := dc_180 (by decide +kernel)
theorem d_MO_law_104 : decode b_MO_law 104 = .ok (.iconst 0, 1) := dc_3 (by decide +kernel)
theorem d_MO_law_105 : decode b_MO_law 105 = .ok (.laload, 1) := dc_47 (by decide +kernel)
theorem d_MO_law_106 : decode b_MO_law 106 = .ok (.goto 6, 3) := dc_167 (by decide +kernel)
theorem d_MO_law_109 : decode b_MO_law 109 = .ok (.ldc2_w 426, 3) := dc_20 (by decide +kernel)
theorem d_MO_law_112 : decode b_MO_law 112 = .ok (.lreturn, 1) := dc_173 (by decide +kernel)
def t_MO_law_L92 (x1 : Int) (x2 : Int) (x3 : Int)  (M : Mem)  : Option (Mem × Int64) := (obind (t_MO_goes M x1) fun q25 => (if (q25.2) = 0 then (some ((q25.1), (-9223372036854775808))) else (some ((q25.1), ((q25.1).2 221 0)))))
def t_MO_law (M : Mem) (x1 : Int) (x2 : Int) (x3 : Int) : Option (Mem × Int64) := (qlet (setI M 191 0 0) fun M1 => (if x1 < 0 then (some (M1, (-9223372036854775808))) else (if 1 < x1 then (some (M1, (-9223372036854775808))) else (obind (t_MO_hasLaw M1 x1) fun q4 => (if q4 = 0 then (some (M1, (-9223372036854775808))) else (if x1 = 1 then (qlet (t_MO_isWard M1 x2) fun q20 => (if q20 = 0 then (some (M1, (-9223372036854775808))) else (obind (t_MO_callsJoy M1 0 x2) fun q23 => (t_MO_law_L92 x1 x2 x3 q23)))) else (obind (t_MO_isOpen M1 x2) fun q8 => (if q8 = 0 then (some (M1, (-9223372036854775808))) else (if x3 < 0 then (some (M1, (-9223372036854775808))) else (if 3 < x3 then (some (M1, (-9223372036854775808))) else (obind (t_MO_beside M1 x2 x3) fun q13 => (obind (t_MO_isOpen M1 q13) fun q15 => (if q15 = 0 then (some (M1, (-9223372036854775808))) else (obind (t_MO_callsPush M1 x2 x3) fun q18 => (t_MO_law_L92 x1 x2 x3 q18)))))))))))))))
set_option maxHeartbeats 4000000 in
set_option maxRecDepth 100000 in
theorem k_MO_law_L92 (l : Launch) {p : Program} {e : Env} {s : State} {m : MethodId} {below : List Frame} {meth : Method} {c : Code} {b n : Nat} {C : CT} (hlo : 231 ≤ n) (x1 : Int) (x2 : Int) (x3 : Int) (hx1 : InR x1) (hx2 : InR x2) (hx3 : InR x3) (F : Cx b p m c b_MO_law 4 s ([.ref (b + 191), vI x1, vI x2, vI x3] : List Value).toArray "WardFallsModel" C n 231) (hlk : meth.locks = false) (hr : meth.sig.returnType = some .long) {res : Mem × Int64} (M : Mem)  (H : Heap) (locs : List Loc) (ls : Array Slot) (hS : St b C n M s H locs) (hl : lv_has ls 4 [(0, .ref (b + 191)), (1, vI x1)]) (hT : t_MO_law_L92 x1 x2 x3 M = some res) : W p l e (headSpec (wsM y_MO_law b_MO_law 4 (some .long)) (rmD 4)).room s m ([.ref (b + 191), vI x1, vI x2, vI x3] : List Value).toArray below meth c H locs 0 0 (MQ below (QL b C n res.1 res.2) ([.ref (b + 191), vI x1, vI x2, vI x3] : List Value).toArray s 0 0 (frb b)) (F0 m 92 ls []) := by
  unfold t_MO_law_L92 at hT
  refine lv_aload_n F.hx F.hb d_MO_law_92 rfl (lv_at hl 0 rfl) ?_
  refine lv_iload_n F.hx F.hb d_MO_law_93 rfl (lv_at hl 1 rfl) ?_
  obtain ⟨q25, hq25, hT⟩ := q_obind hT
  refine r_backZ F hS (r_runV (k := 191) (N := 68) (T := T1) (As := [vI x1]) F hS (show 191 < 231 by decide) (show shK 191 = 5 from rfl) rfl (c_MO_goes l F.2.2.1 M x1 hx1 _ hq25) gs_MO_404 hd_MO_goes ⟨Nat.le_of_ble_eq_true rfl, Nat.le_of_ble_eq_true rfl⟩ rfl hl.1 (Nat.le_of_ble_eq_true rfl) ⟨Nat.zero_le _, Nat.zero_le _⟩ rfl d_MO_law_94) (fun H locs hS h26 => ?_)
  refine r_if_eq (tgt := 109) F.hx F.hb (inr_z h26) d_MO_law_97 (by decide) (fun c27 => ?_) (fun c27 => ?_)
  · replace hT := (if_pos c27).symm.trans hT
    refine lv_ldc2 (v := (-9223372036854775808)) F.hx F.hb F.hown (F.hts mw_1855) d_MO_law_109 ?_
    cases hT
    exact r_lret F hlk hr hS d_MO_law_112
  · replace hT := (if_neg c27).symm.trans hT
    refine lv_aload_n F.hx F.hb d_MO_law_100 rfl (lv_at hl 0 rfl) ?_
    refine r_get (v := .ref (b + 221)) (N := 68) (T := T1) (j := 53) F hS (show 191 < 231 by decide) (show shK 191 = 5 from rfl) (show shN 191 = 68 from rfl) rfl (Nat.le_of_ble_eq_true rfl) ing1 mw_1442 (fv_sg rfl rfl rfl) d_MO_law_101 ?_
    refine r_iconst F.hx F.hb d_MO_law_104 ?_
    refine r_lald F hS (show 221 < 231 by decide) (show shK 221 = 2 from rfl) (show shN 221 = 64 from rfl) (inr_c rfl) (by omega) (by omega) d_MO_law_105 ?_
    refine lv_goto (tgt := 112) F.hx F.hb d_MO_law_106 (by decide) ?_
    cases hT
    exact r_lret F hlk hr hS d_MO_law_112
set_option maxHeartbeats 4000000 in
set_option maxRecDepth 100000 in
theorem c_MO_law (l : Launch) {b n : Nat} {C : CT} (hlo : 231 ≤ n) (M : Mem) (x1 : Int) (x2 : Int) (x3 : Int) (hx1 : InR x1) (hx2 : InR x2) (hx3 : InR x3) (res : Mem × Int64) (hT : t_MO_law M x1 x2 x3 = some res) : CM l b C n 4 y_MO_law b_MO_law 4 (some .long) [.ref (b + 191), vI x1, vI x2, vI x3] M (QL b C n res.1 res.2) := by
  refine CM.of (lo := 231) (ow := "WardFallsModel") (by decide) rfl (Nat.le_of_ble_eq_true rfl) hlo (fun p e s m below meth c F hlk hr hS ls hl => ?_)
  have hl : lv_has ls 4 [(0, .ref (b + 191)), (1, vI x1), (2, vI x2), (3, vI x3)] := hl
  unfold t_MO_law at hT
  refine lv_aload_n F.hx F.hb d_MO_law_0 rfl (lv_at hl 0 rfl) ?_
  refine r_iconst F.hx F.hb d_MO_law_1 ?_
  refine r_putI (N := 68) (T := T1) (j := 0) F hS (show 191 < 231 by decide) (show shK 191 = 5 from rfl) (show shN 191 = 68 from rfl) rfl (Nat.le_of_ble_eq_true rfl) ing1 tyok1 nm1 rfl rfl rfl rfl rfl rfl mw_1389 (inr_c rfl) d_MO_law_2 (fun H locs hS => ?_)
  obtain ⟨M1, eM1⟩ : ∃ q, q = (setI M 191 0 0) := ⟨_, rfl⟩
  replace hS : St b C n M1 s H locs := by rw [eM1]; exact hS
  replace hT := qlet_eq hT eM1
  refine lv_iload_n F.hx F.hb d_MO_law_5 rfl (lv_at hl 1 rfl) ?_
  refine r_if_lt (tgt := 22) F.hx F.hb hx1 d_MO_law_6 (by decide) (fun c2 => ?_) (fun c2 => ?_)
  · replace hT := (if_pos c2).symm.trans hT
    refine lv_ldc2 (v := (-9223372036854775808)) F.hx F.hb F.hown (F.hts mw_1855) d_MO_law_22 ?_
    cases hT
    exact r_lret F hlk hr hS d_MO_law_25
  · replace hT := (if_neg c2).symm.trans hT
    refine lv_iload_n F.hx F.hb d_MO_law_9 rfl (lv_at hl 1 rfl) ?_
    refine r_iconst F.hx F.hb d_MO_law_10 ?_
    refine r_icmp_gt (tgt := 22) F.hx F.hb hx1 (inr_c rfl) d_MO_law_11 (by decide) (fun c3 => ?_) (fun c3 => ?_)
    · replace hT := (if_pos c3).symm.trans hT
      refine lv_ldc2 (v := (-9223372036854775808)) F.hx F.hb F.hown (F.hts mw_1855) d_MO_law_22 ?_
      cases hT
      exact r_lret F hlk hr hS d_MO_law_25
    · replace hT := (if_neg c3).symm.trans hT
      refine lv_aload_n F.hx F.hb d_MO_law_14 rfl (lv_at hl 0 rfl) ?_
      refine lv_iload_n F.hx F.hb d_MO_law_15 rfl (lv_at hl 1 rfl) ?_
      obtain ⟨q4, hq4, hT⟩ := q_obind hT
      refine r_backZ F hS (r_runV (k := 191) (N := 68) (T := T1) (As := [vI x1]) F hS (show 191 < 231 by decide) (show shK 191 = 5 from rfl) rfl (c_MO_hasLaw l F.2.2.1 M1 x1 hx1 _ hq4) gs_MO_401 hd_MO_hasLaw ⟨Nat.le_of_ble_eq_true rfl, Nat.le_of_ble_eq_true rfl⟩ rfl hl.1 (Nat.le_of_ble_eq_true rfl) ⟨Nat.zero_le _, Nat.zero_le _⟩ rfl d_MO_law_16) (fun H locs hS h5 => ?_)
      refine r_if_ne (tgt := 26) F.hx F.hb (inr_z h5) d_MO_law_19 (by decide) (fun c6 => ?_) (fun c6 => ?_)
      · replace hT := (if_neg c6).symm.trans hT
        refine lv_iload_n F.hx F.hb d_MO_law_26 rfl (lv_at hl 1 rfl) ?_
        refine r_iconst F.hx F.hb d_MO_law_27 ?_
        refine r_icmp_ne (tgt := 52) F.hx F.hb hx1 (inr_c rfl) d_MO_law_28 (by decide) (fun c7 => ?_) (fun c7 => ?_)
        · replace hT := (if_neg c7).symm.trans hT
          refine lv_aload_n F.hx F.hb d_MO_law_52 rfl (lv_at hl 0 rfl) ?_
          refine lv_iload_n F.hx F.hb d_MO_law_53 rfl (lv_at hl 2 rfl) ?_
          obtain ⟨q8, hq8, hT⟩ := q_obind hT
          refine r_backZ F hS (r_runV (k := 191) (N := 68) (T := T1) (As := [vI x2]) F hS (show 191 < 231 by decide) (show shK 191 = 5 from rfl) rfl (c_MO_isOpen l F.2.2.1 M1 x2 hx2 _ hq8) gs_MO_428 hd_MO_isOpen ⟨Nat.le_of_ble_eq_true rfl, Nat.le_of_ble_eq_true rfl⟩ rfl hl.1 (Nat.le_of_ble_eq_true rfl) ⟨Nat.zero_le _, Nat.zero_le _⟩ rfl d_MO_law_54) (fun H locs hS h9 => ?_)
          refine r_if_eq (tgt := 82) F.hx F.hb (inr_z h9) d_MO_law_57 (by decide) (fun c10 => ?_) (fun c10 => ?_)
          · replace hT := (if_pos c10).symm.trans hT
            refine lv_ldc2 (v := (-9223372036854775808)) F.hx F.hb F.hown (F.hts mw_1855) d_MO_law_82 ?_
            cases hT
            exact r_lret F hlk hr hS d_MO_law_85
          · replace hT := (if_neg c10).symm.trans hT
            refine lv_iload_n F.hx F.hb d_MO_law_60 rfl (lv_at hl 3 rfl) ?_
            refine r_if_lt (tgt := 82) F.hx F.hb hx3 d_MO_law_61 (by decide) (fun c11 => ?_) (fun c11 => ?_)
            · replace hT := (if_pos c11).symm.trans hT
              refine lv_ldc2 (v := (-9223372036854775808)) F.hx F.hb F.hown (F.hts mw_1855) d_MO_law_82 ?_
              cases hT
              exact r_lret F hlk hr hS d_MO_law_85
            · replace hT := (if_neg c11).symm.trans hT
              refine lv_iload_n F.hx F.hb d_MO_law_64 rfl (lv_at hl 3 rfl) ?_
              refine r_iconst F.hx F.hb d_MO_law_65 ?_
              refine r_icmp_gt (tgt := 82) F.hx F.hb hx3 (inr_c rfl) d_MO_law_66 (by decide) (fun c12 => ?_) (fun c12 => ?_)
              · replace hT := (if_pos c12).symm.trans hT
                refine lv_ldc2 (v := (-9223372036854775808)) F.hx F.hb F.hown (F.hts mw_1855) d_MO_law_82 ?_
                cases hT
                exact r_lret F hlk hr hS d_MO_law_85
              · replace hT := (if_neg c12).symm.trans hT
                refine lv_aload_n F.hx F.hb d_MO_law_69 rfl (lv_at hl 0 rfl) ?_
                refine lv_aload_n F.hx F.hb d_MO_law_70 rfl (lv_at hl 0 rfl) ?_
                refine lv_iload_n F.hx F.hb d_MO_law_71 rfl (lv_at hl 2 rfl) ?_
                refine lv_iload_n F.hx F.hb d_MO_law_72 rfl (lv_at hl 3 rfl) ?_
                obtain ⟨q13, hq13, hT⟩ := q_obind hT
                refine r_backI F hS (r_runV (k := 191) (N := 68) (T := T1) (As := [vI x2, vI x3]) F hS (show 191 < 231 by decide) (show shK 191 = 5 from rfl) rfl (c_MO_beside l F.2.2.1 M1 x2 x3 hx2 hx3 _ hq13) gs_MO_338 hd_MO_beside ⟨Nat.le_of_ble_eq_true rfl, Nat.le_of_ble_eq_true rfl⟩ rfl hl.1 (Nat.le_of_ble_eq_true rfl) ⟨Nat.zero_le _, Nat.zero_le _⟩ rfl d_MO_law_73) (fun H locs hS h14 => ?_)
                obtain ⟨q15, hq15, hT⟩ := q_obind hT
                refine r_backZ F hS (r_runV (k := 191) (N := 68) (T := T1) (As := [vI q13]) F hS (show 191 < 231 by decide) (show shK 191 = 5 from rfl) rfl (c_MO_isOpen l F.2.2.1 M1 q13 h14 _ hq15) gs_MO_428 hd_MO_isOpen ⟨Nat.le_of_ble_eq_true rfl, Nat.le_of_ble_eq_true rfl⟩ rfl hl.1 (Nat.le_of_ble_eq_true rfl) ⟨Nat.zero_le _, Nat.zero_le _⟩ rfl d_MO_law_76) (fun H locs hS h16 => ?_)
                refine r_if_ne (tgt := 86) F.hx F.hb (inr_z h16) d_MO_law_79 (by decide) (fun c17 => ?_) (fun c17 => ?_)
                · replace hT := (if_neg c17).symm.trans hT
                  refine lv_aload_n F.hx F.hb d_MO_law_86 rfl (lv_at hl 0 rfl) ?_
                  refine lv_iload_n F.hx F.hb d_MO_law_87 rfl (lv_at hl 2 rfl) ?_
                  refine lv_iload_n F.hx F.hb d_MO_law_88 rfl (lv_at hl 3 rfl) ?_
                  obtain ⟨q18, hq18, hT⟩ := q_obind hT
                  refine r_backV F hS (r_runV (k := 191) (N := 68) (T := T1) (As := [vI x2, vI x3]) F hS (show 191 < 231 by decide) (show shK 191 = 5 from rfl) rfl (c_MO_callsPush l F.2.2.1 M1 x2 x3 hx2 hx3 _ hq18) gs_MO_431 hd_MO_callsPush ⟨Nat.le_of_ble_eq_true rfl, Nat.le_of_ble_eq_true rfl⟩ rfl hl.1 (Nat.le_of_ble_eq_true rfl) ⟨Nat.zero_le _, Nat.zero_le _⟩ rfl d_MO_law_89) (fun H locs hS => ?_)
                  exact k_MO_law_L92 l hlo x1 x2 x3 hx1 hx2 hx3 F hlk hr q18 _ _ _ hS (lv_sub hl [0, 1] rfl) hT
                · replace hT := (if_pos c17).symm.trans hT
                  refine lv_ldc2 (v := (-9223372036854775808)) F.hx F.hb F.hown (F.hts mw_1855) d_MO_law_82 ?_
                  cases hT
                  exact r_lret F hlk hr hS d_MO_law_85
        · replace hT := (if_pos c7).symm.trans hT
          refine lv_aload_n F.hx F.hb d_MO_law_31 rfl (lv_at hl 0 rfl) ?_
          refine lv_iload_n F.hx F.hb d_MO_law_32 rfl (lv_at hl 2 rfl) ?_
          obtain ⟨q20, hq20⟩ : ∃ q, q = (t_MO_isWard M1 x2) := ⟨_, rfl⟩
          replace hT := qlet_eq hT hq20
          refine r_backZ F hS (r_runV (k := 191) (N := 68) (T := T1) (As := [vI x2]) F hS (show 191 < 231 by decide) (show shK 191 = 5 from rfl) rfl (c_MO_isWard l F.2.2.1 M1 x2 hx2 _ hq20.symm) gs_MO_369 hd_MO_isWard ⟨Nat.le_of_ble_eq_true rfl, Nat.le_of_ble_eq_true rfl⟩ rfl hl.1 (Nat.le_of_ble_eq_true rfl) ⟨Nat.zero_le _, Nat.zero_le _⟩ rfl d_MO_law_33) (fun H locs hS h21 => ?_)
          refine r_if_ne (tgt := 43) F.hx F.hb (inr_z h21) d_MO_law_36 (by decide) (fun c22 => ?_) (fun c22 => ?_)
          · replace hT := (if_neg c22).symm.trans hT
            refine lv_aload_n F.hx F.hb d_MO_law_43 rfl (lv_at hl 0 rfl) ?_
            refine r_iconst F.hx F.hb d_MO_law_44 ?_
            refine lv_iload_n F.hx F.hb d_MO_law_45 rfl (lv_at hl 2 rfl) ?_
            obtain ⟨q23, hq23, hT⟩ := q_obind hT
            refine r_backV F hS (r_runV (k := 191) (N := 68) (T := T1) (As := [vI 0, vI x2]) F hS (show 191 < 231 by decide) (show shK 191 = 5 from rfl) rfl (c_MO_callsJoy l F.2.2.1 M1 0 x2 (inr_c rfl) hx2 _ hq23) gs_MO_417 hd_MO_callsJoy ⟨Nat.le_of_ble_eq_true rfl, Nat.le_of_ble_eq_true rfl⟩ rfl hl.1 (Nat.le_of_ble_eq_true rfl) ⟨Nat.zero_le _, Nat.zero_le _⟩ rfl d_MO_law_46) (fun H locs hS => ?_)
            refine lv_goto (tgt := 92) F.hx F.hb d_MO_law_49 (by decide) ?_
            exact k_MO_law_L92 l hlo x1 x2 x3 hx1 hx2 hx3 F hlk hr q23 _ _ _ hS (lv_sub hl [0, 1] rfl) hT
          · replace hT := (if_pos c22).symm.trans hT
            refine lv_ldc2 (v := (-9223372036854775808)) F.hx F.hb F.hown (F.hts mw_1855) d_MO_law_39 ?_
            cases hT
            exact r_lret F hlk hr hS d_MO_law_42
      · replace hT := (if_pos c6).symm.trans hT
        refine lv_ldc2 (v := (-9223372036854775808)) F.hx F.hb F.hown (F.hts mw_1855) d_MO_law_22 ?_
        cases hT
        exact r_lret F hlk hr hS d_MO_law_25
theorem d_MO_rest_0 : decode b_MO_rest 0 = .ok (.aload_n 0, 1) := dc_42 (by decide +kernel)
theorem d_MO_rest_1 : decode b_MO_rest 1 = .ok (.iconst 0, 1) := dc_3 (by decide +kernel)
theorem d_MO_rest_2 : decode b_MO_rest 2 = .ok (.putfield 145, 3) := dc_181 (by decide +kernel)
theorem d_MO_rest_5 : decode b_MO_rest 5 = .ok (.aload_n 0, 1) := dc_42 (by decide +kernel)
theorem d_MO_rest_6 : decode b_MO_rest 6 = .ok (.iload_n 1, 1) := dc_27 (by decide +kernel)
theorem d_MO_rest_7 : decode b_MO_rest 7 = .ok (.invokevirtual 428, 3) := dc_182 (by decide +kernel)
theorem d_MO_rest_10 : decode b_MO_rest 10 = .ok (.ifCond .ne 5, 3) := dc_154 (by decide +kernel)
theorem d_MO_rest_13 : decode b_MO_rest 13 = .ok (.iconst (-1), 1) := dc_2 (by decide +kernel)
theorem d_MO_rest_14 : decode b_MO_rest 14 = .ok (.ireturn, 1) := dc_172 (by decide +kernel)
theorem d_MO_rest_15 : decode b_MO_rest 15 = .ok (.aload_n 0, 1) := dc_42 (by decide +kernel)
theorem d_MO_rest_16 : decode b_MO_rest 16 = .ok (.iconst 0, 1) := dc_3 (by decide +kernel)
theorem d_MO_rest_17 : decode b_MO_rest 17 = .ok (.iload_n 1, 1) := dc_27 (by decide +kernel)
theorem d_MO_rest_18 : decode b_MO_rest 18 = .ok (.invokevirtual 414, 3) := dc_182 (by decide +kernel)
theorem d_MO_rest_21 : decode b_MO_rest 21 = .ok (.aload_n 0, 1) := dc_42 (by decide +kernel)
theorem d_MO_rest_22 : decode b_MO_rest 22 = .ok (.getfield 347, 3) := dc_180 (by decide +kernel)
theorem d_MO_rest_25 : decode b_MO_rest 25 = .ok (.ifCond .le 8, 3) := dc_158 (by decide +kernel)
theorem d_MO_rest_28 : decode b_MO_rest 28 = .ok (.bipush (-2), 2) := dc_16 (by decide +kernel)
theorem d_MO_rest_30 : decode b_MO_rest 30 = .ok (.goto 7, 3) := dc_167 (by decide +kernel)
theorem d_MO_rest_33 : decode b_MO_rest 33 = .ok (.aload_n 0, 1) := dc_42 (by decide +kernel)
theorem d_MO_rest_34 : decode b_MO_rest 34 = .ok (.getfield 356, 3) := dc_180 (by decide +kernel)
theorem d_MO_rest_37 : decode b_MO_rest 37 = .ok (.ireturn, 1) := dc_172 (by decide +kernel)
def t_MO_rest (M : Mem) (x1 : Int) : Option (Mem × Int) := (qlet (setI M 191 0 0) fun M1 => (obind (t_MO_isOpen M1 x1) fun q2 => (if q2 = 0 then (some (M1, (-1))) else (obind (t_MO_goesFrom M1 0 x1) fun q5 => (if (q5.1 191 48) ≤ 0 then (some (q5, (q5.1 191 47))) else (some (q5, (-2))))))))
set_option maxHeartbeats 4000000 in
set_option maxRecDepth 100000 in
theorem c_MO_rest (l : Launch) {b n : Nat} {C : CT} (hlo : 231 ≤ n) (M : Mem) (x1 : Int) (hx1 : InR x1) (res : Mem × Int) (hT : t_MO_rest M x1 = some res) : CM l b C n 3 y_MO_rest b_MO_rest 2 (some .int) [.ref (b + 191), vI x1] M (QI b C n res.1 res.2) := by
  refine CM.of (lo := 231) (ow := "WardFallsModel") (by decide) rfl (Nat.le_of_ble_eq_true rfl) hlo (fun p e s m below meth c F hlk hr hS ls hl => ?_)
  have hl : lv_has ls 2 [(0, .ref (b + 191)), (1, vI x1)] := hl
  unfold t_MO_rest at hT
  refine lv_aload_n F.hx F.hb d_MO_rest_0 rfl (lv_at hl 0 rfl) ?_
  refine r_iconst F.hx F.hb d_MO_rest_1 ?_
  refine r_putI (N := 68) (T := T1) (j := 0) F hS (show 191 < 231 by decide) (show shK 191 = 5 from rfl) (show shN 191 = 68 from rfl) rfl (Nat.le_of_ble_eq_true rfl) ing1 tyok1 nm1 rfl rfl rfl rfl rfl rfl mw_1389 (inr_c rfl) d_MO_rest_2 (fun H locs hS => ?_)
  obtain ⟨M1, eM1⟩ : ∃ q, q = (setI M 191 0 0) := ⟨_, rfl⟩
  replace hS : St b C n M1 s H locs := by rw [eM1]; exact hS
  replace hT := qlet_eq hT eM1
  refine lv_aload_n F.hx F.hb d_MO_rest_5 rfl (lv_at hl 0 rfl) ?_
  refine lv_iload_n F.hx F.hb d_MO_rest_6 rfl (lv_at hl 1 rfl) ?_
  obtain ⟨q2, hq2, hT⟩ := q_obind hT
  refine r_backZ F hS (r_runV (k := 191) (N := 68) (T := T1) (As := [vI x1]) F hS (show 191 < 231 by decide) (show shK 191 = 5 from rfl) rfl (c_MO_isOpen l F.2.2.1 M1 x1 hx1 _ hq2) gs_MO_428 hd_MO_isOpen ⟨Nat.le_of_ble_eq_true rfl, Nat.le_of_ble_eq_true rfl⟩ rfl hl.1 (Nat.le_of_ble_eq_true rfl) ⟨Nat.zero_le _, Nat.zero_le _⟩ rfl d_MO_rest_7) (fun H locs hS h3 => ?_)
  refine r_if_ne (tgt := 15) F.hx F.hb (inr_z h3) d_MO_rest_10 (by decide) (fun c4 => ?_) (fun c4 => ?_)
  · replace hT := (if_neg c4).symm.trans hT
    refine lv_aload_n F.hx F.hb d_MO_rest_15 rfl (lv_at hl 0 rfl) ?_
    refine r_iconst F.hx F.hb d_MO_rest_16 ?_
    refine lv_iload_n F.hx F.hb d_MO_rest_17 rfl (lv_at hl 1 rfl) ?_
    obtain ⟨q5, hq5, hT⟩ := q_obind hT
    refine r_backV F hS (r_runV (k := 191) (N := 68) (T := T1) (As := [vI 0, vI x1]) F hS (show 191 < 231 by decide) (show shK 191 = 5 from rfl) rfl (c_MO_goesFrom l F.2.2.1 M1 0 x1 (inr_c rfl) hx1 _ hq5) gs_MO_414 hd_MO_goesFrom ⟨Nat.le_of_ble_eq_true rfl, Nat.le_of_ble_eq_true rfl⟩ rfl hl.1 (Nat.le_of_ble_eq_true rfl) ⟨Nat.zero_le _, Nat.zero_le _⟩ rfl d_MO_rest_18) (fun H locs hS => ?_)
    refine lv_aload_n F.hx F.hb d_MO_rest_21 rfl (lv_at hl 0 rfl) ?_
    refine r_get (v := vI (q5.1 191 48)) (N := 68) (T := T1) (j := 48) F hS (show 191 < 231 by decide) (show shK 191 = 5 from rfl) (show shN 191 = 68 from rfl) rfl (Nat.le_of_ble_eq_true rfl) ing1 mw_1437 (fv_int rfl) d_MO_rest_22 ?_
    have i7 := hS.rng 191 48
    refine r_if_le (tgt := 33) F.hx F.hb i7 d_MO_rest_25 (by decide) (fun c8 => ?_) (fun c8 => ?_)
    · replace hT := (if_pos c8).symm.trans hT
      refine lv_aload_n F.hx F.hb d_MO_rest_33 rfl (lv_at hl 0 rfl) ?_
      refine r_get (v := vI (q5.1 191 47)) (N := 68) (T := T1) (j := 47) F hS (show 191 < 231 by decide) (show shK 191 = 5 from rfl) (show shN 191 = 68 from rfl) rfl (Nat.le_of_ble_eq_true rfl) ing1 mw_1436 (fv_int rfl) d_MO_rest_34 ?_
      have i9 := hS.rng 191 47
      cases hT
      exact r_iret F hlk hr rfl hS i9 d_MO_rest_37
    · replace hT := (if_neg c8).symm.trans hT
      refine r_bipush F.hx F.hb d_MO_rest_28 rfl ?_
      refine lv_goto (tgt := 37) F.hx F.hb d_MO_rest_30 (by decide) ?_
      cases hT
      exact r_iret F hlk hr rfl hS (inr_c rfl) d_MO_rest_37
  · replace hT := (if_pos c4).symm.trans hT
    refine r_iconst F.hx F.hb d_MO_rest_13 ?_
    cases hT
    exact r_iret F hlk hr rfl hS (inr_c rfl) d_MO_rest_14
theorem d_MO_way_0 : decode b_MO_way 0 = .ok (.aload_n 0, 1) := dc_42 (by decide +kernel)
theorem d_MO_way_1 : decode b_MO_way 1 = .ok (.iconst 0, 1) := dc_3 (by decide +kernel)
theorem d_MO_way_2 : decode b_MO_way 2 = .ok (.putfield 145, 3) := dc_181 (by decide +kernel)
theorem d_MO_way_5 : decode b_MO_way 5 = .ok (.aload_n 0, 1) := dc_42 (by decide +kernel)
theorem d_MO_way_6 : decode b_MO_way 6 = .ok (.iload_n 1, 1) := dc_27 (by decide +kernel)
theorem d_MO_way_7 : decode b_MO_way 7 = .ok (.invokevirtual 428, 3) := dc_182 (by decide +kernel)
theorem d_MO_way_10 : decode b_MO_way 10 = .ok (.ifCond .eq 7, 3) := dc_153 (by decide +kernel)
theorem d_MO_way_13 : decode b_MO_way 13 = .ok (.iload_n 2, 1) := dc_28 (by decide +kernel)
theorem d_MO_way_14 : decode b_MO_way 14 = .ok (.ifCond .ge 5, 3) := dc_156 (by decide +kernel)
theorem d_MO_way_17 : decode b_MO_way 17 = .ok (.iconst (-1), 1) := dc_2 (by decide +kernel)
theorem d_MO_way_18 : decode b_MO_way 18 = .ok (.ireturn, 1) := dc_172 (by decide +kernel)
theorem d_MO_way_19 : decode b_MO_way 19 = .ok (.aload_n 0, 1) := dc_42 (by decide +kernel)
theorem d_MO_way_20 : decode b_MO_way 20 = .ok (.iconst 0, 1) := dc_3 (by decide +kernel)
theorem d_MO_way_21 : decode b_MO_way 21 = .ok (.iload_n 1, 1) := dc_27 (by decide +kernel)
theorem d_MO_way_22 : decode b_MO_way 22 = .ok (.invokevirtual 414, 3) := dc_182 (by decide +kernel)
theorem d_MO_way_25 : decode b_MO_way 25 = .ok (.iload_n 2, 1) := dc_28 (by decide +kernel)
theorem d_MO_way_26 : decode b_MO_way 26 = .ok (.istore_n 3, 1) := dc_62 (by decide +kernel)
theorem d_MO_way_27 : decode b_MO_way 27 = .ok (.iload_n 3, 1) := dc_29 (by decide +kernel)
theorem d_MO_way_28 : decode b_MO_way 28 = .ok (.aload_n 0, 1) := dc_42 (by decide +kernel)
theorem d_MO_way_29 : decode b_MO_way 29 = .ok (.getfield 353, 3) := dc_180 (by decide +kernel)
theorem d_MO_way_32 : decode b_MO_way 32 = .ok (.if_icmp .le 30, 3) := dc_164 (by decide +kernel)
theorem d_MO_way_35 : decode b_MO_way 35 = .ok (.aload_n 0, 1) := dc_42 (by decide +kernel)
theorem d_MO_way_36 : decode b_MO_way 36 = .ok (.getfield 347, 3) := dc_180 (by decide +kernel)
theorem d_MO_way_39 : decode b_MO_way 39 = .ok (.ifCond .ne 6, 3) := dc_154 (by decide +kernel)
theorem d_MO_way_42 : decode b_MO_way 42 = .ok (.bipush (-2), 2) := dc_16 (by decide +kernel)
theorem d_MO_way_44 : decode b_MO_way 44 = .ok (.ireturn, 1) := dc_172 (by decide +kernel)
theorem d_MO_way_45 : decode b_MO_way 45 = .ok (.aload_n 0, 1) := dc_42 (by decide +kernel)
theorem d_MO_way_46 : decode b_MO_way 46 = .ok (.getfield 353, 3) := dc_180 (by decide +kernel)
theorem d_MO_way_49 : decode b_MO_way 49 = .ok (.iload_n 3, 1) := dc_29 (by decide +kernel)
theorem d_MO_way_50 : decode b_MO_way 50 = .ok (.aload_n 0, 1) := dc_42 (by decide +kernel)
theorem d_MO_way_51 : decode b_MO_way 51 = .ok (.getfield 353, 3) := dc_180 (by decide +kernel)
theorem d_MO_way_54 : decode b_MO_way 54 = .ok (.isub, 1) := dc_100 (by decide +kernel)
theorem d_MO_way_55 : decode b_MO_way 55 = .ok (.aload_n 0, 1) := dc_42 (by decide +kernel)
theorem d_MO_way_56 : decode b_MO_way 56 = .ok (.getfield 347, 3) := dc_180 (by decide +kernel)
theorem d_MO_way_59 : decode b_MO_way 59 = .ok (.irem, 1) := dc_112 (by decide +kernel)
theorem d_MO_way_60 : decode b_MO_way 60 = .ok (.iadd, 1) := dc_96 (by decide +kernel)
theorem d_MO_way_61 : decode b_MO_way 61 = .ok (.istore_n 3, 1) := dc_62 (by decide +kernel)
theorem d_MO_way_62 : decode b_MO_way 62 = .ok (.iload_n 1, 1) := dc_27 (by decide +kernel)
theorem d_MO_way_63 : decode b_MO_way 63 = .ok (.istore 4, 2) := dc_54 (by decide +kernel)
theorem d_MO_way_65 : decode b_MO_way 65 = .ok (.iconst 0, 1) := dc_3 (by decide +kernel)
theorem d_MO_way_66 : decode b_MO_way 66 = .ok (.istore 5, 2) := dc_54 (by decide +kernel)
theorem d_MO_way_68 : decode b_MO_way 68 = .ok (.iload 5, 2) := dc_21 (by decide +kernel)
theorem d_MO_way_70 : decode b_MO_way 70 = .ok (.iload_n 3, 1) := dc_29 (by decide +kernel)
theorem d_MO_way_71 : decode b_MO_way 71 = .ok (.if_icmp .ge 18, 3) := dc_162 (by decide +kernel)
theorem d_MO_way_74 : decode b_MO_way 74 = .ok (.aload_n 0, 1) := dc_42 (by decide +kernel)
theorem d_MO_way_75 : decode b_MO_way 75 = .ok (.iconst 0, 1) := dc_3 (by decide +kernel)
theorem d_MO_way_76 : decode b_MO_way 76 = .ok (.iload 4, 2) := dc_21 (by decide +kernel)
theorem d_MO_way_78 : decode b_MO_way 78 = .ok (.invokevirtual 350, 3) := dc_182 (by decide +kernel)
theorem d_MO_way_81 : decode b_MO_way 81 = .ok (.istore 4, 2) := dc_54 (by decide +kernel)
theorem d_MO_way_83 : decode b_MO_way 83 = .ok (.iinc 5 1, 3) := dc_132 (by decide +kernel)
theorem d_MO_way_86 : decode b_MO_way 86 = .ok (.goto (-18), 3) := dc_167 (by decide +kernel)
theorem d_MO_way_89 : decode b_MO_way 89 = .ok (.iload 4, 2) := dc_21 (by decide +kernel)
theorem d_MO_way_91 : decode b_MO_way 91 = .ok (.ireturn, 1) := dc_172 (by decide +kernel)
def t_MO_way_L68 (x1 : Int) (x2 : Int)  : Nat → Mem → Int → Int → Int → Option (Mem × Int)
  | 0, _, _, _, _ => none
  | fu + 1, M, v1_, v2_, v3_ => (if v1_ ≤ v3_ then (some (M, v2_)) else (obind (t_MO_nextOf M 0 v2_) fun q17 => (t_MO_way_L68 x1 x2 fu M v1_ q17 (w32 (v3_ + 1)))))
def t_MO_way_L62 (x1 : Int) (x2 : Int)  (M : Mem) (v2_ : Int) : Option (Mem × Int) := (t_MO_way_L68 x1 x2 FU M v2_ x1 0)
def t_MO_way (M : Mem) (x1 : Int) (x2 : Int) : Option (Mem × Int) := (qlet (setI M 191 0 0) fun M1 => (obind (t_MO_isOpen M1 x1) fun q2 => (if q2 = 0 then (some (M1, (-1))) else (if 0 ≤ x2 then (obind (t_MO_goesFrom M1 0 x1) fun q6 => (if x2 ≤ (q6.1 191 46) then (t_MO_way_L62 x1 x2 q6 x2) else (if (q6.1 191 48) = 0 then (some (q6, (-2))) else (if (q6.1 191 48) = 0 then none else (t_MO_way_L62 x1 x2 q6 (w32 ((q6.1 191 46) + (q_rem (w32 (x2 - (q6.1 191 46))) (q6.1 191 48))))))))) else (some (M1, (-1)))))))
set_option maxHeartbeats 4000000 in
set_option maxRecDepth 100000 in
theorem k_MO_way_L68 (l : Launch) {p : Program} {e : Env} {s : State} {m : MethodId} {below : List Frame} {meth : Method} {c : Code} {b n : Nat} {C : CT} (hlo : 231 ≤ n) (x1 : Int) (x2 : Int) (hx1 : InR x1) (hx2 : InR x2) (F : Cx b p m c b_MO_way 6 s ([.ref (b + 191), vI x1, vI x2] : List Value).toArray "WardFallsModel" C n 231) (hlk : meth.locks = false) (hr : meth.sig.returnType = some .int) {res : Mem × Int} : ∀ (fu : Nat) (M : Mem) (v1_ : Int) (hv1_ : InR v1_) (v2_ : Int) (hv2_ : InR v2_) (v3_ : Int) (hv3_ : InR v3_) (H : Heap) (locs : List Loc) (ls : Array Slot), St b C n M s H locs → lv_has ls 6 [(0, .ref (b + 191)), (3, vI v1_), (4, vI v2_), (5, vI v3_)] → t_MO_way_L68 x1 x2 fu M v1_ v2_ v3_ = some res → W p l e (headSpec (wsM y_MO_way b_MO_way 6 (some .int)) (rmD 3)).room s m ([.ref (b + 191), vI x1, vI x2] : List Value).toArray below meth c H locs 0 0 (MQ below (QI b C n res.1 res.2) ([.ref (b + 191), vI x1, vI x2] : List Value).toArray s 0 0 (frb b)) (F0 m 68 ls []) := by
  intro fu
  induction fu with
  | zero => intro M v1_ hv1_ v2_ hv2_ v3_ hv3_ H locs ls hS hl hT; exact absurd hT (by simp [t_MO_way_L68])
  | succ fu ih =>
    intro M v1_ hv1_ v2_ hv2_ v3_ hv3_ H locs ls hS hl hT
    rw [t_MO_way_L68] at hT
    refine lv_iload F.hx F.hb d_MO_way_68 (lv_at hl 3 rfl) ?_
    refine lv_iload_n F.hx F.hb d_MO_way_70 rfl (lv_at hl 1 rfl) ?_
    refine r_icmp_ge (tgt := 89) F.hx F.hb hv3_ hv1_ d_MO_way_71 (by decide) (fun c16 => ?_) (fun c16 => ?_)
    · replace hT := (if_pos c16).symm.trans hT
      refine lv_iload F.hx F.hb d_MO_way_89 (lv_at hl 2 rfl) ?_
      cases hT
      exact r_iret F hlk hr rfl hS hv2_ d_MO_way_91
    · replace hT := (if_neg c16).symm.trans hT
      refine lv_aload_n F.hx F.hb d_MO_way_74 rfl (lv_at hl 0 rfl) ?_
      refine r_iconst F.hx F.hb d_MO_way_75 ?_
      refine lv_iload F.hx F.hb d_MO_way_76 (lv_at hl 2 rfl) ?_
      obtain ⟨q17, hq17, hT⟩ := q_obind hT
      refine r_backI F hS (r_runV (k := 191) (N := 68) (T := T1) (As := [vI 0, vI v2_]) F hS (show 191 < 231 by decide) (show shK 191 = 5 from rfl) rfl (c_MO_nextOf l F.2.2.1 M 0 v2_ (inr_c rfl) hv2_ _ hq17) gs_MO_350 hd_MO_nextOf ⟨Nat.le_of_ble_eq_true rfl, Nat.le_of_ble_eq_true rfl⟩ rfl hl.1 (Nat.le_of_ble_eq_true rfl) ⟨Nat.zero_le _, Nat.zero_le _⟩ rfl d_MO_way_78) (fun H locs hS h18 => ?_)
      refine lv_istore (lv' := [(4, vI q17), (0, .ref (b + 191)), (3, vI v1_), (5, vI v3_)]) F.hx F.hb d_MO_way_81 hl (Nat.le_of_ble_eq_true rfl) rfl (fun ls hl => ?_)
      refine lv_iinc (v := Int32.ofInt (w32 (v3_ + 1))) (lv' := [(5, vI (w32 (v3_ + 1))), (4, vI q17), (0, .ref (b + 191)), (3, vI v1_)]) F.hx F.hb d_MO_way_83 hl (k := 3) rfl (q_of_add _ _) (Nat.le_of_ble_eq_true rfl) rfl (fun ls hl => ?_)
      refine lv_goto (tgt := 68) F.hx F.hb d_MO_way_86 (by decide) ?_
      exact ih M v1_ hv1_ q17 h18 (w32 (v3_ + 1)) (inr_w32 _) _ _ _ hS (lv_sub hl [2, 3, 1, 0] rfl) hT
set_option maxHeartbeats 4000000 in
set_option maxRecDepth 100000 in
theorem k_MO_way_L62 (l : Launch) {p : Program} {e : Env} {s : State} {m : MethodId} {below : List Frame} {meth : Method} {c : Code} {b n : Nat} {C : CT} (hlo : 231 ≤ n) (x1 : Int) (x2 : Int) (hx1 : InR x1) (hx2 : InR x2) (F : Cx b p m c b_MO_way 6 s ([.ref (b + 191), vI x1, vI x2] : List Value).toArray "WardFallsModel" C n 231) (hlk : meth.locks = false) (hr : meth.sig.returnType = some .int) {res : Mem × Int} (M : Mem) (v2_ : Int) (hv2_ : InR v2_) (H : Heap) (locs : List Loc) (ls : Array Slot) (hS : St b C n M s H locs) (hl : lv_has ls 6 [(0, .ref (b + 191)), (1, vI x1), (3, vI v2_)]) (hT : t_MO_way_L62 x1 x2 M v2_ = some res) : W p l e (headSpec (wsM y_MO_way b_MO_way 6 (some .int)) (rmD 3)).room s m ([.ref (b + 191), vI x1, vI x2] : List Value).toArray below meth c H locs 0 0 (MQ below (QI b C n res.1 res.2) ([.ref (b + 191), vI x1, vI x2] : List Value).toArray s 0 0 (frb b)) (F0 m 62 ls []) := by
  unfold t_MO_way_L62 at hT
  refine lv_iload_n F.hx F.hb d_MO_way_62 rfl (lv_at hl 1 rfl) ?_
  refine lv_istore (lv' := [(4, vI x1), (0, .ref (b + 191)), (1, vI x1), (3, vI v2_)]) F.hx F.hb d_MO_way_63 hl (Nat.le_of_ble_eq_true rfl) rfl (fun ls hl => ?_)
  refine r_iconst F.hx F.hb d_MO_way_65 ?_
  refine lv_istore (lv' := [(5, vI 0), (4, vI x1), (0, .ref (b + 191)), (1, vI x1), (3, vI v2_)]) F.hx F.hb d_MO_way_66 hl (Nat.le_of_ble_eq_true rfl) rfl (fun ls hl => ?_)
  exact k_MO_way_L68 l hlo x1 x2 hx1 hx2 F hlk hr FU M v2_ hv2_ x1 hx1 0 (inr_c rfl) _ _ _ hS (lv_sub hl [2, 4, 1, 0] rfl) hT
set_option maxHeartbeats 4000000 in
set_option maxRecDepth 100000 in
theorem c_MO_way (l : Launch) {b n : Nat} {C : CT} (hlo : 231 ≤ n) (M : Mem) (x1 : Int) (x2 : Int) (hx1 : InR x1) (hx2 : InR x2) (res : Mem × Int) (hT : t_MO_way M x1 x2 = some res) : CM l b C n 3 y_MO_way b_MO_way 6 (some .int) [.ref (b + 191), vI x1, vI x2] M (QI b C n res.1 res.2) := by
  refine CM.of (lo := 231) (ow := "WardFallsModel") (by decide) rfl (Nat.le_of_ble_eq_true rfl) hlo (fun p e s m below meth c F hlk hr hS ls hl => ?_)
  have hl : lv_has ls 6 [(0, .ref (b + 191)), (1, vI x1), (2, vI x2)] := hl
  unfold t_MO_way at hT
  refine lv_aload_n F.hx F.hb d_MO_way_0 rfl (lv_at hl 0 rfl) ?_
  refine r_iconst F.hx F.hb d_MO_way_1 ?_
  refine r_putI (N := 68) (T := T1) (j := 0) F hS (show 191 < 231 by decide) (show shK 191 = 5 from rfl) (show shN 191 = 68 from rfl) rfl (Nat.le_of_ble_eq_true rfl) ing1 tyok1 nm1 rfl rfl rfl rfl rfl rfl mw_1389 (inr_c rfl) d_MO_way_2 (fun H locs hS => ?_)
  obtain ⟨M1, eM1⟩ : ∃ q, q = (setI M 191 0 0) := ⟨_, rfl⟩
  replace hS : St b C n M1 s H locs := by rw [eM1]; exact hS
  replace hT := qlet_eq hT eM1
  refine lv_aload_n F.hx F.hb d_MO_way_5 rfl (lv_at hl 0 rfl) ?_
  refine lv_iload_n F.hx F.hb d_MO_way_6 rfl (lv_at hl 1 rfl) ?_
  obtain ⟨q2, hq2, hT⟩ := q_obind hT
  refine r_backZ F hS (r_runV (k := 191) (N := 68) (T := T1) (As := [vI x1]) F hS (show 191 < 231 by decide) (show shK 191 = 5 from rfl) rfl (c_MO_isOpen l F.2.2.1 M1 x1 hx1 _ hq2) gs_MO_428 hd_MO_isOpen ⟨Nat.le_of_ble_eq_true rfl, Nat.le_of_ble_eq_true rfl⟩ rfl hl.1 (Nat.le_of_ble_eq_true rfl) ⟨Nat.zero_le _, Nat.zero_le _⟩ rfl d_MO_way_7) (fun H locs hS h3 => ?_)
  refine r_if_eq (tgt := 17) F.hx F.hb (inr_z h3) d_MO_way_10 (by decide) (fun c4 => ?_) (fun c4 => ?_)
  · replace hT := (if_pos c4).symm.trans hT
    refine r_iconst F.hx F.hb d_MO_way_17 ?_
    cases hT
    exact r_iret F hlk hr rfl hS (inr_c rfl) d_MO_way_18
  · replace hT := (if_neg c4).symm.trans hT
    refine lv_iload_n F.hx F.hb d_MO_way_13 rfl (lv_at hl 2 rfl) ?_
    refine r_if_ge (tgt := 19) F.hx F.hb hx2 d_MO_way_14 (by decide) (fun c5 => ?_) (fun c5 => ?_)
    · replace hT := (if_pos c5).symm.trans hT
      refine lv_aload_n F.hx F.hb d_MO_way_19 rfl (lv_at hl 0 rfl) ?_
      refine r_iconst F.hx F.hb d_MO_way_20 ?_
      refine lv_iload_n F.hx F.hb d_MO_way_21 rfl (lv_at hl 1 rfl) ?_
      obtain ⟨q6, hq6, hT⟩ := q_obind hT
      refine r_backV F hS (r_runV (k := 191) (N := 68) (T := T1) (As := [vI 0, vI x1]) F hS (show 191 < 231 by decide) (show shK 191 = 5 from rfl) rfl (c_MO_goesFrom l F.2.2.1 M1 0 x1 (inr_c rfl) hx1 _ hq6) gs_MO_414 hd_MO_goesFrom ⟨Nat.le_of_ble_eq_true rfl, Nat.le_of_ble_eq_true rfl⟩ rfl hl.1 (Nat.le_of_ble_eq_true rfl) ⟨Nat.zero_le _, Nat.zero_le _⟩ rfl d_MO_way_22) (fun H locs hS => ?_)
      refine lv_iload_n F.hx F.hb d_MO_way_25 rfl (lv_at hl 2 rfl) ?_
      refine lv_istore_n (lv' := [(3, vI x2), (0, .ref (b + 191)), (1, vI x1), (2, vI x2)]) F.hx F.hb d_MO_way_26 rfl hl (Nat.le_of_ble_eq_true rfl) rfl (fun ls hl => ?_)
      refine lv_iload_n F.hx F.hb d_MO_way_27 rfl (lv_at hl 0 rfl) ?_
      refine lv_aload_n F.hx F.hb d_MO_way_28 rfl (lv_at hl 1 rfl) ?_
      refine r_get (v := vI (q6.1 191 46)) (N := 68) (T := T1) (j := 46) F hS (show 191 < 231 by decide) (show shK 191 = 5 from rfl) (show shN 191 = 68 from rfl) rfl (Nat.le_of_ble_eq_true rfl) ing1 mw_1435 (fv_int rfl) d_MO_way_29 ?_
      have i8 := hS.rng 191 46
      refine r_icmp_le (tgt := 62) F.hx F.hb hx2 i8 d_MO_way_32 (by decide) (fun c9 => ?_) (fun c9 => ?_)
      · replace hT := (if_pos c9).symm.trans hT
        exact k_MO_way_L62 l hlo x1 x2 hx1 hx2 F hlk hr q6 x2 hx2 _ _ _ hS (lv_sub hl [1, 2, 0] rfl) hT
      · replace hT := (if_neg c9).symm.trans hT
        refine lv_aload_n F.hx F.hb d_MO_way_35 rfl (lv_at hl 1 rfl) ?_
        refine r_get (v := vI (q6.1 191 48)) (N := 68) (T := T1) (j := 48) F hS (show 191 < 231 by decide) (show shK 191 = 5 from rfl) (show shN 191 = 68 from rfl) rfl (Nat.le_of_ble_eq_true rfl) ing1 mw_1437 (fv_int rfl) d_MO_way_36 ?_
        have i10 := hS.rng 191 48
        refine r_if_ne (tgt := 45) F.hx F.hb i10 d_MO_way_39 (by decide) (fun c11 => ?_) (fun c11 => ?_)
        · replace hT := (if_neg c11).symm.trans hT
          refine lv_aload_n F.hx F.hb d_MO_way_45 rfl (lv_at hl 1 rfl) ?_
          refine r_get (v := vI (q6.1 191 46)) (N := 68) (T := T1) (j := 46) F hS (show 191 < 231 by decide) (show shK 191 = 5 from rfl) (show shN 191 = 68 from rfl) rfl (Nat.le_of_ble_eq_true rfl) ing1 mw_1435 (fv_int rfl) d_MO_way_46 ?_
          have i12 := hS.rng 191 46
          refine lv_iload_n F.hx F.hb d_MO_way_49 rfl (lv_at hl 0 rfl) ?_
          refine lv_aload_n F.hx F.hb d_MO_way_50 rfl (lv_at hl 1 rfl) ?_
          refine r_get (v := vI (q6.1 191 46)) (N := 68) (T := T1) (j := 46) F hS (show 191 < 231 by decide) (show shK 191 = 5 from rfl) (show shN 191 = 68 from rfl) rfl (Nat.le_of_ble_eq_true rfl) ing1 mw_1435 (fv_int rfl) d_MO_way_51 ?_
          have i13 := hS.rng 191 46
          refine r_isub F.hx F.hb d_MO_way_54 ?_
          refine lv_aload_n F.hx F.hb d_MO_way_55 rfl (lv_at hl 1 rfl) ?_
          refine r_get (v := vI (q6.1 191 48)) (N := 68) (T := T1) (j := 48) F hS (show 191 < 231 by decide) (show shK 191 = 5 from rfl) (show shN 191 = 68 from rfl) rfl (Nat.le_of_ble_eq_true rfl) ing1 mw_1437 (fv_int rfl) d_MO_way_56 ?_
          have i14 := hS.rng 191 48
          obtain ⟨c15, hT⟩ := q_guardn hT
          refine r_irem F.hx F.hb i14 c15 d_MO_way_59 ?_
          refine r_iadd F.hx F.hb d_MO_way_60 ?_
          refine lv_istore_n (lv' := [(3, vI (w32 ((q6.1 191 46) + (q_rem (w32 (x2 - (q6.1 191 46))) (q6.1 191 48))))), (0, .ref (b + 191)), (1, vI x1), (2, vI x2)]) F.hx F.hb d_MO_way_61 rfl hl (Nat.le_of_ble_eq_true rfl) rfl (fun ls hl => ?_)
          exact k_MO_way_L62 l hlo x1 x2 hx1 hx2 F hlk hr q6 (w32 ((q6.1 191 46) + (q_rem (w32 (x2 - (q6.1 191 46))) (q6.1 191 48)))) (inr_w32 _) _ _ _ hS (lv_sub hl [1, 2, 0] rfl) hT
        · replace hT := (if_pos c11).symm.trans hT
          refine r_bipush F.hx F.hb d_MO_way_42 rfl ?_
          cases hT
          exact r_iret F hlk hr rfl hS (inr_c rfl) d_MO_way_44
    · replace hT := (if_neg c5).symm.trans hT
      refine r_iconst F.hx F.hb d_MO_way_17 ?_
      cases hT
      exact r_iret F hlk hr rfl hS (inr_c rfl) d_MO_way_18
theorem d_MO_falls_0 : decode b_MO_falls 0 = .ok (.aload_n 0, 1) := dc_42 (by decide +kernel)
theorem d_MO_falls_1 : decode b_MO_falls 1 = .ok (.iconst 0, 1) := dc_3 (by decide +kernel)
theorem d_MO_falls_2 : decode b_MO_falls 2 = .ok (.putfield 145, 3) := dc_181 (by decide +kernel)
theorem d_MO_falls_5 : decode b_MO_falls 5 = .ok (.aload_n 0, 1) := dc_42 (by decide +kernel)
theorem d_MO_falls_6 : decode b_MO_falls 6 = .ok (.iload_n 1, 1) := dc_27 (by decide +kernel)
theorem d_MO_falls_7 : decode b_MO_falls 7 = .ok (.invokevirtual 428, 3) := dc_182 (by decide +kernel)
theorem d_MO_falls_10 : decode b_MO_falls 10 = .ok (.ifCond .eq 12, 3) := dc_153 (by decide +kernel)
theorem d_MO_falls_13 : decode b_MO_falls 13 = .ok (.iload_n 2, 1) := dc_28 (by decide +kernel)
theorem d_MO_falls_14 : decode b_MO_falls 14 = .ok (.ifCond .lt 8, 3) := dc_155 (by decide +kernel)
theorem d_MO_falls_17 : decode b_MO_falls 17 = .ok (.iload_n 2, 1) := dc_28 (by decide +kernel)
theorem d_MO_falls_18 : decode b_MO_falls 18 = .ok (.iconst 2, 1) := dc_5 (by decide +kernel)
theorem d_MO_falls_19 : decode b_MO_falls 19 = .ok (.if_icmp .le 5, 3) := dc_164 (by decide +kernel)
theorem d_MO_falls_22 : decode b_MO_falls 22 = .ok (.iconst (-1), 1) := dc_2 (by decide +kernel)
theorem d_MO_falls_23 : decode b_MO_falls 23 = .ok (.ireturn, 1) := dc_172 (by decide +kernel)
theorem d_MO_falls_24 : decode b_MO_falls 24 = .ok (.aload_n 0, 1) := dc_42 (by decide +kernel)
theorem d_MO_falls_25 : decode b_MO_falls 25 = .ok (.iconst 0, 1) := dc_3 (by decide +kernel)
theorem d_MO_falls_26 : decode b_MO_falls 26 = .ok (.iload_n 1, 1) := dc_27 (by decide +kernel)
theorem d_MO_falls_27 : decode b_MO_falls 27 = .ok (.invokevirtual 414, 3) := dc_182 (by decide +kernel)
theorem d_MO_falls_30 : decode b_MO_falls 30 = .ok (.iload_n 2, 1) := dc_28 (by decide +kernel)
theorem d_MO_falls_31 : decode b_MO_falls 31 = .ok (.ifCond .ne 10, 3) := dc_154 (by decide +kernel)
theorem d_MO_falls_34 : decode b_MO_falls 34 = .ok (.aload_n 0, 1) := dc_42 (by decide +kernel)
theorem d_MO_falls_35 : decode b_MO_falls 35 = .ok (.getfield 353, 3) := dc_180 (by decide +kernel)
theorem d_MO_falls_38 : decode b_MO_falls 38 = .ok (.goto 31, 3) := dc_167 (by decide +kernel)
theorem d_MO_falls_41 : decode b_MO_falls 41 = .ok (.iload_n 2, 1) := dc_28 (by decide +kernel)
theorem d_MO_falls_42 : decode b_MO_falls 42 = .ok (.iconst 1, 1) := dc_4 (by decide +kernel)
theorem d_MO_falls_43 : decode b_MO_falls 43 = .ok (.if_icmp .ne 10, 3) := dc_160 (by decide +kernel)
theorem d_MO_falls_46 : decode b_MO_falls 46 = .ok (.aload_n 0, 1) := dc_42 (by decide +kernel)
theorem d_MO_falls_47 : decode b_MO_falls 47 = .ok (.getfield 347, 3) := dc_180 (by decide +kernel)
theorem d_MO_falls_50 : decode b_MO_falls 50 = .ok (.goto 19, 3) := dc_167 (by decide +kernel)
theorem d_MO_falls_53 : decode b_MO_falls 53 = .ok (.aload_n 0, 1) := dc_42 (by decide +kernel)
theorem d_MO_falls_54 : decode b_MO_falls 54 = .ok (.getfield 347, 3) := dc_180 (by decide +kernel)
theorem d_MO_falls_57 : decode b_MO_falls 57 = .ok (.ifCond .le 8, 3) := dc_158 (by decide +kernel)
theorem d_MO_falls_60 : decode b_MO_falls 60 = .ok (.bipush (-2), 2) := dc_16 (by decide +kernel)
theorem d_MO_falls_62 : decode b_MO_falls 62 = .ok (.goto 7, 3) := dc_167 (by decide +kernel)
theorem d_MO_falls_65 : decode b_MO_falls 65 = .ok (.aload_n 0, 1) := dc_42 (by decide +kernel)
theorem d_MO_falls_66 : decode b_MO_falls 66 = .ok (.getfield 341, 3) := dc_180 (by decide +kernel)
theorem d_MO_falls_69 : decode b_MO_falls 69 = .ok (.ireturn, 1) := dc_172 (by decide +kernel)
def t_MO_falls (M : Mem) (x1 : Int) (x2 : Int) : Option (Mem × Int) := (qlet (setI M 191 0 0) fun M1 => (obind (t_MO_isOpen M1 x1) fun q2 => (if q2 = 0 then (some (M1, (-1))) else (if x2 < 0 then (some (M1, (-1))) else (if x2 ≤ 2 then (obind (t_MO_goesFrom M1 0 x1) fun q7 => (if x2 = 0 then (some (q7, (q7.1 191 46))) else (if x2 = 1 then (some (q7, (q7.1 191 48))) else (if (q7.1 191 48) ≤ 0 then (some (q7, (q7.1 191 49))) else (some (q7, (-2))))))) else (some (M1, (-1))))))))
set_option maxHeartbeats 4000000 in
set_option maxRecDepth 100000 in
theorem c_MO_falls (l : Launch) {b n : Nat} {C : CT} (hlo : 231 ≤ n) (M : Mem) (x1 : Int) (x2 : Int) (hx1 : InR x1) (hx2 : InR x2) (res : Mem × Int) (hT : t_MO_falls M x1 x2 = some res) : CM l b C n 3 y_MO_falls b_MO_falls 3 (some .int) [.ref (b + 191), vI x1, vI x2] M (QI b C n res.1 res.2) := by
  refine CM.of (lo := 231) (ow := "WardFallsModel") (by decide) rfl (Nat.le_of_ble_eq_true rfl) hlo (fun p e s m below meth c F hlk hr hS ls hl => ?_)
  have hl : lv_has ls 3 [(0, .ref (b + 191)), (1, vI x1), (2, vI x2)] := hl
  unfold t_MO_falls at hT
  refine lv_aload_n F.hx F.hb d_MO_falls_0 rfl (lv_at hl 0 rfl) ?_
  refine r_iconst F.hx F.hb d_MO_falls_1 ?_
  refine r_putI (N := 68) (T := T1) (j := 0) F hS (show 191 < 231 by decide) (show shK 191 = 5 from rfl) (show shN 191 = 68 from rfl) rfl (Nat.le_of_ble_eq_true rfl) ing1 tyok1 nm1 rfl rfl rfl rfl rfl rfl mw_1389 (inr_c rfl) d_MO_falls_2 (fun H locs hS => ?_)
  obtain ⟨M1, eM1⟩ : ∃ q, q = (setI M 191 0 0) := ⟨_, rfl⟩
  replace hS : St b C n M1 s H locs := by rw [eM1]; exact hS
  replace hT := qlet_eq hT eM1
  refine lv_aload_n F.hx F.hb d_MO_falls_5 rfl (lv_at hl 0 rfl) ?_
  refine lv_iload_n F.hx F.hb d_MO_falls_6 rfl (lv_at hl 1 rfl) ?_
  obtain ⟨q2, hq2, hT⟩ := q_obind hT
  refine r_backZ F hS (r_runV (k := 191) (N := 68) (T := T1) (As := [vI x1]) F hS (show 191 < 231 by decide) (show shK 191 = 5 from rfl) rfl (c_MO_isOpen l F.2.2.1 M1 x1 hx1 _ hq2) gs_MO_428 hd_MO_isOpen ⟨Nat.le_of_ble_eq_true rfl, Nat.le_of_ble_eq_true rfl⟩ rfl hl.1 (Nat.le_of_ble_eq_true rfl) ⟨Nat.zero_le _, Nat.zero_le _⟩ rfl d_MO_falls_7) (fun H locs hS h3 => ?_)
  refine r_if_eq (tgt := 22) F.hx F.hb (inr_z h3) d_MO_falls_10 (by decide) (fun c4 => ?_) (fun c4 => ?_)
  · replace hT := (if_pos c4).symm.trans hT
    refine r_iconst F.hx F.hb d_MO_falls_22 ?_
    cases hT
    exact r_iret F hlk hr rfl hS (inr_c rfl) d_MO_falls_23
  · replace hT := (if_neg c4).symm.trans hT
    refine lv_iload_n F.hx F.hb d_MO_falls_13 rfl (lv_at hl 2 rfl) ?_
    refine r_if_lt (tgt := 22) F.hx F.hb hx2 d_MO_falls_14 (by decide) (fun c5 => ?_) (fun c5 => ?_)
    · replace hT := (if_pos c5).symm.trans hT
      refine r_iconst F.hx F.hb d_MO_falls_22 ?_
      cases hT
      exact r_iret F hlk hr rfl hS (inr_c rfl) d_MO_falls_23
    · replace hT := (if_neg c5).symm.trans hT
      refine lv_iload_n F.hx F.hb d_MO_falls_17 rfl (lv_at hl 2 rfl) ?_
      refine r_iconst F.hx F.hb d_MO_falls_18 ?_
      refine r_icmp_le (tgt := 24) F.hx F.hb hx2 (inr_c rfl) d_MO_falls_19 (by decide) (fun c6 => ?_) (fun c6 => ?_)
      · replace hT := (if_pos c6).symm.trans hT
        refine lv_aload_n F.hx F.hb d_MO_falls_24 rfl (lv_at hl 0 rfl) ?_
        refine r_iconst F.hx F.hb d_MO_falls_25 ?_
        refine lv_iload_n F.hx F.hb d_MO_falls_26 rfl (lv_at hl 1 rfl) ?_
        obtain ⟨q7, hq7, hT⟩ := q_obind hT
        refine r_backV F hS (r_runV (k := 191) (N := 68) (T := T1) (As := [vI 0, vI x1]) F hS (show 191 < 231 by decide) (show shK 191 = 5 from rfl) rfl (c_MO_goesFrom l F.2.2.1 M1 0 x1 (inr_c rfl) hx1 _ hq7) gs_MO_414 hd_MO_goesFrom ⟨Nat.le_of_ble_eq_true rfl, Nat.le_of_ble_eq_true rfl⟩ rfl hl.1 (Nat.le_of_ble_eq_true rfl) ⟨Nat.zero_le _, Nat.zero_le _⟩ rfl d_MO_falls_27) (fun H locs hS => ?_)
        refine lv_iload_n F.hx F.hb d_MO_falls_30 rfl (lv_at hl 2 rfl) ?_
        refine r_if_ne (tgt := 41) F.hx F.hb hx2 d_MO_falls_31 (by decide) (fun c9 => ?_) (fun c9 => ?_)
        · replace hT := (if_neg c9).symm.trans hT
          refine lv_iload_n F.hx F.hb d_MO_falls_41 rfl (lv_at hl 2 rfl) ?_
          refine r_iconst F.hx F.hb d_MO_falls_42 ?_
          refine r_icmp_ne (tgt := 53) F.hx F.hb hx2 (inr_c rfl) d_MO_falls_43 (by decide) (fun c10 => ?_) (fun c10 => ?_)
          · replace hT := (if_neg c10).symm.trans hT
            refine lv_aload_n F.hx F.hb d_MO_falls_53 rfl (lv_at hl 0 rfl) ?_
            refine r_get (v := vI (q7.1 191 48)) (N := 68) (T := T1) (j := 48) F hS (show 191 < 231 by decide) (show shK 191 = 5 from rfl) (show shN 191 = 68 from rfl) rfl (Nat.le_of_ble_eq_true rfl) ing1 mw_1437 (fv_int rfl) d_MO_falls_54 ?_
            have i11 := hS.rng 191 48
            refine r_if_le (tgt := 65) F.hx F.hb i11 d_MO_falls_57 (by decide) (fun c12 => ?_) (fun c12 => ?_)
            · replace hT := (if_pos c12).symm.trans hT
              refine lv_aload_n F.hx F.hb d_MO_falls_65 rfl (lv_at hl 0 rfl) ?_
              refine r_get (v := vI (q7.1 191 49)) (N := 68) (T := T1) (j := 49) F hS (show 191 < 231 by decide) (show shK 191 = 5 from rfl) (show shN 191 = 68 from rfl) rfl (Nat.le_of_ble_eq_true rfl) ing1 mw_1438 (fv_int rfl) d_MO_falls_66 ?_
              have i13 := hS.rng 191 49
              cases hT
              exact r_iret F hlk hr rfl hS i13 d_MO_falls_69
            · replace hT := (if_neg c12).symm.trans hT
              refine r_bipush F.hx F.hb d_MO_falls_60 rfl ?_
              refine lv_goto (tgt := 69) F.hx F.hb d_MO_falls_62 (by decide) ?_
              cases hT
              exact r_iret F hlk hr rfl hS (inr_c rfl) d_MO_falls_69
          · replace hT := (if_pos c10).symm.trans hT
            refine lv_aload_n F.hx F.hb d_MO_falls_46 rfl (lv_at hl 0 rfl) ?_
            refine r_get (v := vI (q7.1 191 48)) (N := 68) (T := T1) (j := 48) F hS (show 191 < 231 by decide) (show shK 191 = 5 from rfl) (show shN 191 = 68 from rfl) rfl (Nat.le_of_ble_eq_true rfl) ing1 mw_1437 (fv_int rfl) d_MO_falls_47 ?_
            have i14 := hS.rng 191 48
            refine lv_goto (tgt := 69) F.hx F.hb d_MO_falls_50 (by decide) ?_
            cases hT
            exact r_iret F hlk hr rfl hS i14 d_MO_falls_69
        · replace hT := (if_pos c9).symm.trans hT
          refine lv_aload_n F.hx F.hb d_MO_falls_34 rfl (lv_at hl 0 rfl) ?_
          refine r_get (v := vI (q7.1 191 46)) (N := 68) (T := T1) (j := 46) F hS (show 191 < 231 by decide) (show shK 191 = 5 from rfl) (show shN 191 = 68 from rfl) rfl (Nat.le_of_ble_eq_true rfl) ing1 mw_1435 (fv_int rfl) d_MO_falls_35 ?_
          have i15 := hS.rng 191 46
          refine lv_goto (tgt := 69) F.hx F.hb d_MO_falls_38 (by decide) ?_
          cases hT
          exact r_iret F hlk hr rfl hS i15 d_MO_falls_69
      · replace hT := (if_neg c6).symm.trans hT
        refine r_iconst F.hx F.hb d_MO_falls_22 ?_
        cases hT
        exact r_iret F hlk hr rfl hS (inr_c rfl) d_MO_falls_23
theorem wn_MO_beat_0 : ∀ i, i < 94 → bA b_MO_beat (0 + i) = wB [3, 61, 3, 62, 29, 42, 180, 0, 13, 16, 6, 46, 162, 0, 132, 42, 180, 0, 97, 7, 160, 0, 14, 42, 180, 0, 100, 29, 160, 0, 6, 167, 0, 107, 16, 8, 27, 104, 29, 96, 54, 4, 42, 27, 42, 180, 0, 79, 21, 4, 46, 182, 1, 94, 54, 5, 21, 5, 2, 159, 0, 79, 42, 180, 0, 97, 4, 159, 0, 17, 42, 27, 21, 5, 182, 1, 107, 2, 159, 0, 6, 167, 0, 57, 42, 180, 0, 85, 21, 4, 92, 46, 42, 42] i := wB_of (by decide +kernel)
theorem d_MO_beat_0 : decode b_MO_beat 0 = .ok (.iconst 0, 1) := dc_3 (q0_win (r := 0) wn_MO_beat_0 (by decide +kernel))
theorem d_MO_beat_1 : decode b_MO_beat 1 = .ok (.istore_n 2, 1) := dc_61 (q0_win (r := 1) wn_MO_beat_0 (by decide +kernel))
theorem d_MO_beat_2 : decode b_MO_beat 2 = .ok (.iconst 0, 1) := dc_3 (q0_win (r := 2) wn_MO_beat_0 (by decide +kernel))
theorem d_MO_beat_3 : decode b_MO_beat 3 = .ok (.istore_n 3, 1) := dc_62 (q0_win (r := 3) wn_MO_beat_0 (by decide +kernel))
theorem d_MO_beat_4 : decode b_MO_beat 4 = .ok (.iload_n 3, 1) := dc_29 (q0_win (r := 4) wn_MO_beat_0 (by decide +kernel))
theorem d_MO_beat_5 : decode b_MO_beat 5 = .ok (.aload_n 0, 1) := dc_42 (q0_win (r := 5) wn_MO_beat_0 (by decide +kernel))
theorem d_MO_beat_6 : decode b_MO_beat 6 = .ok (.getfield 13, 3) := dc_180 (qU2_win (r := 6) wn_MO_beat_0 (by decide +kernel))
theorem d_MO_beat_9 : decode b_MO_beat 9 = .ok (.bipush 6, 2) := dc_16 (qS1_win (r := 9) wn_MO_beat_0 (by decide +kernel))
theorem d_MO_beat_11 : decode b_MO_beat 11 = .ok (.iaload, 1) := dc_46 (q0_win (r := 11) wn_MO_beat_0 (by decide +kernel))
theorem d_MO_beat_12 : decode b_MO_beat 12 = .ok (.if_icmp .ge 132, 3) := dc_162 (qS2_win (r := 12) wn_MO_beat_0 (by decide +kernel))
theorem d_MO_beat_15 : decode b_MO_beat 15 = .ok (.aload_n 0, 1) := dc_42 (q0_win (r := 15) wn_MO_beat_0 (by decide +kernel))
theorem d_MO_beat_16 : decode b_MO_beat 16 = .ok (.getfield 97, 3) := dc_180 (qU2_win (r := 16) wn_MO_beat_0 (by decide +kernel))
theorem d_MO_beat_19 : decode b_MO_beat 19 = .ok (.iconst 4, 1) := dc_7 (q0_win (r := 19) wn_MO_beat_0 (by decide +kernel))
theorem d_MO_beat_20 : decode b_MO_beat 20 = .ok (.if_icmp .ne 14, 3) := dc_160 (qS2_win (r := 20) wn_MO_beat_0 (by decide +kernel))
theorem d_MO_beat_23 : decode b_MO_beat 23 = .ok (.aload_n 0, 1) := dc_42 (q0_win (r := 23) wn_MO_beat_0 (by decide +kernel))
theorem d_MO_beat_24 : decode b_MO_beat 24 = .ok (.getfield 100, 3) := dc_180 (qU2_win (r := 24) wn_MO_beat_0 (by decide +kernel))
theorem d_MO_beat_27 : decode b_MO_beat 27 = .ok (.iload_n 3, 1) := dc_29 (q0_win (r := 27) wn_MO_beat_0 (by decide +kernel))
theorem d_MO_beat_28 : decode b_MO_beat 28 = .ok (.if_icmp .ne 6, 3) := dc_160 (qS2_win (r := 28) wn_MO_beat_0 (by decide +kernel))
theorem d_MO_beat_31 : decode b_MO_beat 31 = .ok (.goto 107, 3) := dc_167 (qS2_win (r := 31) wn_MO_beat_0 (by decide +kernel))
theorem d_MO_beat_34 : decode b_MO_beat 34 = .ok (.bipush 8, 2) := dc_16 (qS1_win (r := 34) wn_MO_beat_0 (by decide +kernel))
theorem d_MO_beat_36 : decode b_MO_beat 36 = .ok (.iload_n 1, 1) := dc_27 (q0_win (r := 36) wn_MO_beat_0 (by decide +kernel))
theorem d_MO_beat_37 : decode b_MO_beat 37 = .ok (.imul, 1) := dc_104 (q0_win (r := 37) wn_MO_beat_0 (by decide +kernel))
theorem d_MO_beat_38 : decode b_MO_beat 38 = .ok (.iload_n 3, 1) := dc_29 (q0_win (r := 38) wn_MO_beat_0 (by decide +kernel))
theorem d_MO_beat_39 : decode b_MO_beat 39 = .ok (.iadd, 1) := dc_96 (q0_win (r := 39) wn_MO_beat_0 (by decide +kernel))
theorem d_MO_beat_40 : decode b_MO_beat 40 = .ok (.istore 4, 2) := dc_54 (qU1_win (r := 40) wn_MO_beat_0 (by decide +kernel))
theorem d_MO_beat_42 : decode b_MO_beat 42 = .ok (.aload_n 0, 1) := dc_42 (q0_win (r := 42) wn_MO_beat_0 (by decide +kernel))
theorem d_MO_beat_43 : decode b_MO_beat 43 = .ok (.iload_n 1, 1) := dc_27 (q0_win (r := 43) wn_MO_beat_0 (by decide +kernel))
theorem d_MO_beat_44 : decode b_MO_beat 44 = .ok (.aload_n 0, 1) := dc_42 (q0_win (r := 44) wn_MO_beat_0 (by decide +kernel))
theorem d_MO_beat_45 : decode b_MO_beat 45 = .ok (.getfield 79, 3) := dc_180 (qU2_win (r := 45) wn_MO_beat_0 (by decide +kernel))
theorem d_MO_beat_48 : decode b_MO_beat 48 = .ok (.iload 4, 2) := dc_21 (qU1_win (r := 48) wn_MO_beat_0 (by decide +kernel))
theorem d_MO_beat_50 : decode b_MO_beat 50 = .ok (.iaload, 1) := dc_46 (q0_win (r := 50) wn_MO_beat_0 (by decide +kernel))
theorem d_MO_beat_51 : decode b_MO_beat 51 = .ok (.invokevirtual 350, 3) := dc_182 (qU2_win (r := 51) wn_MO_beat_0 (by decide +kernel))
theorem d_MO_beat_54 : decode b_MO_beat 54 = .ok (.istore 5, 2) := dc_54 (qU1_win (r := 54) wn_MO_beat_0 (by decide +kernel))
theorem d_MO_beat_56 : decode b_MO_beat 56 = .ok (.iload 5, 2) := dc_21 (qU1_win (r := 56) wn_MO_beat_0 (by decide +kernel))
theorem d_MO_beat_58 : decode b_MO_beat 58 = .ok (.iconst (-1), 1) := dc_2 (q0_win (r := 58) wn_MO_beat_0 (by decide +kernel))
theorem d_MO_beat_59 : decode b_MO_beat 59 = .ok (.if_icmp .eq 79, 3) := dc_159 (qS2_win (r := 59) wn_MO_beat_0 (by decide +kernel))
theorem d_MO_beat_62 : decode b_MO_beat 62 = .ok (.aload_n 0, 1) := dc_42 (q0_win (r := 62) wn_MO_beat_0 (by decide +kernel))
theorem d_MO_beat_63 : decode b_MO_beat 63 = .ok (.getfield 97, 3) := dc_180 (qU2_win (r := 63) wn_MO_beat_0 (by decide +kernel))
theorem d_MO_beat_66 : decode b_MO_beat 66 = .ok (.iconst 1, 1) := dc_4 (q0_win (r := 66) wn_MO_beat_0 (by decide +kernel))
theorem d_MO_beat_67 : decode b_MO_beat 67 = .ok (.if_icmp .eq 17, 3) := dc_159 (qS2_win (r := 67) wn_MO_beat_0 (by decide +kernel))
theorem d_MO_beat_70 : decode b_MO_beat 70 = .ok (.aload_n 0, 1) := dc_42 (q0_win (r := 70) wn_MO_beat_0 (by decide +kernel))
theorem d_MO_beat_71 : decode b_MO_beat 71 = .ok (.iload_n 1, 1) := dc_27 (q0_win (r := 71) wn_MO_beat_0 (by decide +kernel))
theorem d_MO_beat_72 : decode b_MO_beat 72 = .ok (.iload 5, 2) := dc_21 (qU1_win (r := 72) wn_MO_beat_0 (by decide +kernel))
theorem d_MO_beat_74 : decode b_MO_beat 74 = .ok (.invokevirtual 363, 3) := dc_182 (qU2_win (r := 74) wn_MO_beat_0 (by decide +kernel))
theorem d_MO_beat_77 : decode b_MO_beat 77 = .ok (.iconst (-1), 1) := dc_2 (q0_win (r := 77) wn_MO_beat_0 (by decide +kernel))
theorem d_MO_beat_78 : decode b_MO_beat 78 = .ok (.if_icmp .eq 6, 3) := dc_159 (qS2_win (r := 78) wn_MO_beat_0 (by decide +kernel))
theorem d_MO_beat_81 : decode b_MO_beat 81 = .ok (.goto 57, 3) := dc_167 (qS2_win (r := 81) wn_MO_beat_0 (by decide +kernel))
theorem d_MO_beat_84 : decode b_MO_beat 84 = .ok (.aload_n 0, 1) := dc_42 (q0_win (r := 84) wn_MO_beat_0 (by decide +kernel))
theorem d_MO_beat_85 : decode b_MO_beat 85 = .ok (.getfield 85, 3) := dc_180 (qU2_win (r := 85) wn_MO_beat_0 (by decide +kernel))
theorem d_MO_beat_88 : decode b_MO_beat 88 = .ok (.iload 4, 2) := dc_21 (qU1_win (r := 88) wn_MO_beat_0 (by decide +kernel))
theorem d_MO_beat_90 : decode b_MO_beat 90 = .ok (.dup2, 1) := dc_92 (q0_win (r := 90) wn_MO_beat_0 (by decide +kernel))
theorem d_MO_beat_91 : decode b_MO_beat 91 = .ok (.iaload, 1) := dc_46 (q0_win (r := 91) wn_MO_beat_0 (by decide +kernel))
theorem d_MO_beat_92 : decode b_MO_beat 92 = .ok (.aload_n 0, 1) := dc_42 (q0_win (r := 92) wn_MO_beat_0 (by decide +kernel))
theorem d_MO_beat_93 : decode b_MO_beat 93 = .ok (.aload_n 0, 1) := dc_42 (q0_win (r := 93) wn_MO_beat_0 (by decide +kernel))
theorem wn_MO_beat_94 : ∀ i, i < 62 → bA b_MO_beat (94 + i) = wB [180, 0, 79, 21, 4, 46, 21, 5, 182, 1, 103, 153, 0, 7, 4, 167, 0, 4, 3, 96, 79, 42, 180, 0, 82, 21, 4, 92, 46, 4, 96, 79, 42, 180, 0, 79, 21, 4, 21, 5, 79, 132, 2, 1, 132, 3, 1, 167, 255, 119, 42, 180, 0, 63, 27, 92, 46, 4, 96, 79, 28, 172] i := wB_of (by decide +kernel)
theorem d_MO_beat_94 : decode b_MO_beat 94 = .ok (.getfield 79, 3) := dc_180 (qU2_win (r := 0) wn_MO_beat_94 (by decide +kernel))
theorem d_MO_beat_97 : decode b_MO_beat 97 = .ok (.iload 4, 2) := dc_21 (qU1_win (r := 3) wn_MO_beat_94 (by decide +kernel))
theorem d_MO_beat_99 : decode b_MO_beat 99 = .ok (.iaload, 1) := dc_46 (q0_win (r := 5) wn_MO_beat_94 (by decide +kernel))
theorem d_MO_beat_100 : decode b_MO_beat 100 = .ok (.iload 5, 2) := dc_21 (qU1_win (r := 6) wn_MO_beat_94 (by decide +kernel))
theorem d_MO_beat_102 : decode b_MO_beat 102 = .ok (.invokevirtual 359, 3) := dc_182 (qU2_win (r := 8) wn_MO_beat_94 (by decide +kernel))
theorem d_MO_beat_105 : decode b_MO_beat 105 = .ok (.ifCond .eq 7, 3) := dc_153 (qS2_win (r := 11) wn_MO_beat_94 (by decide +kernel))
theorem d_MO_beat_108 : decode b_MO_beat 108 = .ok (.iconst 1, 1) := dc_4 (q0_win (r := 14) wn_MO_beat_94 (by decide +kernel))
theorem d_MO_beat_109 : decode b_MO_beat 109 = .ok (.goto 4, 3) := dc_167 (qS2_win (r := 15) wn_MO_beat_94 (by decide +kernel))
theorem d_MO_beat_112 : decode b_MO_beat 112 = .ok (.iconst 0, 1) := dc_3 (q0_win (r := 18) wn_MO_beat_94 (by decide +kernel))
theorem d_MO_beat_113 : decode b_MO_beat 113 = .ok (.iadd, 1) := dc_96 (q0_win (r := 19) wn_MO_beat_94 (by decide +kernel))
theorem d_MO_beat_114 : decode b_MO_beat 114 = .ok (.iastore, 1) := dc_79 (q0_win (r := 20) wn_MO_beat_94 (by decide +kernel))
theorem d_MO_beat_115 : decode b_MO_beat 115 = .ok (.aload_n 0, 1) := dc_42 (q0_win (r := 21) wn_MO_beat_94 (by decide +kernel))
theorem d_MO_beat_116 : decode b_MO_beat 116 = .ok (.getfield 82, 3) := dc_180 (qU2_win (r := 22) wn_MO_beat_94 (by decide +kernel))
theorem d_MO_beat_119 : decode b_MO_beat 119 = .ok (.iload 4, 2) := dc_21 (qU1_win (r := 25) wn_MO_beat_94 (by decide +kernel))
theorem d_MO_beat_121 : decode b_MO_beat 121 = .ok (.dup2, 1) := dc_92 (q0_win (r := 27) wn_MO_beat_94 (by decide +kernel))
theorem d_MO_beat_122 : decode b_MO_beat 122 = .ok (.iaload, 1) := dc_46 (q0_win (r := 28) wn_MO_beat_94 (by decide +kernel))
theorem d_MO_beat_123 : decode b_MO_beat 123 = .ok (.iconst 1, 1) := dc_4 (q0_win (r := 29) wn_MO_beat_94 (by decide +kernel))
theorem d_MO_beat_124 : decode b_MO_beat 124 = .ok (.iadd, 1) := dc_96 (q0_win (r := 30) wn_MO_beat_94 (by decide +kernel))
theorem d_MO_beat_125 : decode b_MO_beat 125 = .ok (.iastore, 1) := dc_79 (q0_win (r := 31) wn_MO_beat_94 (by decide +kernel))
theorem d_MO_beat_126 : decode b_MO_beat 126 = .ok (.aload_n 0, 1) := dc_42 (q0_win (r := 32) wn_MO_beat_94 (by decide +kernel))
theorem d_MO_beat_127 : decode b_MO_beat 127 = .ok (.getfield 79, 3) := dc_180 (qU2_win (r := 33) wn_MO_beat_94 (by decide +kernel))
theorem d_MO_beat_130 : decode b_MO_beat 130 = .ok (.iload 4, 2) := dc_21 (qU1_win (r := 36) wn_MO_beat_94 (by decide +kernel))
theorem d_MO_beat_132 : decode b_MO_beat 132 = .ok (.iload 5, 2) := dc_21 (qU1_win (r := 38) wn_MO_beat_94 (by decide +kernel))
theorem d_MO_beat_134 : decode b_MO_beat 134 = .ok (.iastore, 1) := dc_79 (q0_win (r := 40) wn_MO_beat_94 (by decide +kernel))
theorem d_MO_beat_135 : decode b_MO_beat 135 = .ok (.iinc 2 1, 3) := dc_132 (qI_win (r := 41) wn_MO_beat_94 (by decide +kernel))
theorem d_MO_beat_138 : decode b_MO_beat 138 = .ok (.iinc 3 1, 3) := dc_132 (qI_win (r := 44) wn_MO_beat_94 (by decide +kernel))
theorem d_MO_beat_141 : decode b_MO_beat 141 = .ok (.goto (-137), 3) := dc_167 (qS2_win (r := 47) wn_MO_beat_94 (by decide +kernel))
theorem d_MO_beat_144 : decode b_MO_beat 144 = .ok (.aload_n 0, 1) := dc_42 (q0_win (r := 50) wn_MO_beat_94 (by decide +kernel))
theorem d_MO_beat_145 : decode b_MO_beat 145 = .ok (.getfield 63, 3) := dc_180 (qU2_win (r := 51) wn_MO_beat_94 (by decide +kernel))
theorem d_MO_beat_148 : decode b_MO_beat 148 = .ok (.iload_n 1, 1) := dc_27 (q0_win (r := 54) wn_MO_beat_94 (by decide +kernel))
theorem d_MO_beat_149 : decode b_MO_beat 149 = .ok (.dup2, 1) := dc_92 (q0_win (r := 55) wn_MO_beat_94 (by decide +kernel))
theorem d_MO_beat_150 : decode b_MO_beat 150 = .ok (.iaload, 1) := dc_46 (q0_win (r := 56) wn_MO_beat_94 (by decide +kernel))
theorem d_MO_beat_151 : decode b_MO_beat 151 = .ok (.iconst 1, 1) := dc_4 (q0_win (r := 57) wn_MO_beat_94 (by decide +kernel))
theorem d_MO_beat_152 : decode b_MO_beat 152 = .ok (.iadd, 1) := dc_96 (q0_win (r := 58) wn_MO_beat_94 (by decide +kernel))
theorem d_MO_beat_153 : decode b_MO_beat 153 = .ok (.iastore, 1) := dc_79 (q0_win (r := 59) wn_MO_beat_94 (by decide +kernel))
theorem d_MO_beat_154 : decode b_MO_beat 154 = .ok (.iload_n 2, 1) := dc_28 (q0_win (r := 60) wn_MO_beat_94 (by decide +kernel))
theorem d_MO_beat_155 : decode b_MO_beat 155 = .ok (.ireturn, 1) := dc_172 (q0_win (r := 61) wn_MO_beat_94 (by decide +kernel))
def t_MO_beat_L138 (x1 : Int) (bk4 : Mem → Int → Int → Option (Mem × Int)) (M : Mem) (v2_ : Int) (v3_ : Int) : Option (Mem × Int) := (bk4 M v2_ (w32 (v3_ + 1)))
def t_MO_beat_L113 (x1 : Int) (bk4 : Mem → Int → Int → Option (Mem × Int)) (M : Mem) (v2_ : Int) (v3_ : Int) (v4_ : Int) (v5_ : Int) (v7_ : Int) (v8_ : Int) (v9_ : Int) : Option (Mem × Int) := (qguard (0 ≤ v7_ ∧ v7_ < 184) (qlet (setI M 215 v7_ (w32 (v8_ + v9_))) fun M29 => (qguard (0 ≤ v4_ ∧ v4_ < 184) (qguard (0 ≤ v4_ ∧ v4_ < 184) (qlet (setI M29 214 v4_ (w32 ((M29.1 214 v4_) + 1))) fun M33 => (qguard (0 ≤ v4_ ∧ v4_ < 184) (qlet (setI M33 213 v4_ v5_) fun M35 => (t_MO_beat_L138 x1 bk4 M35 (w32 (v2_ + 1)) v3_))))))))
def t_MO_beat_L84 (x1 : Int) (bk4 : Mem → Int → Int → Option (Mem × Int)) (M : Mem) (v2_ : Int) (v3_ : Int) (v4_ : Int) (v5_ : Int) : Option (Mem × Int) := (qguard (0 ≤ v4_ ∧ v4_ < 184) (qguard (0 ≤ v4_ ∧ v4_ < 184) (obind (t_MO_isLine M (M.1 213 v4_) v5_) fun q25 => (if q25 = 0 then (t_MO_beat_L113 x1 bk4 M v2_ v3_ v4_ v5_ v4_ (M.1 215 v4_) 0) else (t_MO_beat_L113 x1 bk4 M v2_ v3_ v4_ v5_ v4_ (M.1 215 v4_) 1)))))
def t_MO_beat_L34 (x1 : Int) (bk4 : Mem → Int → Int → Option (Mem × Int)) (M : Mem) (v2_ : Int) (v3_ : Int) : Option (Mem × Int) := (qguard (0 ≤ (w32 ((w32 (8 * x1)) + v3_)) ∧ (w32 ((w32 (8 * x1)) + v3_)) < 184) (obind (t_MO_nextOf M x1 (M.1 213 (w32 ((w32 (8 * x1)) + v3_)))) fun q13 => (if q13 = (-1) then (t_MO_beat_L138 x1 bk4 M v2_ v3_) else (if (M.1 191 44) = 1 then (t_MO_beat_L84 x1 bk4 M v2_ v3_ (w32 ((w32 (8 * x1)) + v3_)) q13) else (obind (t_MO_thingIn M x1 q13) fun q18 => (if q18 = (-1) then (t_MO_beat_L84 x1 bk4 M v2_ v3_ (w32 ((w32 (8 * x1)) + v3_)) q13) else (t_MO_beat_L138 x1 bk4 M v2_ v3_)))))))
def t_MO_beat_L4 (x1 : Int)  : Nat → Mem → Int → Int → Option (Mem × Int)
  | 0, _, _, _ => none
  | fu + 1, M, v2_, v3_ => (if (M.1 193 6) ≤ v3_ then (qguard (0 ≤ x1 ∧ x1 < 23) (qguard (0 ≤ x1 ∧ x1 < 23) (qlet (setI M 208 x1 (w32 ((M.1 208 x1) + 1))) fun M6 => (some (M6, v2_))))) else (if (M.1 191 44) = 4 then (if (M.1 191 45) = v3_ then (t_MO_beat_L138 x1 (fun a0_ a1_ a2_ => t_MO_beat_L4 x1 fu a0_ a1_ a2_) M v2_ v3_) else (t_MO_beat_L34 x1 (fun a0_ a1_ a2_ => t_MO_beat_L4 x1 fu a0_ a1_ a2_) M v2_ v3_)) else (t_MO_beat_L34 x1 (fun a0_ a1_ a2_ => t_MO_beat_L4 x1 fu a0_ a1_ a2_) M v2_ v3_)))
def t_MO_beat (M : Mem) (x1 : Int) : Option (Mem × Int) := (t_MO_beat_L4 x1 FU M 0 0)
set_option maxHeartbeats 4000000 in
set_option maxRecDepth 100000 in
theorem k_MO_beat_L138 (l : Launch) {p : Program} {e : Env} {s : State} {m : MethodId} {below : List Frame} {meth : Method} {c : Code} {b n : Nat} {C : CT} (hlo : 231 ≤ n) (x1 : Int) (hx1 : InR x1) (F : Cx b p m c b_MO_beat 6 s ([.ref (b + 191), vI x1] : List Value).toArray "WardFallsModel" C n 231) (hlk : meth.locks = false) (hr : meth.sig.returnType = some .int) {res : Mem × Int} (bk4 : Mem → Int → Int → Option (Mem × Int)) (hbk4 : ∀ (M : Mem) (v2_ : Int) (hv2_ : InR v2_) (v3_ : Int) (hv3_ : InR v3_) (H : Heap) (locs : List Loc) (ls : Array Slot), St b C n M s H locs → lv_has ls 6 [(0, .ref (b + 191)), (1, vI x1), (2, vI v2_), (3, vI v3_)] → bk4 M v2_ v3_ = some res → W p l e (headSpec (wsM y_MO_beat b_MO_beat 6 (some .int)) (rmD 2)).room s m ([.ref (b + 191), vI x1] : List Value).toArray below meth c H locs 0 0 (MQ below (QI b C n res.1 res.2) ([.ref (b + 191), vI x1] : List Value).toArray s 0 0 (frb b)) (F0 m 4 ls [])) (M : Mem) (v2_ : Int) (hv2_ : InR v2_) (v3_ : Int) (hv3_ : InR v3_) (H : Heap) (locs : List Loc) (ls : Array Slot) (hS : St b C n M s H locs) (hl : lv_has ls 6 [(0, .ref (b + 191)), (1, vI x1), (2, vI v2_), (3, vI v3_)]) (hT : t_MO_beat_L138 x1 bk4 M v2_ v3_ = some res) : W p l e (headSpec (wsM y_MO_beat b_MO_beat 6 (some .int)) (rmD 2)).room s m ([.ref (b + 191), vI x1] : List Value).toArray below meth c H locs 0 0 (MQ below (QI b C n res.1 res.2) ([.ref (b + 191), vI x1] : List Value).toArray s 0 0 (frb b)) (F0 m 138 ls []) := by
  unfold t_MO_beat_L138 at hT
  refine lv_iinc (v := Int32.ofInt (w32 (v3_ + 1))) (lv' := [(3, vI (w32 (v3_ + 1))), (0, .ref (b + 191)), (1, vI x1), (2, vI v2_)]) F.hx F.hb d_MO_beat_138 hl (k := 3) rfl (q_of_add _ _) (Nat.le_of_ble_eq_true rfl) rfl (fun ls hl => ?_)
  refine lv_goto (tgt := 4) F.hx F.hb d_MO_beat_141 (by decide) ?_
  exact hbk4 M v2_ hv2_ (w32 (v3_ + 1)) (inr_w32 _) _ _ _ hS (lv_sub hl [1, 2, 3, 0] rfl) hT
set_option maxHeartbeats 4000000 in
set_option maxRecDepth 100000 in
theorem k_MO_beat_L113 (l : Launch) {p : Program} {e : Env} {s : State} {m : MethodId} {below : List Frame} {meth : Method} {c : Code} {b n : Nat} {C : CT} (hlo : 231 ≤ n) (x1 : Int) (hx1 : InR x1) (F : Cx b p m c b_MO_beat 6 s ([.ref (b + 191), vI x1] : List Value).toArray "WardFallsModel" C n 231) (hlk : meth.locks = false) (hr : meth.sig.returnType = some .int) {res : Mem × Int} (bk4 : Mem → Int → Int → Option (Mem × Int)) (hbk4 : ∀ (M : Mem) (v2_ : Int) (hv2_ : InR v2_) (v3_ : Int) (hv3_ : InR v3_) (H : Heap) (locs : List Loc) (ls : Array Slot), St b C n M s H locs → lv_has ls 6 [(0, .ref (b + 191)), (1, vI x1), (2, vI v2_), (3, vI v3_)] → bk4 M v2_ v3_ = some res → W p l e (headSpec (wsM y_MO_beat b_MO_beat 6 (some .int)) (rmD 2)).room s m ([.ref (b + 191), vI x1] : List Value).toArray below meth c H locs 0 0 (MQ below (QI b C n res.1 res.2) ([.ref (b + 191), vI x1] : List Value).toArray s 0 0 (frb b)) (F0 m 4 ls [])) (M : Mem) (v2_ : Int) (hv2_ : InR v2_) (v3_ : Int) (hv3_ : InR v3_) (v4_ : Int) (hv4_ : InR v4_) (v5_ : Int) (hv5_ : InR v5_) (v7_ : Int) (hv7_ : InR v7_) (v8_ : Int) (hv8_ : InR v8_) (v9_ : Int) (hv9_ : v9_ = 0 ∨ v9_ = 1) (H : Heap) (locs : List Loc) (ls : Array Slot) (hS : St b C n M s H locs) (hl : lv_has ls 6 [(0, .ref (b + 191)), (1, vI x1), (2, vI v2_), (3, vI v3_), (4, vI v4_), (5, vI v5_)]) (hT : t_MO_beat_L113 x1 bk4 M v2_ v3_ v4_ v5_ v7_ v8_ v9_ = some res) : W p l e (headSpec (wsM y_MO_beat b_MO_beat 6 (some .int)) (rmD 2)).room s m ([.ref (b + 191), vI x1] : List Value).toArray below meth c H locs 0 0 (MQ below (QI b C n res.1 res.2) ([.ref (b + 191), vI x1] : List Value).toArray s 0 0 (frb b)) (F0 m 113 ls [vI v9_, vI v8_, vI v7_, .ref (b + 215)]) := by
  unfold t_MO_beat_L113 at hT
  refine r_iadd F.hx F.hb d_MO_beat_113 ?_
  obtain ⟨⟨g28a, g28b⟩, hT⟩ := q_guard hT
  refine r_iast F hS (show 215 < 231 by decide) (show shK 215 = 0 from rfl) (show shN 215 = 184 from rfl) hv7_ (inr_w32 _) g28a g28b d_MO_beat_114 (fun H locs hS => ?_)
  obtain ⟨M29, eM29⟩ : ∃ q, q = (setI M 215 v7_ (w32 (v8_ + v9_))) := ⟨_, rfl⟩
  replace hS : St b C n M29 s H locs := by rw [eM29]; exact hS
  replace hT := qlet_eq hT eM29
  refine lv_aload_n F.hx F.hb d_MO_beat_115 rfl (lv_at hl 0 rfl) ?_
  refine r_get (v := .ref (b + 214)) (N := 68) (T := T1) (j := 37) F hS (show 191 < 231 by decide) (show shK 191 = 5 from rfl) (show shN 191 = 68 from rfl) rfl (Nat.le_of_ble_eq_true rfl) ing1 mw_1426 (fv_sg rfl rfl rfl) d_MO_beat_116 ?_
  refine lv_iload F.hx F.hb d_MO_beat_119 (lv_at hl 4 rfl) ?_
  refine lv_dup2_11 F.hx F.hb d_MO_beat_121 rfl rfl ?_
  obtain ⟨⟨g30a, g30b⟩, hT⟩ := q_guard hT
  refine r_iald F hS (show 214 < 231 by decide) (show shK 214 = 0 from rfl) (show shN 214 = 184 from rfl) hv4_ g30a g30b d_MO_beat_122 ?_
  have i31 := hS.rng 214 v4_
  refine r_iconst F.hx F.hb d_MO_beat_123 ?_
  refine r_iadd F.hx F.hb d_MO_beat_124 ?_
  obtain ⟨⟨g32a, g32b⟩, hT⟩ := q_guard hT
  refine r_iast F hS (show 214 < 231 by decide) (show shK 214 = 0 from rfl) (show shN 214 = 184 from rfl) hv4_ (inr_w32 _) g32a g32b d_MO_beat_125 (fun H locs hS => ?_)
  obtain ⟨M33, eM33⟩ : ∃ q, q = (setI M29 214 v4_ (w32 ((M29.1 214 v4_) + 1))) := ⟨_, rfl⟩
  replace hS : St b C n M33 s H locs := by rw [eM33]; exact hS
  replace hT := qlet_eq hT eM33
  refine lv_aload_n F.hx F.hb d_MO_beat_126 rfl (lv_at hl 0 rfl) ?_
  refine r_get (v := .ref (b + 213)) (N := 68) (T := T1) (j := 36) F hS (show 191 < 231 by decide) (show shK 191 = 5 from rfl) (show shN 191 = 68 from rfl) rfl (Nat.le_of_ble_eq_true rfl) ing1 mw_1425 (fv_sg rfl rfl rfl) d_MO_beat_127 ?_
  refine lv_iload F.hx F.hb d_MO_beat_130 (lv_at hl 4 rfl) ?_
  refine lv_iload F.hx F.hb d_MO_beat_132 (lv_at hl 5 rfl) ?_
  obtain ⟨⟨g34a, g34b⟩, hT⟩ := q_guard hT
  refine r_iast F hS (show 213 < 231 by decide) (show shK 213 = 0 from rfl) (show shN 213 = 184 from rfl) hv4_ hv5_ g34a g34b d_MO_beat_134 (fun H locs hS => ?_)
  obtain ⟨M35, eM35⟩ : ∃ q, q = (setI M33 213 v4_ v5_) := ⟨_, rfl⟩
  replace hS : St b C n M35 s H locs := by rw [eM35]; exact hS
  replace hT := qlet_eq hT eM35
  refine lv_iinc (v := Int32.ofInt (w32 (v2_ + 1))) (lv' := [(2, vI (w32 (v2_ + 1))), (0, .ref (b + 191)), (1, vI x1), (3, vI v3_), (4, vI v4_), (5, vI v5_)]) F.hx F.hb d_MO_beat_135 hl (k := 2) rfl (q_of_add _ _) (Nat.le_of_ble_eq_true rfl) rfl (fun ls hl => ?_)
  exact k_MO_beat_L138 l hlo x1 hx1 F hlk hr bk4 hbk4 M35 (w32 (v2_ + 1)) (inr_w32 _) v3_ hv3_ _ _ _ hS (lv_sub hl [1, 2, 0, 3] rfl) hT
set_option maxHeartbeats 4000000 in
set_option maxRecDepth 100000 in
theorem k_MO_beat_L84 (l : Launch) {p : Program} {e : Env} {s : State} {m : MethodId} {below : List Frame} {meth : Method} {c : Code} {b n : Nat} {C : CT} (hlo : 231 ≤ n) (x1 : Int) (hx1 : InR x1) (F : Cx b p m c b_MO_beat 6 s ([.ref (b + 191), vI x1] : List Value).toArray "WardFallsModel" C n 231) (hlk : meth.locks = false) (hr : meth.sig.returnType = some .int) {res : Mem × Int} (bk4 : Mem → Int → Int → Option (Mem × Int)) (hbk4 : ∀ (M : Mem) (v2_ : Int) (hv2_ : InR v2_) (v3_ : Int) (hv3_ : InR v3_) (H : Heap) (locs : List Loc) (ls : Array Slot), St b C n M s H locs → lv_has ls 6 [(0, .ref (b + 191)), (1, vI x1), (2, vI v2_), (3, vI v3_)] → bk4 M v2_ v3_ = some res → W p l e (headSpec (wsM y_MO_beat b_MO_beat 6 (some .int)) (rmD 2)).room s m ([.ref (b + 191), vI x1] : List Value).toArray below meth c H locs 0 0 (MQ below (QI b C n res.1 res.2) ([.ref (b + 191), vI x1] : List Value).toArray s 0 0 (frb b)) (F0 m 4 ls [])) (M : Mem) (v2_ : Int) (hv2_ : InR v2_) (v3_ : Int) (hv3_ : InR v3_) (v4_ : Int) (hv4_ : InR v4_) (v5_ : Int) (hv5_ : InR v5_) (H : Heap) (locs : List Loc) (ls : Array Slot) (hS : St b C n M s H locs) (hl : lv_has ls 6 [(0, .ref (b + 191)), (1, vI x1), (2, vI v2_), (3, vI v3_), (4, vI v4_), (5, vI v5_)]) (hT : t_MO_beat_L84 x1 bk4 M v2_ v3_ v4_ v5_ = some res) : W p l e (headSpec (wsM y_MO_beat b_MO_beat 6 (some .int)) (rmD 2)).room s m ([.ref (b + 191), vI x1] : List Value).toArray below meth c H locs 0 0 (MQ below (QI b C n res.1 res.2) ([.ref (b + 191), vI x1] : List Value).toArray s 0 0 (frb b)) (F0 m 84 ls []) := by
  unfold t_MO_beat_L84 at hT
  refine lv_aload_n F.hx F.hb d_MO_beat_84 rfl (lv_at hl 0 rfl) ?_
  refine r_get (v := .ref (b + 215)) (N := 68) (T := T1) (j := 38) F hS (show 191 < 231 by decide) (show shK 191 = 5 from rfl) (show shN 191 = 68 from rfl) rfl (Nat.le_of_ble_eq_true rfl) ing1 mw_1427 (fv_sg rfl rfl rfl) d_MO_beat_85 ?_
  refine lv_iload F.hx F.hb d_MO_beat_88 (lv_at hl 4 rfl) ?_
  refine lv_dup2_11 F.hx F.hb d_MO_beat_90 rfl rfl ?_
  obtain ⟨⟨g21a, g21b⟩, hT⟩ := q_guard hT
  refine r_iald F hS (show 215 < 231 by decide) (show shK 215 = 0 from rfl) (show shN 215 = 184 from rfl) hv4_ g21a g21b d_MO_beat_91 ?_
  have i22 := hS.rng 215 v4_
  refine lv_aload_n F.hx F.hb d_MO_beat_92 rfl (lv_at hl 0 rfl) ?_
  refine lv_aload_n F.hx F.hb d_MO_beat_93 rfl (lv_at hl 0 rfl) ?_
  refine r_get (v := .ref (b + 213)) (N := 68) (T := T1) (j := 36) F hS (show 191 < 231 by decide) (show shK 191 = 5 from rfl) (show shN 191 = 68 from rfl) rfl (Nat.le_of_ble_eq_true rfl) ing1 mw_1425 (fv_sg rfl rfl rfl) d_MO_beat_94 ?_
  refine lv_iload F.hx F.hb d_MO_beat_97 (lv_at hl 4 rfl) ?_
  obtain ⟨⟨g23a, g23b⟩, hT⟩ := q_guard hT
  refine r_iald F hS (show 213 < 231 by decide) (show shK 213 = 0 from rfl) (show shN 213 = 184 from rfl) hv4_ g23a g23b d_MO_beat_99 ?_
  have i24 := hS.rng 213 v4_
  refine lv_iload F.hx F.hb d_MO_beat_100 (lv_at hl 5 rfl) ?_
  obtain ⟨q25, hq25, hT⟩ := q_obind hT
  refine r_backZ F hS (r_runV (k := 191) (N := 68) (T := T1) (As := [vI (M.1 213 v4_), vI v5_]) F hS (show 191 < 231 by decide) (show shK 191 = 5 from rfl) rfl (c_MO_isLine l F.2.2.1 M (M.1 213 v4_) v5_ i24 hv5_ _ hq25) gs_MO_359 hd_MO_isLine ⟨Nat.le_of_ble_eq_true rfl, Nat.le_of_ble_eq_true rfl⟩ rfl hl.1 (Nat.le_of_ble_eq_true rfl) ⟨Nat.zero_le _, Nat.zero_le _⟩ rfl d_MO_beat_102) (fun H locs hS h26 => ?_)
  refine r_if_eq (tgt := 112) F.hx F.hb (inr_z h26) d_MO_beat_105 (by decide) (fun c27 => ?_) (fun c27 => ?_)
  · replace hT := (if_pos c27).symm.trans hT
    refine r_iconst F.hx F.hb d_MO_beat_112 ?_
    exact k_MO_beat_L113 l hlo x1 hx1 F hlk hr bk4 hbk4 M v2_ hv2_ v3_ hv3_ v4_ hv4_ v5_ hv5_ v4_ hv4_ (M.1 215 v4_) i22 0 (Or.inl rfl) _ _ _ hS (lv_sub hl [0, 1, 2, 3, 4, 5] rfl) hT
  · replace hT := (if_neg c27).symm.trans hT
    refine r_iconst F.hx F.hb d_MO_beat_108 ?_
    refine lv_goto (tgt := 113) F.hx F.hb d_MO_beat_109 (by decide) ?_
    exact k_MO_beat_L113 l hlo x1 hx1 F hlk hr bk4 hbk4 M v2_ hv2_ v3_ hv3_ v4_ hv4_ v5_ hv5_ v4_ hv4_ (M.1 215 v4_) i22 1 (Or.inr rfl) _ _ _ hS (lv_sub hl [0, 1, 2, 3, 4, 5] rfl) hT
set_option maxHeartbeats 4000000 in
set_option maxRecDepth 100000 in
theorem k_MO_beat_L34 (l : Launch) {p : Program} {e : Env} {s : State} {m : MethodId} {below : List Frame} {meth : Method} {c : Code} {b n : Nat} {C : CT} (hlo : 231 ≤ n) (x1 : Int) (hx1 : InR x1) (F : Cx b p m c b_MO_beat 6 s ([.ref (b + 191), vI x1] : List Value).toArray "WardFallsModel" C n 231) (hlk : meth.locks = false) (hr : meth.sig.returnType = some .int) {res : Mem × Int} (bk4 : Mem → Int → Int → Option (Mem × Int)) (hbk4 : ∀ (M : Mem) (v2_ : Int) (hv2_ : InR v2_) (v3_ : Int) (hv3_ : InR v3_) (H : Heap) (locs : List Loc) (ls : Array Slot), St b C n M s H locs → lv_has ls 6 [(0, .ref (b + 191)), (1, vI x1), (2, vI v2_), (3, vI v3_)] → bk4 M v2_ v3_ = some res → W p l e (headSpec (wsM y_MO_beat b_MO_beat 6 (some .int)) (rmD 2)).room s m ([.ref (b + 191), vI x1] : List Value).toArray below meth c H locs 0 0 (MQ below (QI b C n res.1 res.2) ([.ref (b + 191), vI x1] : List Value).toArray s 0 0 (frb b)) (F0 m 4 ls [])) (M : Mem) (v2_ : Int) (hv2_ : InR v2_) (v3_ : Int) (hv3_ : InR v3_) (H : Heap) (locs : List Loc) (ls : Array Slot) (hS : St b C n M s H locs) (hl : lv_has ls 6 [(0, .ref (b + 191)), (1, vI x1), (2, vI v2_), (3, vI v3_)]) (hT : t_MO_beat_L34 x1 bk4 M v2_ v3_ = some res) : W p l e (headSpec (wsM y_MO_beat b_MO_beat 6 (some .int)) (rmD 2)).room s m ([.ref (b + 191), vI x1] : List Value).toArray below meth c H locs 0 0 (MQ below (QI b C n res.1 res.2) ([.ref (b + 191), vI x1] : List Value).toArray s 0 0 (frb b)) (F0 m 34 ls []) := by
  unfold t_MO_beat_L34 at hT
  refine r_bipush F.hx F.hb d_MO_beat_34 rfl ?_
  refine lv_iload_n F.hx F.hb d_MO_beat_36 rfl (lv_at hl 1 rfl) ?_
  refine r_imul F.hx F.hb d_MO_beat_37 ?_
  refine lv_iload_n F.hx F.hb d_MO_beat_38 rfl (lv_at hl 3 rfl) ?_
  refine r_iadd F.hx F.hb d_MO_beat_39 ?_
  refine lv_istore (lv' := [(4, vI (w32 ((w32 (8 * x1)) + v3_))), (0, .ref (b + 191)), (1, vI x1), (2, vI v2_), (3, vI v3_)]) F.hx F.hb d_MO_beat_40 hl (Nat.le_of_ble_eq_true rfl) rfl (fun ls hl => ?_)
  refine lv_aload_n F.hx F.hb d_MO_beat_42 rfl (lv_at hl 1 rfl) ?_
  refine lv_iload_n F.hx F.hb d_MO_beat_43 rfl (lv_at hl 2 rfl) ?_
  refine lv_aload_n F.hx F.hb d_MO_beat_44 rfl (lv_at hl 1 rfl) ?_
  refine r_get (v := .ref (b + 213)) (N := 68) (T := T1) (j := 36) F hS (show 191 < 231 by decide) (show shK 191 = 5 from rfl) (show shN 191 = 68 from rfl) rfl (Nat.le_of_ble_eq_true rfl) ing1 mw_1425 (fv_sg rfl rfl rfl) d_MO_beat_45 ?_
  refine lv_iload F.hx F.hb d_MO_beat_48 (lv_at hl 0 rfl) ?_
  obtain ⟨⟨g11a, g11b⟩, hT⟩ := q_guard hT
  refine r_iald F hS (show 213 < 231 by decide) (show shK 213 = 0 from rfl) (show shN 213 = 184 from rfl) (inr_w32 _) g11a g11b d_MO_beat_50 ?_
  have i12 := hS.rng 213 (w32 ((w32 (8 * x1)) + v3_))
  obtain ⟨q13, hq13, hT⟩ := q_obind hT
  refine r_backI F hS (r_runV (k := 191) (N := 68) (T := T1) (As := [vI x1, vI (M.1 213 (w32 ((w32 (8 * x1)) + v3_)))]) F hS (show 191 < 231 by decide) (show shK 191 = 5 from rfl) rfl (c_MO_nextOf l F.2.2.1 M x1 (M.1 213 (w32 ((w32 (8 * x1)) + v3_))) hx1 i12 _ hq13) gs_MO_350 hd_MO_nextOf ⟨Nat.le_of_ble_eq_true rfl, Nat.le_of_ble_eq_true rfl⟩ rfl hl.1 (Nat.le_of_ble_eq_true rfl) ⟨Nat.zero_le _, Nat.zero_le _⟩ rfl d_MO_beat_51) (fun H locs hS h14 => ?_)
  refine lv_istore (lv' := [(5, vI q13), (4, vI (w32 ((w32 (8 * x1)) + v3_))), (0, .ref (b + 191)), (1, vI x1), (2, vI v2_), (3, vI v3_)]) F.hx F.hb d_MO_beat_54 hl (Nat.le_of_ble_eq_true rfl) rfl (fun ls hl => ?_)
  refine lv_iload F.hx F.hb d_MO_beat_56 (lv_at hl 0 rfl) ?_
  refine r_iconst F.hx F.hb d_MO_beat_58 ?_
  refine r_icmp_eq (tgt := 138) F.hx F.hb h14 (inr_c rfl) d_MO_beat_59 (by decide) (fun c15 => ?_) (fun c15 => ?_)
  · replace hT := (if_pos c15).symm.trans hT
    exact k_MO_beat_L138 l hlo x1 hx1 F hlk hr bk4 hbk4 M v2_ hv2_ v3_ hv3_ _ _ _ hS (lv_sub hl [2, 3, 4, 5] rfl) hT
  · replace hT := (if_neg c15).symm.trans hT
    refine lv_aload_n F.hx F.hb d_MO_beat_62 rfl (lv_at hl 2 rfl) ?_
    refine r_get (v := vI (M.1 191 44)) (N := 68) (T := T1) (j := 44) F hS (show 191 < 231 by decide) (show shK 191 = 5 from rfl) (show shN 191 = 68 from rfl) rfl (Nat.le_of_ble_eq_true rfl) ing1 mw_1433 (fv_int rfl) d_MO_beat_63 ?_
    have i16 := hS.rng 191 44
    refine r_iconst F.hx F.hb d_MO_beat_66 ?_
    refine r_icmp_eq (tgt := 84) F.hx F.hb i16 (inr_c rfl) d_MO_beat_67 (by decide) (fun c17 => ?_) (fun c17 => ?_)
    · replace hT := (if_pos c17).symm.trans hT
      exact k_MO_beat_L84 l hlo x1 hx1 F hlk hr bk4 hbk4 M v2_ hv2_ v3_ hv3_ (w32 ((w32 (8 * x1)) + v3_)) (inr_w32 _) q13 h14 _ _ _ hS (lv_sub hl [2, 3, 4, 5, 1, 0] rfl) hT
    · replace hT := (if_neg c17).symm.trans hT
      refine lv_aload_n F.hx F.hb d_MO_beat_70 rfl (lv_at hl 2 rfl) ?_
      refine lv_iload_n F.hx F.hb d_MO_beat_71 rfl (lv_at hl 3 rfl) ?_
      refine lv_iload F.hx F.hb d_MO_beat_72 (lv_at hl 0 rfl) ?_
      obtain ⟨q18, hq18, hT⟩ := q_obind hT
      refine r_backI F hS (r_runV (k := 191) (N := 68) (T := T1) (As := [vI x1, vI q13]) F hS (show 191 < 231 by decide) (show shK 191 = 5 from rfl) rfl (c_MO_thingIn l F.2.2.1 M x1 q13 hx1 h14 _ hq18) gs_MO_363 hd_MO_thingIn ⟨Nat.le_of_ble_eq_true rfl, Nat.le_of_ble_eq_true rfl⟩ rfl hl.1 (Nat.le_of_ble_eq_true rfl) ⟨Nat.zero_le _, Nat.zero_le _⟩ rfl d_MO_beat_74) (fun H locs hS h19 => ?_)
      refine r_iconst F.hx F.hb d_MO_beat_77 ?_
      refine r_icmp_eq (tgt := 84) F.hx F.hb h19 (inr_c rfl) d_MO_beat_78 (by decide) (fun c20 => ?_) (fun c20 => ?_)
      · replace hT := (if_pos c20).symm.trans hT
        exact k_MO_beat_L84 l hlo x1 hx1 F hlk hr bk4 hbk4 M v2_ hv2_ v3_ hv3_ (w32 ((w32 (8 * x1)) + v3_)) (inr_w32 _) q13 h14 _ _ _ hS (lv_sub hl [2, 3, 4, 5, 1, 0] rfl) hT
      · replace hT := (if_neg c20).symm.trans hT
        refine lv_goto (tgt := 138) F.hx F.hb d_MO_beat_81 (by decide) ?_
        exact k_MO_beat_L138 l hlo x1 hx1 F hlk hr bk4 hbk4 M v2_ hv2_ v3_ hv3_ _ _ _ hS (lv_sub hl [2, 3, 4, 5] rfl) hT
set_option maxHeartbeats 4000000 in
set_option maxRecDepth 100000 in
theorem k_MO_beat_L4 (l : Launch) {p : Program} {e : Env} {s : State} {m : MethodId} {below : List Frame} {meth : Method} {c : Code} {b n : Nat} {C : CT} (hlo : 231 ≤ n) (x1 : Int) (hx1 : InR x1) (F : Cx b p m c b_MO_beat 6 s ([.ref (b + 191), vI x1] : List Value).toArray "WardFallsModel" C n 231) (hlk : meth.locks = false) (hr : meth.sig.returnType = some .int) {res : Mem × Int} : ∀ (fu : Nat) (M : Mem) (v2_ : Int) (hv2_ : InR v2_) (v3_ : Int) (hv3_ : InR v3_) (H : Heap) (locs : List Loc) (ls : Array Slot), St b C n M s H locs → lv_has ls 6 [(0, .ref (b + 191)), (1, vI x1), (2, vI v2_), (3, vI v3_)] → t_MO_beat_L4 x1 fu M v2_ v3_ = some res → W p l e (headSpec (wsM y_MO_beat b_MO_beat 6 (some .int)) (rmD 2)).room s m ([.ref (b + 191), vI x1] : List Value).toArray below meth c H locs 0 0 (MQ below (QI b C n res.1 res.2) ([.ref (b + 191), vI x1] : List Value).toArray s 0 0 (frb b)) (F0 m 4 ls []) := by
  intro fu
  induction fu with
  | zero => intro M v2_ hv2_ v3_ hv3_ H locs ls hS hl hT; exact absurd hT (by simp [t_MO_beat_L4])
  | succ fu ih =>
    intro M v2_ hv2_ v3_ hv3_ H locs ls hS hl hT
    rw [t_MO_beat_L4] at hT
    refine lv_iload_n F.hx F.hb d_MO_beat_4 rfl (lv_at hl 3 rfl) ?_
    refine lv_aload_n F.hx F.hb d_MO_beat_5 rfl (lv_at hl 0 rfl) ?_
    refine r_get (v := .ref (b + 193)) (N := 68) (T := T1) (j := 3) F hS (show 191 < 231 by decide) (show shK 191 = 5 from rfl) (show shN 191 = 68 from rfl) rfl (Nat.le_of_ble_eq_true rfl) ing1 mw_1392 (fv_sg rfl rfl rfl) d_MO_beat_6 ?_
    refine r_bipush F.hx F.hb d_MO_beat_9 rfl ?_
    refine r_iald F hS (show 193 < 231 by decide) (show shK 193 = 0 from rfl) (show shN 193 = 18 from rfl) (inr_c rfl) (by omega) (by omega) d_MO_beat_11 ?_
    have i1 := hS.rng 193 6
    refine r_icmp_ge (tgt := 144) F.hx F.hb hv3_ i1 d_MO_beat_12 (by decide) (fun c2 => ?_) (fun c2 => ?_)
    · replace hT := (if_pos c2).symm.trans hT
      refine lv_aload_n F.hx F.hb d_MO_beat_144 rfl (lv_at hl 0 rfl) ?_
      refine r_get (v := .ref (b + 208)) (N := 68) (T := T1) (j := 31) F hS (show 191 < 231 by decide) (show shK 191 = 5 from rfl) (show shN 191 = 68 from rfl) rfl (Nat.le_of_ble_eq_true rfl) ing1 mw_1420 (fv_sg rfl rfl rfl) d_MO_beat_145 ?_
      refine lv_iload_n F.hx F.hb d_MO_beat_148 rfl (lv_at hl 1 rfl) ?_
      refine lv_dup2_11 F.hx F.hb d_MO_beat_149 rfl rfl ?_
      obtain ⟨⟨g3a, g3b⟩, hT⟩ := q_guard hT
      refine r_iald F hS (show 208 < 231 by decide) (show shK 208 = 0 from rfl) (show shN 208 = 23 from rfl) hx1 g3a g3b d_MO_beat_150 ?_
      have i4 := hS.rng 208 x1
      refine r_iconst F.hx F.hb d_MO_beat_151 ?_
      refine r_iadd F.hx F.hb d_MO_beat_152 ?_
      obtain ⟨⟨g5a, g5b⟩, hT⟩ := q_guard hT
      refine r_iast F hS (show 208 < 231 by decide) (show shK 208 = 0 from rfl) (show shN 208 = 23 from rfl) hx1 (inr_w32 _) g5a g5b d_MO_beat_153 (fun H locs hS => ?_)
      obtain ⟨M6, eM6⟩ : ∃ q, q = (setI M 208 x1 (w32 ((M.1 208 x1) + 1))) := ⟨_, rfl⟩
      replace hS : St b C n M6 s H locs := by rw [eM6]; exact hS
      replace hT := qlet_eq hT eM6
      refine lv_iload_n F.hx F.hb d_MO_beat_154 rfl (lv_at hl 2 rfl) ?_
      cases hT
      exact r_iret F hlk hr rfl hS hv2_ d_MO_beat_155
    · replace hT := (if_neg c2).symm.trans hT
      refine lv_aload_n F.hx F.hb d_MO_beat_15 rfl (lv_at hl 0 rfl) ?_
      refine r_get (v := vI (M.1 191 44)) (N := 68) (T := T1) (j := 44) F hS (show 191 < 231 by decide) (show shK 191 = 5 from rfl) (show shN 191 = 68 from rfl) rfl (Nat.le_of_ble_eq_true rfl) ing1 mw_1433 (fv_int rfl) d_MO_beat_16 ?_
      have i7 := hS.rng 191 44
      refine r_iconst F.hx F.hb d_MO_beat_19 ?_
      refine r_icmp_ne (tgt := 34) F.hx F.hb i7 (inr_c rfl) d_MO_beat_20 (by decide) (fun c8 => ?_) (fun c8 => ?_)
      · replace hT := (if_neg c8).symm.trans hT
        exact k_MO_beat_L34 l hlo x1 hx1 F hlk hr (fun a0_ a1_ a2_ => t_MO_beat_L4 x1 fu a0_ a1_ a2_) ih M v2_ hv2_ v3_ hv3_ _ _ _ hS (lv_sub hl [0, 1, 2, 3] rfl) hT
      · replace hT := (if_pos c8).symm.trans hT
        refine lv_aload_n F.hx F.hb d_MO_beat_23 rfl (lv_at hl 0 rfl) ?_
        refine r_get (v := vI (M.1 191 45)) (N := 68) (T := T1) (j := 45) F hS (show 191 < 231 by decide) (show shK 191 = 5 from rfl) (show shN 191 = 68 from rfl) rfl (Nat.le_of_ble_eq_true rfl) ing1 mw_1434 (fv_int rfl) d_MO_beat_24 ?_
        have i9 := hS.rng 191 45
        refine lv_iload_n F.hx F.hb d_MO_beat_27 rfl (lv_at hl 3 rfl) ?_
        refine r_icmp_ne (tgt := 34) F.hx F.hb i9 hv3_ d_MO_beat_28 (by decide) (fun c10 => ?_) (fun c10 => ?_)
        · replace hT := (if_neg c10).symm.trans hT
          exact k_MO_beat_L34 l hlo x1 hx1 F hlk hr (fun a0_ a1_ a2_ => t_MO_beat_L4 x1 fu a0_ a1_ a2_) ih M v2_ hv2_ v3_ hv3_ _ _ _ hS (lv_sub hl [0, 1, 2, 3] rfl) hT
        · replace hT := (if_pos c10).symm.trans hT
          refine lv_goto (tgt := 138) F.hx F.hb d_MO_beat_31 (by decide) ?_
          exact k_MO_beat_L138 l hlo x1 hx1 F hlk hr (fun a0_ a1_ a2_ => t_MO_beat_L4 x1 fu a0_ a1_ a2_) ih M v2_ hv2_ v3_ hv3_ _ _ _ hS (lv_sub hl [0, 1, 2, 3] rfl) hT
set_option maxHeartbeats 4000000 in
set_option maxRecDepth 100000 in
theorem c_MO_beat (l : Launch) {b n : Nat} {C : CT} (hlo : 231 ≤ n) (M : Mem) (x1 : Int) (hx1 : InR x1) (res : Mem × Int) (hT : t_MO_beat M x1 = some res) : CM l b C n 2 y_MO_beat b_MO_beat 6 (some .int) [.ref (b + 191), vI x1] M (QI b C n res.1 res.2) := by
  refine CM.of (lo := 231) (ow := "WardFallsModel") (by decide) rfl (Nat.le_of_ble_eq_true rfl) hlo (fun p e s m below meth c F hlk hr hS ls hl => ?_)
  have hl : lv_has ls 6 [(0, .ref (b + 191)), (1, vI x1)] := hl
  unfold t_MO_beat at hT
  refine r_iconst F.hx F.hb d_MO_beat_0 ?_
  refine lv_istore_n (lv' := [(2, vI 0), (0, .ref (b + 191)), (1, vI x1)]) F.hx F.hb d_MO_beat_1 rfl hl (Nat.le_of_ble_eq_true rfl) rfl (fun ls hl => ?_)
  refine r_iconst F.hx F.hb d_MO_beat_2 ?_
  refine lv_istore_n (lv' := [(3, vI 0), (2, vI 0), (0, .ref (b + 191)), (1, vI x1)]) F.hx F.hb d_MO_beat_3 rfl hl (Nat.le_of_ble_eq_true rfl) rfl (fun ls hl => ?_)
  exact k_MO_beat_L4 l hlo x1 hx1 F hlk hr FU M 0 (inr_c rfl) 0 (inr_c rfl) _ _ _ hS (lv_sub hl [2, 3, 1, 0] rfl) hT
theorem d_MO_beats_0 : decode b_MO_beats 0 = .ok (.aload_n 0, 1) := dc_42 (by decide +kernel)
theorem d_MO_beats_1 : decode b_MO_beats 1 = .ok (.iconst 0, 1) := dc_3 (by decide +kernel)
theorem d_MO_beats_2 : decode b_MO_beats 2 = .ok (.putfield 145, 3) := dc_181 (by decide +kernel)
theorem d_MO_beats_5 : decode b_MO_beats 5 = .ok (.iload_n 1, 1) := dc_27 (by decide +kernel)
theorem d_MO_beats_6 : decode b_MO_beats 6 = .ok (.ifCond .lt 10, 3) := dc_155 (by decide +kernel)
theorem d_MO_beats_9 : decode b_MO_beats 9 = .ok (.iload_n 1, 1) := dc_27 (by decide +kernel)
theorem d_MO_beats_10 : decode b_MO_beats 10 = .ok (.sipush 200, 3) := dc_17 (by decide +kernel)
theorem d_MO_beats_13 : decode b_MO_beats 13 = .ok (.if_icmp .le 5, 3) := dc_164 (by decide +kernel)
theorem d_MO_beats_16 : decode b_MO_beats 16 = .ok (.iconst (-1), 1) := dc_2 (by decide +kernel)
theorem d_MO_beats_17 : decode b_MO_beats 17 = .ok (.ireturn, 1) := dc_172 (by decide +kernel)
theorem d_MO_beats_18 : decode b_MO_beats 18 = .ok (.iload_n 1, 1) := dc_27 (by decide +kernel)
theorem d_MO_beats_19 : decode b_MO_beats 19 = .ok (.ifCond .le 8, 3) := dc_158 (by decide +kernel)
theorem d_MO_beats_22 : decode b_MO_beats 22 = .ok (.aload_n 0, 1) := dc_42 (by decide +kernel)
theorem d_MO_beats_23 : decode b_MO_beats 23 = .ok (.iconst 0, 1) := dc_3 (by decide +kernel)
theorem d_MO_beats_24 : decode b_MO_beats 24 = .ok (.putfield 326, 3) := dc_181 (by decide +kernel)
theorem d_MO_beats_27 : decode b_MO_beats 27 = .ok (.iconst 0, 1) := dc_3 (by decide +kernel)
theorem d_MO_beats_28 : decode b_MO_beats 28 = .ok (.istore_n 2, 1) := dc_61 (by decide +kernel)
theorem d_MO_beats_29 : decode b_MO_beats 29 = .ok (.iconst 0, 1) := dc_3 (by decide +kernel)
theorem d_MO_beats_30 : decode b_MO_beats 30 = .ok (.istore_n 3, 1) := dc_62 (by decide +kernel)
theorem d_MO_beats_31 : decode b_MO_beats 31 = .ok (.iload_n 3, 1) := dc_29 (by decide +kernel)
theorem d_MO_beats_32 : decode b_MO_beats 32 = .ok (.iload_n 1, 1) := dc_27 (by decide +kernel)
theorem d_MO_beats_33 : decode b_MO_beats 33 = .ok (.if_icmp .ge 17, 3) := dc_162 (by decide +kernel)
theorem d_MO_beats_36 : decode b_MO_beats 36 = .ok (.iload_n 2, 1) := dc_28 (by decide +kernel)
theorem d_MO_beats_37 : decode b_MO_beats 37 = .ok (.aload_n 0, 1) := dc_42 (by decide +kernel)
theorem d_MO_beats_38 : decode b_MO_beats 38 = .ok (.iconst 0, 1) := dc_3 (by decide +kernel)
theorem d_MO_beats_39 : decode b_MO_beats 39 = .ok (.invokevirtual 434, 3) := dc_182 (by decide +kernel)
theorem d_MO_beats_42 : decode b_MO_beats 42 = .ok (.iadd, 1) := dc_96 (by decide +kernel)
theorem d_MO_beats_43 : decode b_MO_beats 43 = .ok (.istore_n 2, 1) := dc_61 (by decide +kernel)
theorem d_MO_beats_44 : decode b_MO_beats 44 = .ok (.iinc 3 1, 3) := dc_132 (by decide +kernel)
theorem d_MO_beats_47 : decode b_MO_beats 47 = .ok (.goto (-16), 3) := dc_167 (by decide +kernel)
theorem d_MO_beats_50 : decode b_MO_beats 50 = .ok (.iload_n 2, 1) := dc_28 (by decide +kernel)
theorem d_MO_beats_51 : decode b_MO_beats 51 = .ok (.ireturn, 1) := dc_172 (by decide +kernel)
def t_MO_beats_L31 (x1 : Int)  : Nat → Mem → Int → Int → Option (Mem × Int)
  | 0, _, _, _ => none
  | fu + 1, M, v2_, v3_ => (if x1 ≤ v3_ then (some (M, v2_)) else (obind (t_MO_beat M 0) fun q7 => (t_MO_beats_L31 x1 fu (q7.1) (w32 (v2_ + (q7.2))) (w32 (v3_ + 1)))))
def t_MO_beats_L27 (x1 : Int)  (M : Mem)  : Option (Mem × Int) := (t_MO_beats_L31 x1 FU M 0 0)
def t_MO_beats (M : Mem) (x1 : Int) : Option (Mem × Int) := (qlet (setI M 191 0 0) fun M1 => (if x1 < 0 then (some (M1, (-1))) else (if x1 ≤ 200 then (if x1 ≤ 0 then (t_MO_beats_L27 x1 M1) else (qlet (setI M1 191 43 0) fun M5 => (t_MO_beats_L27 x1 M5))) else (some (M1, (-1))))))
set_option maxHeartbeats 4000000 in
set_option maxRecDepth 100000 in
theorem k_MO_beats_L31 (l : Launch) {p : Program} {e : Env} {s : State} {m : MethodId} {below : List Frame} {meth : Method} {c : Code} {b n : Nat} {C : CT} (hlo : 231 ≤ n) (x1 : Int) (hx1 : InR x1) (F : Cx b p m c b_MO_beats 4 s ([.ref (b + 191), vI x1] : List Value).toArray "WardFallsModel" C n 231) (hlk : meth.locks = false) (hr : meth.sig.returnType = some .int) {res : Mem × Int} : ∀ (fu : Nat) (M : Mem) (v2_ : Int) (hv2_ : InR v2_) (v3_ : Int) (hv3_ : InR v3_) (H : Heap) (locs : List Loc) (ls : Array Slot), St b C n M s H locs → lv_has ls 4 [(0, .ref (b + 191)), (1, vI x1), (2, vI v2_), (3, vI v3_)] → t_MO_beats_L31 x1 fu M v2_ v3_ = some res → W p l e (headSpec (wsM y_MO_beats b_MO_beats 4 (some .int)) (rmD 3)).room s m ([.ref (b + 191), vI x1] : List Value).toArray below meth c H locs 0 0 (MQ below (QI b C n res.1 res.2) ([.ref (b + 191), vI x1] : List Value).toArray s 0 0 (frb b)) (F0 m 31 ls []) := by
  intro fu
  induction fu with
  | zero => intro M v2_ hv2_ v3_ hv3_ H locs ls hS hl hT; exact absurd hT (by simp [t_MO_beats_L31])
  | succ fu ih =>
    intro M v2_ hv2_ v3_ hv3_ H locs ls hS hl hT
    rw [t_MO_beats_L31] at hT
    refine lv_iload_n F.hx F.hb d_MO_beats_31 rfl (lv_at hl 3 rfl) ?_
    refine lv_iload_n F.hx F.hb d_MO_beats_32 rfl (lv_at hl 1 rfl) ?_
    refine r_icmp_ge (tgt := 50) F.hx F.hb hv3_ hx1 d_MO_beats_33 (by decide) (fun c6 => ?_) (fun c6 => ?_)
    · replace hT := (if_pos c6).symm.trans hT
      refine lv_iload_n F.hx F.hb d_MO_beats_50 rfl (lv_at hl 2 rfl) ?_
      cases hT
      exact r_iret F hlk hr rfl hS hv2_ d_MO_beats_51
    · replace hT := (if_neg c6).symm.trans hT
      refine lv_iload_n F.hx F.hb d_MO_beats_36 rfl (lv_at hl 2 rfl) ?_
      refine lv_aload_n F.hx F.hb d_MO_beats_37 rfl (lv_at hl 0 rfl) ?_
      refine r_iconst F.hx F.hb d_MO_beats_38 ?_
      obtain ⟨q7, hq7, hT⟩ := q_obind hT
      refine r_backI F hS (r_runV (k := 191) (N := 68) (T := T1) (As := [vI 0]) F hS (show 191 < 231 by decide) (show shK 191 = 5 from rfl) rfl (c_MO_beat l F.2.2.1 M 0 (inr_c rfl) _ hq7) gs_MO_434 hd_MO_beat ⟨Nat.le_of_ble_eq_true rfl, Nat.le_of_ble_eq_true rfl⟩ rfl hl.1 (Nat.le_of_ble_eq_true rfl) ⟨Nat.zero_le _, Nat.zero_le _⟩ rfl d_MO_beats_39) (fun H locs hS h8 => ?_)
      refine r_iadd F.hx F.hb d_MO_beats_42 ?_
      refine lv_istore_n (lv' := [(2, vI (w32 (v2_ + (q7.2)))), (0, .ref (b + 191)), (1, vI x1), (3, vI v3_)]) F.hx F.hb d_MO_beats_43 rfl hl (Nat.le_of_ble_eq_true rfl) rfl (fun ls hl => ?_)
      refine lv_iinc (v := Int32.ofInt (w32 (v3_ + 1))) (lv' := [(3, vI (w32 (v3_ + 1))), (2, vI (w32 (v2_ + (q7.2)))), (0, .ref (b + 191)), (1, vI x1)]) F.hx F.hb d_MO_beats_44 hl (k := 3) rfl (q_of_add _ _) (Nat.le_of_ble_eq_true rfl) rfl (fun ls hl => ?_)
      refine lv_goto (tgt := 31) F.hx F.hb d_MO_beats_47 (by decide) ?_
      exact ih (q7.1) (w32 (v2_ + (q7.2))) (inr_w32 _) (w32 (v3_ + 1)) (inr_w32 _) _ _ _ hS (lv_sub hl [2, 3, 1, 0] rfl) hT
set_option maxHeartbeats 4000000 in
set_option maxRecDepth 100000 in
theorem k_MO_beats_L27 (l : Launch) {p : Program} {e : Env} {s : State} {m : MethodId} {below : List Frame} {meth : Method} {c : Code} {b n : Nat} {C : CT} (hlo : 231 ≤ n) (x1 : Int) (hx1 : InR x1) (F : Cx b p m c b_MO_beats 4 s ([.ref (b + 191), vI x1] : List Value).toArray "WardFallsModel" C n 231) (hlk : meth.locks = false) (hr : meth.sig.returnType = some .int) {res : Mem × Int} (M : Mem)  (H : Heap) (locs : List Loc) (ls : Array Slot) (hS : St b C n M s H locs) (hl : lv_has ls 4 [(0, .ref (b + 191)), (1, vI x1)]) (hT : t_MO_beats_L27 x1 M = some res) : W p l e (headSpec (wsM y_MO_beats b_MO_beats 4 (some .int)) (rmD 3)).room s m ([.ref (b + 191), vI x1] : List Value).toArray below meth c H locs 0 0 (MQ below (QI b C n res.1 res.2) ([.ref (b + 191), vI x1] : List Value).toArray s 0 0 (frb b)) (F0 m 27 ls []) := by
  unfold t_MO_beats_L27 at hT
  refine r_iconst F.hx F.hb d_MO_beats_27 ?_
  refine lv_istore_n (lv' := [(2, vI 0), (0, .ref (b + 191)), (1, vI x1)]) F.hx F.hb d_MO_beats_28 rfl hl (Nat.le_of_ble_eq_true rfl) rfl (fun ls hl => ?_)
  refine r_iconst F.hx F.hb d_MO_beats_29 ?_
  refine lv_istore_n (lv' := [(3, vI 0), (2, vI 0), (0, .ref (b + 191)), (1, vI x1)]) F.hx F.hb d_MO_beats_30 rfl hl (Nat.le_of_ble_eq_true rfl) rfl (fun ls hl => ?_)
  exact k_MO_beats_L31 l hlo x1 hx1 F hlk hr FU M 0 (inr_c rfl) 0 (inr_c rfl) _ _ _ hS (lv_sub hl [2, 3, 1, 0] rfl) hT
set_option maxHeartbeats 4000000 in
set_option maxRecDepth 100000 in
theorem c_MO_beats (l : Launch) {b n : Nat} {C : CT} (hlo : 231 ≤ n) (M : Mem) (x1 : Int) (hx1 : InR x1) (res : Mem × Int) (hT : t_MO_beats M x1 = some res) : CM l b C n 3 y_MO_beats b_MO_beats 4 (some .int) [.ref (b + 191), vI x1] M (QI b C n res.1 res.2) := by
  refine CM.of (lo := 231) (ow := "WardFallsModel") (by decide) rfl (Nat.le_of_ble_eq_true rfl) hlo (fun p e s m below meth c F hlk hr hS ls hl => ?_)
  have hl : lv_has ls 4 [(0, .ref (b + 191)), (1, vI x1)] := hl
  unfold t_MO_beats at hT
  refine lv_aload_n F.hx F.hb d_MO_beats_0 rfl (lv_at hl 0 rfl) ?_
  refine r_iconst F.hx F.hb d_MO_beats_1 ?_
  refine r_putI (N := 68) (T := T1) (j := 0) F hS (show 191 < 231 by decide) (show shK 191 = 5 from rfl) (show shN 191 = 68 from rfl) rfl (Nat.le_of_ble_eq_true rfl) ing1 tyok1 nm1 rfl rfl rfl rfl rfl rfl mw_1389 (inr_c rfl) d_MO_beats_2 (fun H locs hS => ?_)
  obtain ⟨M1, eM1⟩ : ∃ q, q = (setI M 191 0 0) := ⟨_, rfl⟩
  replace hS : St b C n M1 s H locs := by rw [eM1]; exact hS
  replace hT := qlet_eq hT eM1
  refine lv_iload_n F.hx F.hb d_MO_beats_5 rfl (lv_at hl 1 rfl) ?_
  refine r_if_lt (tgt := 16) F.hx F.hb hx1 d_MO_beats_6 (by decide) (fun c2 => ?_) (fun c2 => ?_)
  · replace hT := (if_pos c2).symm.trans hT
    refine r_iconst F.hx F.hb d_MO_beats_16 ?_
    cases hT
    exact r_iret F hlk hr rfl hS (inr_c rfl) d_MO_beats_17
  · replace hT := (if_neg c2).symm.trans hT
    refine lv_iload_n F.hx F.hb d_MO_beats_9 rfl (lv_at hl 1 rfl) ?_
    refine r_sipush F.hx F.hb d_MO_beats_10 rfl ?_
    refine r_icmp_le (tgt := 18) F.hx F.hb hx1 (inr_c rfl) d_MO_beats_13 (by decide) (fun c3 => ?_) (fun c3 => ?_)
    · replace hT := (if_pos c3).symm.trans hT
      refine lv_iload_n F.hx F.hb d_MO_beats_18 rfl (lv_at hl 1 rfl) ?_
      refine r_if_le (tgt := 27) F.hx F.hb hx1 d_MO_beats_19 (by decide) (fun c4 => ?_) (fun c4 => ?_)
      · replace hT := (if_pos c4).symm.trans hT
        exact k_MO_beats_L27 l hlo x1 hx1 F hlk hr M1 _ _ _ hS (lv_sub hl [0, 1] rfl) hT
      · replace hT := (if_neg c4).symm.trans hT
        refine lv_aload_n F.hx F.hb d_MO_beats_22 rfl (lv_at hl 0 rfl) ?_
        refine r_iconst F.hx F.hb d_MO_beats_23 ?_
        refine r_putI (N := 68) (T := T1) (j := 43) F hS (show 191 < 231 by decide) (show shK 191 = 5 from rfl) (show shN 191 = 68 from rfl) rfl (Nat.le_of_ble_eq_true rfl) ing1 tyok1 nm1 rfl rfl rfl rfl rfl rfl mw_1432 (inr_c rfl) d_MO_beats_24 (fun H locs hS => ?_)
        obtain ⟨M5, eM5⟩ : ∃ q, q = (setI M1 191 43 0) := ⟨_, rfl⟩
        replace hS : St b C n M5 s H locs := by rw [eM5]; exact hS
        replace hT := qlet_eq hT eM5
        exact k_MO_beats_L27 l hlo x1 hx1 F hlk hr M5 _ _ _ hS (lv_sub hl [0, 1] rfl) hT
    · replace hT := (if_neg c3).symm.trans hT
      refine r_iconst F.hx F.hb d_MO_beats_16 ?_
      cases hT
      exact r_iret F hlk hr rfl hS (inr_c rfl) d_MO_beats_17
