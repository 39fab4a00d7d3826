theorem d_MO_isPushed_0 : decode b_MO_isPushed 0 = .ok (.aload_n 0, 1) := dc_42 (by decide +kernel)
theorem d_MO_isPushed_1 : decode b_MO_isPushed 1 = .ok (.iload_n 1, 1) := dc_27 (by decide +kernel)
theorem d_MO_isPushed_2 : decode b_MO_isPushed 2 = .ok (.iload_n 2, 1) := dc_28 (by decide +kernel)
theorem d_MO_isPushed_3 : decode b_MO_isPushed 3 = .ok (.invokevirtual 338, 3) := dc_182 (by decide +kernel)
theorem d_MO_isPushed_6 : decode b_MO_isPushed 6 = .ok (.istore_n 3, 1) := dc_62 (by decide +kernel)
theorem d_MO_isPushed_7 : decode b_MO_isPushed 7 = .ok (.iload_n 3, 1) := dc_29 (by decide +kernel)
theorem d_MO_isPushed_8 : decode b_MO_isPushed 8 = .ok (.iconst (-1), 1) := dc_2 (by decide +kernel)
theorem d_MO_isPushed_9 : decode b_MO_isPushed 9 = .ok (.if_icmp .eq 55, 3) := dc_159 (by decide +kernel)
theorem d_MO_isPushed_12 : decode b_MO_isPushed 12 = .ok (.aload_n 0, 1) := dc_42 (by decide +kernel)
theorem d_MO_isPushed_13 : decode b_MO_isPushed 13 = .ok (.getfield 28, 3) := dc_180 (by decide +kernel)
theorem d_MO_isPushed_16 : decode b_MO_isPushed 16 = .ok (.iload_n 3, 1) := dc_29 (by decide +kernel)
theorem d_MO_isPushed_17 : decode b_MO_isPushed 17 = .ok (.baload, 1) := dc_51 (by decide +kernel)
theorem d_MO_isPushed_18 : decode b_MO_isPushed 18 = .ok (.ifCond .ne 46, 3) := dc_154 (by decide +kernel)
theorem d_MO_isPushed_21 : decode b_MO_isPushed 21 = .ok (.aload_n 0, 1) := dc_42 (by decide +kernel)
theorem d_MO_isPushed_22 : decode b_MO_isPushed 22 = .ok (.getfield 112, 3) := dc_180 (by decide +kernel)
theorem d_MO_isPushed_25 : decode b_MO_isPushed 25 = .ok (.iload_n 3, 1) := dc_29 (by decide +kernel)
theorem d_MO_isPushed_26 : decode b_MO_isPushed 26 = .ok (.iaload, 1) := dc_46 (by decide +kernel)
theorem d_MO_isPushed_27 : decode b_MO_isPushed 27 = .ok (.aload_n 0, 1) := dc_42 (by decide +kernel)
theorem d_MO_isPushed_28 : decode b_MO_isPushed 28 = .ok (.getfield 112, 3) := dc_180 (by decide +kernel)
theorem d_MO_isPushed_31 : decode b_MO_isPushed 31 = .ok (.iload_n 1, 1) := dc_27 (by decide +kernel)
theorem d_MO_isPushed_32 : decode b_MO_isPushed 32 = .ok (.iaload, 1) := dc_46 (by decide +kernel)
theorem d_MO_isPushed_33 : decode b_MO_isPushed 33 = .ok (.iconst 1, 1) := dc_4 (by decide +kernel)
theorem d_MO_isPushed_34 : decode b_MO_isPushed 34 = .ok (.isub, 1) := dc_100 (by decide +kernel)
theorem d_MO_isPushed_35 : decode b_MO_isPushed 35 = .ok (.if_icmp .ne 29, 3) := dc_160 (by decide +kernel)
theorem d_MO_isPushed_38 : decode b_MO_isPushed 38 = .ok (.aload_n 0, 1) := dc_42 (by decide +kernel)
theorem d_MO_isPushed_39 : decode b_MO_isPushed 39 = .ok (.getfield 115, 3) := dc_180 (by decide +kernel)
theorem d_MO_isPushed_42 : decode b_MO_isPushed 42 = .ok (.iload_n 3, 1) := dc_29 (by decide +kernel)
theorem d_MO_isPushed_43 : decode b_MO_isPushed 43 = .ok (.iaload, 1) := dc_46 (by decide +kernel)
theorem d_MO_isPushed_44 : decode b_MO_isPushed 44 = .ok (.aload_n 0, 1) := dc_42 (by decide +kernel)
theorem d_MO_isPushed_45 : decode b_MO_isPushed 45 = .ok (.iload_n 1, 1) := dc_27 (by decide +kernel)
theorem d_MO_isPushed_46 : decode b_MO_isPushed 46 = .ok (.iload_n 2, 1) := dc_28 (by decide +kernel)
theorem d_MO_isPushed_47 : decode b_MO_isPushed 47 = .ok (.invokevirtual 468, 3) := dc_182 (by decide +kernel)
theorem d_MO_isPushed_50 : decode b_MO_isPushed 50 = .ok (.iadd, 1) := dc_96 (by decide +kernel)
theorem d_MO_isPushed_51 : decode b_MO_isPushed 51 = .ok (.aload_n 0, 1) := dc_42 (by decide +kernel)
theorem d_MO_isPushed_52 : decode b_MO_isPushed 52 = .ok (.getfield 115, 3) := dc_180 (by decide +kernel)
theorem d_MO_isPushed_55 : decode b_MO_isPushed 55 = .ok (.iload_n 1, 1) := dc_27 (by decide +kernel)
theorem d_MO_isPushed_56 : decode b_MO_isPushed 56 = .ok (.iaload, 1) := dc_46 (by decide +kernel)
theorem d_MO_isPushed_57 : decode b_MO_isPushed 57 = .ok (.if_icmp .ne 7, 3) := dc_160 (by decide +kernel)
theorem d_MO_isPushed_60 : decode b_MO_isPushed 60 = .ok (.iconst 1, 1) := dc_4 (by decide +kernel)
theorem d_MO_isPushed_61 : decode b_MO_isPushed 61 = .ok (.goto 4, 3) := dc_167 (by decide +kernel)
theorem d_MO_isPushed_64 : decode b_MO_isPushed 64 = .ok (.iconst 0, 1) := dc_3 (by decide +kernel)
theorem d_MO_isPushed_65 : decode b_MO_isPushed 65 = .ok (.ireturn, 1) := dc_172 (by decide +kernel)
def t_MO_isPushed (M : Mem) (x1 : Int) (x2 : Int) : Option (Mem × Int) := (obind (t_MO_beside M x1 x2) fun q1 => (if q1 = (-1) then (some (M, 0)) else (qguard (0 ≤ q1 ∧ q1 < 96) (if (M.1 198 q1) = 0 then (qguard (0 ≤ q1 ∧ q1 < 48) (qguard (0 ≤ x1 ∧ x1 < 48) (if (M.1 222 q1) = (w32 ((M.1 222 x1) - 1)) then (qguard (0 ≤ q1 ∧ q1 < 48) (obind (t_MO_pushOf M x1 x2) fun q14 => (qguard (0 ≤ x1 ∧ x1 < 48) (if (w32 ((M.1 223 q1) + (q14.2))) = ((q14.1).1 223 x1) then (some ((q14.1), 1)) else (some ((q14.1), 0)))))) else (some (M, 0))))) else (some (M, 0))))))
set_option maxHeartbeats 4000000 in
set_option maxRecDepth 100000 in
theorem c_MO_isPushed (l : Launch) {b n : Nat} {C : CT} (hlo : 231 ≤ n) (M : Mem) (x1 : Int) (x2 : Int) (hx1 : InR x1) (hx2 : InR x2) (res : Mem × Int) (hT : t_MO_isPushed M x1 x2 = some res) : CM l b C n 5 y_MO_isPushed b_MO_isPushed 4 (some .boolean) [.ref (b + 191), vI x1, vI x2] M (QZ b C n res.1 res.2) := by
  refine CM.of (lo := 231) (ow := "WardFallsModel") (by decide) rfl (Nat.le_of_ble_eq_true rfl) hlo (fun p e s m below meth c F hlk hr hS ls hl => ?_)
  have hl : lv_has ls 4 [(0, .ref (b + 191)), (1, vI x1), (2, vI x2)] := hl
  unfold t_MO_isPushed at hT
  refine lv_aload_n F.hx F.hb d_MO_isPushed_0 rfl (lv_at hl 0 rfl) ?_
  refine lv_iload_n F.hx F.hb d_MO_isPushed_1 rfl (lv_at hl 1 rfl) ?_
  refine lv_iload_n F.hx F.hb d_MO_isPushed_2 rfl (lv_at hl 2 rfl) ?_
  obtain ⟨q1, hq1, hT⟩ := q_obind hT
  refine r_backI F hS (r_runV (k := 191) (N := 68) (T := T1) (As := [vI x1, vI x2]) F hS (show 191 < 231 by decide) (show shK 191 = 5 from rfl) rfl (c_MO_beside l F.2.2.1 M x1 x2 hx1 hx2 _ hq1) gs_MO_338 hd_MO_beside ⟨Nat.le_of_ble_eq_true rfl, Nat.le_of_ble_eq_true rfl⟩ rfl hl.1 (Nat.le_of_ble_eq_true rfl) ⟨Nat.zero_le _, Nat.zero_le _⟩ rfl d_MO_isPushed_3) (fun H locs hS h2 => ?_)
  refine lv_istore_n (lv' := [(3, vI q1), (0, .ref (b + 191)), (1, vI x1), (2, vI x2)]) F.hx F.hb d_MO_isPushed_6 rfl hl (Nat.le_of_ble_eq_true rfl) rfl (fun ls hl => ?_)
  refine lv_iload_n F.hx F.hb d_MO_isPushed_7 rfl (lv_at hl 0 rfl) ?_
  refine r_iconst F.hx F.hb d_MO_isPushed_8 ?_
  refine r_icmp_eq (tgt := 64) F.hx F.hb h2 (inr_c rfl) d_MO_isPushed_9 (by decide) (fun c3 => ?_) (fun c3 => ?_)
  · replace hT := (if_pos c3).symm.trans hT
    refine r_iconst F.hx F.hb d_MO_isPushed_64 ?_
    cases hT
    exact r_zret F hlk hr hS (Or.inl rfl) d_MO_isPushed_65
  · replace hT := (if_neg c3).symm.trans hT
    refine lv_aload_n F.hx F.hb d_MO_isPushed_12 rfl (lv_at hl 1 rfl) ?_
    refine r_get (v := .ref (b + 198)) (N := 68) (T := T1) (j := 8) F hS (show 191 < 231 by decide) (show shK 191 = 5 from rfl) (show shN 191 = 68 from rfl) rfl (Nat.le_of_ble_eq_true rfl) ing1 mw_1397 (fv_sg rfl rfl rfl) d_MO_isPushed_13 ?_
    refine lv_iload_n F.hx F.hb d_MO_isPushed_16 rfl (lv_at hl 0 rfl) ?_
    obtain ⟨⟨g4a, g4b⟩, hT⟩ := q_guard hT
    have z5 := hS.bool (show shK 198 = 1 from rfl) q1
    refine r_zald F hS (show 198 < 231 by decide) (show shK 198 = 1 from rfl) (show shN 198 = 96 from rfl) h2 g4a g4b d_MO_isPushed_17 ?_
    refine r_if_ne (tgt := 64) F.hx F.hb (inr_z z5) d_MO_isPushed_18 (by decide) (fun c6 => ?_) (fun c6 => ?_)
    · replace hT := (if_neg c6).symm.trans hT
      refine r_iconst F.hx F.hb d_MO_isPushed_64 ?_
      cases hT
      exact r_zret F hlk hr hS (Or.inl rfl) d_MO_isPushed_65
    · replace hT := (if_pos c6).symm.trans hT
      refine lv_aload_n F.hx F.hb d_MO_isPushed_21 rfl (lv_at hl 1 rfl) ?_
      refine r_get (v := .ref (b + 222)) (N := 68) (T := T1) (j := 55) F hS (show 191 < 231 by decide) (show shK 191 = 5 from rfl) (show shN 191 = 68 from rfl) rfl (Nat.le_of_ble_eq_true rfl) ing1 mw_1444 (fv_sg rfl rfl rfl) d_MO_isPushed_22 ?_
      refine lv_iload_n F.hx F.hb d_MO_isPushed_25 rfl (lv_at hl 0 rfl) ?_
      obtain ⟨⟨g7a, g7b⟩, hT⟩ := q_guard hT
      refine r_iald F hS (show 222 < 231 by decide) (show shK 222 = 0 from rfl) (show shN 222 = 48 from rfl) h2 g7a g7b d_MO_isPushed_26 ?_
      have i8 := hS.rng 222 q1
      refine lv_aload_n F.hx F.hb d_MO_isPushed_27 rfl (lv_at hl 1 rfl) ?_
      refine r_get (v := .ref (b + 222)) (N := 68) (T := T1) (j := 55) F hS (show 191 < 231 by decide) (show shK 191 = 5 from rfl) (show shN 191 = 68 from rfl) rfl (Nat.le_of_ble_eq_true rfl) ing1 mw_1444 (fv_sg rfl rfl rfl) d_MO_isPushed_28 ?_
      refine lv_iload_n F.hx F.hb d_MO_isPushed_31 rfl (lv_at hl 2 rfl) ?_
      obtain ⟨⟨g9a, g9b⟩, hT⟩ := q_guard hT
      refine r_iald F hS (show 222 < 231 by decide) (show shK 222 = 0 from rfl) (show shN 222 = 48 from rfl) hx1 g9a g9b d_MO_isPushed_32 ?_
      have i10 := hS.rng 222 x1
      refine r_iconst F.hx F.hb d_MO_isPushed_33 ?_
      refine r_isub F.hx F.hb d_MO_isPushed_34 ?_
      refine r_icmp_ne (tgt := 64) F.hx F.hb i8 (inr_w32 _) d_MO_isPushed_35 (by decide) (fun c11 => ?_) (fun c11 => ?_)
      · replace hT := (if_neg c11).symm.trans hT
        refine r_iconst F.hx F.hb d_MO_isPushed_64 ?_
        cases hT
        exact r_zret F hlk hr hS (Or.inl rfl) d_MO_isPushed_65
      · replace hT := (if_pos c11).symm.trans hT
        refine lv_aload_n F.hx F.hb d_MO_isPushed_38 rfl (lv_at hl 1 rfl) ?_
        refine r_get (v := .ref (b + 223)) (N := 68) (T := T1) (j := 56) F hS (show 191 < 231 by decide) (show shK 191 = 5 from rfl) (show shN 191 = 68 from rfl) rfl (Nat.le_of_ble_eq_true rfl) ing1 mw_1445 (fv_sg rfl rfl rfl) d_MO_isPushed_39 ?_
        refine lv_iload_n F.hx F.hb d_MO_isPushed_42 rfl (lv_at hl 0 rfl) ?_
        obtain ⟨⟨g12a, g12b⟩, hT⟩ := q_guard hT
        refine r_iald F hS (show 223 < 231 by decide) (show shK 223 = 0 from rfl) (show shN 223 = 48 from rfl) h2 g12a g12b d_MO_isPushed_43 ?_
        have i13 := hS.rng 223 q1
        refine lv_aload_n F.hx F.hb d_MO_isPushed_44 rfl (lv_at hl 1 rfl) ?_
        refine lv_iload_n F.hx F.hb d_MO_isPushed_45 rfl (lv_at hl 2 rfl) ?_
        refine lv_iload_n F.hx F.hb d_MO_isPushed_46 rfl (lv_at hl 3 rfl) ?_
        obtain ⟨q14, hq14, hT⟩ := q_obind hT
        refine r_backI F hS (r_runV (k := 191) (N := 68) (T := T1) (As := [vI x1, vI x2]) F hS (show 191 < 231 by decide) (show shK 191 = 5 from rfl) rfl (c_MO_pushOf l F.2.2.1 M x1 x2 hx1 hx2 _ hq14) gs_MO_468 hd_MO_pushOf ⟨Nat.le_of_ble_eq_true rfl, Nat.le_of_ble_eq_true rfl⟩ rfl hl.1 (Nat.le_of_ble_eq_true rfl) ⟨Nat.zero_le _, Nat.zero_le _⟩ rfl d_MO_isPushed_47) (fun H locs hS h15 => ?_)
        refine r_iadd F.hx F.hb d_MO_isPushed_50 ?_
        refine lv_aload_n F.hx F.hb d_MO_isPushed_51 rfl (lv_at hl 1 rfl) ?_
        refine r_get (v := .ref (b + 223)) (N := 68) (T := T1) (j := 56) F hS (show 191 < 231 by decide) (show shK 191 = 5 from rfl) (show shN 191 = 68 from rfl) rfl (Nat.le_of_ble_eq_true rfl) ing1 mw_1445 (fv_sg rfl rfl rfl) d_MO_isPushed_52 ?_
        refine lv_iload_n F.hx F.hb d_MO_isPushed_55 rfl (lv_at hl 2 rfl) ?_
        obtain ⟨⟨g16a, g16b⟩, hT⟩ := q_guard hT
        refine r_iald F hS (show 223 < 231 by decide) (show shK 223 = 0 from rfl) (show shN 223 = 48 from rfl) hx1 g16a g16b d_MO_isPushed_56 ?_
        have i17 := hS.rng 223 x1
        refine r_icmp_ne (tgt := 64) F.hx F.hb (inr_w32 _) i17 d_MO_isPushed_57 (by decide) (fun c18 => ?_) (fun c18 => ?_)
        · replace hT := (if_neg c18).symm.trans hT
          refine r_iconst F.hx F.hb d_MO_isPushed_64 ?_
          cases hT
          exact r_zret F hlk hr hS (Or.inl rfl) d_MO_isPushed_65
        · replace hT := (if_pos c18).symm.trans hT
          refine r_iconst F.hx F.hb d_MO_isPushed_60 ?_
          refine lv_goto (tgt := 65) F.hx F.hb d_MO_isPushed_61 (by decide) ?_
          cases hT
          exact r_zret F hlk hr hS (Or.inr rfl) d_MO_isPushed_65
theorem d_MO_pushed_0 : decode b_MO_pushed 0 = .ok (.aload_n 0, 1) := dc_42 (by decide +kernel)
theorem d_MO_pushed_1 : decode b_MO_pushed 1 = .ok (.iconst 0, 1) := dc_3 (by decide +kernel)
theorem d_MO_pushed_2 : decode b_MO_pushed 2 = .ok (.putfield 145, 3) := dc_181 (by decide +kernel)
theorem d_MO_pushed_5 : decode b_MO_pushed 5 = .ok (.aload_n 0, 1) := dc_42 (by decide +kernel)
theorem d_MO_pushed_6 : decode b_MO_pushed 6 = .ok (.iload_n 1, 1) := dc_27 (by decide +kernel)
theorem d_MO_pushed_7 : decode b_MO_pushed 7 = .ok (.invokevirtual 428, 3) := dc_182 (by decide +kernel)
theorem d_MO_pushed_10 : decode b_MO_pushed 10 = .ok (.ifCond .eq 15, 3) := dc_153 (by decide +kernel)
theorem d_MO_pushed_13 : decode b_MO_pushed 13 = .ok (.aload_n 0, 1) := dc_42 (by decide +kernel)
theorem d_MO_pushed_14 : decode b_MO_pushed 14 = .ok (.iload_n 2, 1) := dc_28 (by decide +kernel)
theorem d_MO_pushed_15 : decode b_MO_pushed 15 = .ok (.invokevirtual 428, 3) := dc_182 (by decide +kernel)
theorem d_MO_pushed_18 : decode b_MO_pushed 18 = .ok (.ifCond .eq 7, 3) := dc_153 (by decide +kernel)
theorem d_MO_pushed_21 : decode b_MO_pushed 21 = .ok (.iload_n 3, 1) := dc_29 (by decide +kernel)
theorem d_MO_pushed_22 : decode b_MO_pushed 22 = .ok (.ifCond .ge 5, 3) := dc_156 (by decide +kernel)
theorem d_MO_pushed_25 : decode b_MO_pushed 25 = .ok (.iconst (-1), 1) := dc_2 (by decide +kernel)
theorem d_MO_pushed_26 : decode b_MO_pushed 26 = .ok (.ireturn, 1) := dc_172 (by decide +kernel)
theorem d_MO_pushed_27 : decode b_MO_pushed 27 = .ok (.aload_n 0, 1) := dc_42 (by decide +kernel)
theorem d_MO_pushed_28 : decode b_MO_pushed 28 = .ok (.iload_n 2, 1) := dc_28 (by decide +kernel)
theorem d_MO_pushed_29 : decode b_MO_pushed 29 = .ok (.invokevirtual 471, 3) := dc_182 (by decide +kernel)
theorem d_MO_pushed_32 : decode b_MO_pushed 32 = .ok (.aload_n 0, 1) := dc_42 (by decide +kernel)
theorem d_MO_pushed_33 : decode b_MO_pushed 33 = .ok (.getfield 115, 3) := dc_180 (by decide +kernel)
theorem d_MO_pushed_36 : decode b_MO_pushed 36 = .ok (.iload_n 1, 1) := dc_27 (by decide +kernel)
theorem d_MO_pushed_37 : decode b_MO_pushed 37 = .ok (.iaload, 1) := dc_46 (by decide +kernel)
theorem d_MO_pushed_38 : decode b_MO_pushed 38 = .ok (.ldc_w 458, 3) := dc_19 (by decide +kernel)
theorem d_MO_pushed_41 : decode b_MO_pushed 41 = .ok (.if_icmp .ge 13, 3) := dc_162 (by decide +kernel)
theorem d_MO_pushed_44 : decode b_MO_pushed 44 = .ok (.iload_n 3, 1) := dc_29 (by decide +kernel)
theorem d_MO_pushed_45 : decode b_MO_pushed 45 = .ok (.aload_n 0, 1) := dc_42 (by decide +kernel)
theorem d_MO_pushed_46 : decode b_MO_pushed 46 = .ok (.getfield 112, 3) := dc_180 (by decide +kernel)
theorem d_MO_pushed_49 : decode b_MO_pushed 49 = .ok (.iload_n 1, 1) := dc_27 (by decide +kernel)
theorem d_MO_pushed_50 : decode b_MO_pushed 50 = .ok (.iaload, 1) := dc_46 (by decide +kernel)
theorem d_MO_pushed_51 : decode b_MO_pushed 51 = .ok (.if_icmp .le 6, 3) := dc_164 (by decide +kernel)
theorem d_MO_pushed_54 : decode b_MO_pushed 54 = .ok (.bipush (-2), 2) := dc_16 (by decide +kernel)
theorem d_MO_pushed_56 : decode b_MO_pushed 56 = .ok (.ireturn, 1) := dc_172 (by decide +kernel)
theorem d_MO_pushed_57 : decode b_MO_pushed 57 = .ok (.iload_n 1, 1) := dc_27 (by decide +kernel)
theorem d_MO_pushed_58 : decode b_MO_pushed 58 = .ok (.istore 4, 2) := dc_54 (by decide +kernel)
theorem d_MO_pushed_60 : decode b_MO_pushed 60 = .ok (.iconst 0, 1) := dc_3 (by decide +kernel)
theorem d_MO_pushed_61 : decode b_MO_pushed 61 = .ok (.istore 5, 2) := dc_54 (by decide +kernel)
theorem d_MO_pushed_63 : decode b_MO_pushed 63 = .ok (.iload 5, 2) := dc_21 (by decide +kernel)
theorem d_MO_pushed_65 : decode b_MO_pushed 65 = .ok (.iload_n 3, 1) := dc_29 (by decide +kernel)
theorem d_MO_pushed_66 : decode b_MO_pushed 66 = .ok (.if_icmp .ge 39, 3) := dc_162 (by decide +kernel)
theorem d_MO_pushed_69 : decode b_MO_pushed 69 = .ok (.iconst 0, 1) := dc_3 (by decide +kernel)
theorem d_MO_pushed_70 : decode b_MO_pushed 70 = .ok (.istore 6, 2) := dc_54 (by decide +kernel)
theorem d_MO_pushed_72 : decode b_MO_pushed 72 = .ok (.aload_n 0, 1) := dc_42 (by decide +kernel)
theorem d_MO_pushed_73 : decode b_MO_pushed 73 = .ok (.iload 4, 2) := dc_21 (by decide +kernel)
theorem d_MO_pushed_75 : decode b_MO_pushed 75 = .ok (.iload 6, 2) := dc_21 (by decide +kernel)
theorem d_MO_pushed_77 : decode b_MO_pushed 77 = .ok (.invokevirtual 474, 3) := dc_182 (by decide +kernel)
theorem d_MO_pushed_80 : decode b_MO_pushed 80 = .ok (.ifCond .ne 9, 3) := dc_154 (by decide +kernel)
theorem d_MO_pushed_83 : decode b_MO_pushed 83 = .ok (.iinc 6 1, 3) := dc_132 (by decide +kernel)
theorem d_MO_pushed_86 : decode b_MO_pushed 86 = .ok (.goto (-14), 3) := dc_167 (by decide +kernel)
theorem d_MO_pushed_89 : decode b_MO_pushed 89 = .ok (.aload_n 0, 1) := dc_42 (by decide +kernel)
theorem d_MO_pushed_90 : decode b_MO_pushed 90 = .ok (.iload 4, 2) := dc_21 (by decide +kernel)
theorem d_MO_pushed_92 : decode b_MO_pushed 92 = .ok (.iload 6, 2) := dc_21 (by decide +kernel)
theorem d_MO_pushed_94 : decode b_MO_pushed 94 = .ok (.invokevirtual 338, 3) := dc_182 (by decide +kernel)
theorem d_MO_pushed_97 : decode b_MO_pushed 97 = .ok (.istore 4, 2) := dc_54 (by decide +kernel)
theorem d_MO_pushed_99 : decode b_MO_pushed 99 = .ok (.iinc 5 1, 3) := dc_132 (by decide +kernel)
theorem d_MO_pushed_102 : decode b_MO_pushed 102 = .ok (.goto (-39), 3) := dc_167 (by decide +kernel)
theorem d_MO_pushed_105 : decode b_MO_pushed 105 = .ok (.iload 4, 2) := dc_21 (by decide +kernel)
theorem d_MO_pushed_107 : decode b_MO_pushed 107 = .ok (.ireturn, 1) := dc_172 (by decide +kernel)
def t_MO_pushed_L72 (x1 : Int) (x2 : Int) (x3 : Int) (bk63 : Mem → Int → Int → Option (Mem × Int)) : Nat → Mem → Int → Int → Int → Option (Mem × Int)
  | 0, _, _, _, _ => none
  | fu + 1, M, v2_, v3_, v4_ => (obind (t_MO_isPushed M v2_ v4_) fun q18 => (if (q18.2) = 0 then (t_MO_pushed_L72 x1 x2 x3 bk63 fu (q18.1) v2_ v3_ (w32 (v4_ + 1))) else (obind (t_MO_beside (q18.1) v2_ v4_) fun q21 => (bk63 (q18.1) q21 (w32 (v3_ + 1))))))
def t_MO_pushed_L63 (x1 : Int) (x2 : Int) (x3 : Int)  : Nat → Mem → Int → Int → Option (Mem × Int)
  | 0, _, _, _ => none
  | fu + 1, M, v2_, v3_ => (if x3 ≤ v3_ then (some (M, v2_)) else (t_MO_pushed_L72 x1 x2 x3 (fun a0_ a1_ a2_ => t_MO_pushed_L63 x1 x2 x3 fu a0_ a1_ a2_) FU M v2_ v3_ 0))
def t_MO_pushed (M : Mem) (x1 : Int) (x2 : Int) (x3 : Int) : Option (Mem × Int) := (qlet (setI M 191 0 0) fun M1 => (obind (t_MO_isOpen M1 x1) fun q2 => (if q2 = 0 then (some (M1, (-1))) else (obind (t_MO_isOpen M1 x2) fun q5 => (if q5 = 0 then (some (M1, (-1))) else (if 0 ≤ x3 then (obind (t_MO_layPush M1 x2) fun q9 => (qguard (0 ≤ x1 ∧ x1 < 48) (if 1000000 ≤ (q9.1 223 x1) then (some (q9, (-2))) else (qguard (0 ≤ x1 ∧ x1 < 48) (if x3 ≤ (q9.1 222 x1) then (t_MO_pushed_L63 x1 x2 x3 FU q9 x1 0) else (some (q9, (-2)))))))) else (some (M1, (-1)))))))))
set_option maxHeartbeats 4000000 in
set_option maxRecDepth 100000 in
theorem k_MO_pushed_L72 (l : Launch) {p : Program} {e : Env} {s : State} {m : MethodId} {below : List Frame} {meth : Method} {c : Code} {b n : Nat} {C : CT} (hlo : 231 ≤ n) (x1 : Int) (x2 : Int) (x3 : Int) (hx1 : InR x1) (hx2 : InR x2) (hx3 : InR x3) (F : Cx b p m c b_MO_pushed 7 s ([.ref (b + 191), vI x1, vI x2, vI x3] : List Value).toArray "WardFallsModel" C n 231) (hlk : meth.locks = false) (hr : meth.sig.returnType = some .int) {res : Mem × Int} (bk63 : Mem → Int → Int → Option (Mem × Int)) (hbk63 : ∀ (M : Mem) (v2_ : Int) (hv2_ : InR v2_) (v3_ : Int) (hv3_ : InR v3_) (H : Heap) (locs : List Loc) (ls : Array Slot), St b C n M s H locs → lv_has ls 7 [(0, .ref (b + 191)), (3, vI x3), (4, vI v2_), (5, vI v3_)] → bk63 M v2_ v3_ = some res → W p l e (headSpec (wsM y_MO_pushed b_MO_pushed 7 (some .int)) (rmD 6)).room s m ([.ref (b + 191), vI x1, vI x2, vI x3] : List Value).toArray below meth c H locs 0 0 (MQ below (QI b C n res.1 res.2) ([.ref (b + 191), vI x1, vI x2, vI x3] : List Value).toArray s 0 0 (frb b)) (F0 m 63 ls [])) : ∀ (fu : Nat) (M : Mem) (v2_ : Int) (hv2_ : InR v2_) (v3_ : Int) (hv3_ : InR v3_) (v4_ : Int) (hv4_ : InR v4_) (H : Heap) (locs : List Loc) (ls : Array Slot), St b C n M s H locs → lv_has ls 7 [(0, .ref (b + 191)), (3, vI x3), (4, vI v2_), (5, vI v3_), (6, vI v4_)] → t_MO_pushed_L72 x1 x2 x3 bk63 fu M v2_ v3_ v4_ = some res → W p l e (headSpec (wsM y_MO_pushed b_MO_pushed 7 (some .int)) (rmD 6)).room s m ([.ref (b + 191), vI x1, vI x2, vI x3] : List Value).toArray below meth c H locs 0 0 (MQ below (QI b C n res.1 res.2) ([.ref (b + 191), vI x1, vI x2, vI x3] : List Value).toArray s 0 0 (frb b)) (F0 m 72 ls []) := by
  intro fu
  induction fu with
  | zero => intro M v2_ hv2_ v3_ hv3_ v4_ hv4_ H locs ls hS hl hT; exact absurd hT (by simp [t_MO_pushed_L72])
  | succ fu ih =>
    intro M v2_ hv2_ v3_ hv3_ v4_ hv4_ H locs ls hS hl hT
    rw [t_MO_pushed_L72] at hT
    refine lv_aload_n F.hx F.hb d_MO_pushed_72 rfl (lv_at hl 0 rfl) ?_
    refine lv_iload F.hx F.hb d_MO_pushed_73 (lv_at hl 2 rfl) ?_
    refine lv_iload F.hx F.hb d_MO_pushed_75 (lv_at hl 4 rfl) ?_
    obtain ⟨q18, hq18, hT⟩ := q_obind hT
    refine r_backZ F hS (r_runV (k := 191) (N := 68) (T := T1) (As := [vI v2_, vI v4_]) F hS (show 191 < 231 by decide) (show shK 191 = 5 from rfl) rfl (c_MO_isPushed l F.2.2.1 M v2_ v4_ hv2_ hv4_ _ hq18) gs_MO_474 hd_MO_isPushed ⟨Nat.le_of_ble_eq_true rfl, Nat.le_of_ble_eq_true rfl⟩ rfl hl.1 (Nat.le_of_ble_eq_true rfl) ⟨Nat.zero_le _, Nat.zero_le _⟩ rfl d_MO_pushed_77) (fun H locs hS h19 => ?_)
    refine r_if_ne (tgt := 89) F.hx F.hb (inr_z h19) d_MO_pushed_80 (by decide) (fun c20 => ?_) (fun c20 => ?_)
    · replace hT := (if_neg c20).symm.trans hT
      refine lv_aload_n F.hx F.hb d_MO_pushed_89 rfl (lv_at hl 0 rfl) ?_
      refine lv_iload F.hx F.hb d_MO_pushed_90 (lv_at hl 2 rfl) ?_
      refine lv_iload F.hx F.hb d_MO_pushed_92 (lv_at hl 4 rfl) ?_
      obtain ⟨q21, hq21, hT⟩ := q_obind hT
      refine r_backI F hS (r_runV (k := 191) (N := 68) (T := T1) (As := [vI v2_, vI v4_]) F hS (show 191 < 231 by decide) (show shK 191 = 5 from rfl) rfl (c_MO_beside l F.2.2.1 (q18.1) v2_ v4_ hv2_ hv4_ _ hq21) gs_MO_338 hd_MO_beside ⟨Nat.le_of_ble_eq_true rfl, Nat.le_of_ble_eq_true rfl⟩ rfl hl.1 (Nat.le_of_ble_eq_true rfl) ⟨Nat.zero_le _, Nat.zero_le _⟩ rfl d_MO_pushed_94) (fun H locs hS h22 => ?_)
      refine lv_istore (lv' := [(4, vI q21), (0, .ref (b + 191)), (3, vI x3), (5, vI v3_), (6, vI v4_)]) F.hx F.hb d_MO_pushed_97 hl (Nat.le_of_ble_eq_true rfl) rfl (fun ls hl => ?_)
      refine lv_iinc (v := Int32.ofInt (w32 (v3_ + 1))) (lv' := [(5, vI (w32 (v3_ + 1))), (4, vI q21), (0, .ref (b + 191)), (3, vI x3), (6, vI v4_)]) F.hx F.hb d_MO_pushed_99 hl (k := 3) rfl (q_of_add _ _) (Nat.le_of_ble_eq_true rfl) rfl (fun ls hl => ?_)
      refine lv_goto (tgt := 63) F.hx F.hb d_MO_pushed_102 (by decide) ?_
      exact hbk63 (q18.1) q21 h22 (w32 (v3_ + 1)) (inr_w32 _) _ _ _ hS (lv_sub hl [2, 3, 1, 0] rfl) hT
    · replace hT := (if_pos c20).symm.trans hT
      refine lv_iinc (v := Int32.ofInt (w32 (v4_ + 1))) (lv' := [(6, vI (w32 (v4_ + 1))), (0, .ref (b + 191)), (3, vI x3), (4, vI v2_), (5, vI v3_)]) F.hx F.hb d_MO_pushed_83 hl (k := 4) rfl (q_of_add _ _) (Nat.le_of_ble_eq_true rfl) rfl (fun ls hl => ?_)
      refine lv_goto (tgt := 72) F.hx F.hb d_MO_pushed_86 (by decide) ?_
      exact ih (q18.1) v2_ hv2_ v3_ hv3_ (w32 (v4_ + 1)) (inr_w32 _) _ _ _ hS (lv_sub hl [1, 2, 3, 4, 0] rfl) hT
set_option maxHeartbeats 4000000 in
set_option maxRecDepth 100000 in
theorem k_MO_pushed_L63 (l : Launch) {p : Program} {e : Env} {s : State} {m : MethodId} {below : List Frame} {meth : Method} {c : Code} {b n : Nat} {C : CT} (hlo : 231 ≤ n) (x1 : Int) (x2 : Int) (x3 : Int) (hx1 : InR x1) (hx2 : InR x2) (hx3 : InR x3) (F : Cx b p m c b_MO_pushed 7 s ([.ref (b + 191), vI x1, vI x2, vI x3] : List Value).toArray "WardFallsModel" C n 231) (hlk : meth.locks = false) (hr : meth.sig.returnType = some .int) {res : Mem × Int} : ∀ (fu : Nat) (M : Mem) (v2_ : Int) (hv2_ : InR v2_) (v3_ : Int) (hv3_ : InR v3_) (H : Heap) (locs : List Loc) (ls : Array Slot), St b C n M s H locs → lv_has ls 7 [(0, .ref (b + 191)), (3, vI x3), (4, vI v2_), (5, vI v3_)] → t_MO_pushed_L63 x1 x2 x3 fu M v2_ v3_ = some res → W p l e (headSpec (wsM y_MO_pushed b_MO_pushed 7 (some .int)) (rmD 6)).room s m ([.ref (b + 191), vI x1, vI x2, vI x3] : List Value).toArray below meth c H locs 0 0 (MQ below (QI b C n res.1 res.2) ([.ref (b + 191), vI x1, vI x2, vI x3] : List Value).toArray s 0 0 (frb b)) (F0 m 63 ls []) := by
  intro fu
  induction fu with
  | zero => intro M v2_ hv2_ v3_ hv3_ H locs ls hS hl hT; exact absurd hT (by simp [t_MO_pushed_L63])
  | succ fu ih =>
    intro M v2_ hv2_ v3_ hv3_ H locs ls hS hl hT
    rw [t_MO_pushed_L63] at hT
    refine lv_iload F.hx F.hb d_MO_pushed_63 (lv_at hl 3 rfl) ?_
    refine lv_iload_n F.hx F.hb d_MO_pushed_65 rfl (lv_at hl 1 rfl) ?_
    refine r_icmp_ge (tgt := 105) F.hx F.hb hv3_ hx3 d_MO_pushed_66 (by decide) (fun c17 => ?_) (fun c17 => ?_)
    · replace hT := (if_pos c17).symm.trans hT
      refine lv_iload F.hx F.hb d_MO_pushed_105 (lv_at hl 2 rfl) ?_
      cases hT
      exact r_iret F hlk hr rfl hS hv2_ d_MO_pushed_107
    · replace hT := (if_neg c17).symm.trans hT
      refine r_iconst F.hx F.hb d_MO_pushed_69 ?_
      refine lv_istore (lv' := [(6, vI 0), (0, .ref (b + 191)), (3, vI x3), (4, vI v2_), (5, vI v3_)]) F.hx F.hb d_MO_pushed_70 hl (Nat.le_of_ble_eq_true rfl) rfl (fun ls hl => ?_)
      exact k_MO_pushed_L72 l hlo x1 x2 x3 hx1 hx2 hx3 F hlk hr (fun a0_ a1_ a2_ => t_MO_pushed_L63 x1 x2 x3 fu a0_ a1_ a2_) ih FU M v2_ hv2_ v3_ hv3_ 0 (inr_c rfl) _ _ _ hS (lv_sub hl [1, 2, 3, 4, 0] rfl) hT
set_option maxHeartbeats 4000000 in
set_option maxRecDepth 100000 in
theorem c_MO_pushed (l : Launch) {b n : Nat} {C : CT} (hlo : 231 ≤ n) (M : Mem) (x1 : Int) (x2 : Int) (x3 : Int) (hx1 : InR x1) (hx2 : InR x2) (hx3 : InR x3) (res : Mem × Int) (hT : t_MO_pushed M x1 x2 x3 = some res) : CM l b C n 6 y_MO_pushed b_MO_pushed 7 (some .int) [.ref (b + 191), vI x1, vI x2, vI x3] M (QI b C n res.1 res.2) := by
  refine CM.of (lo := 231) (ow := "WardFallsModel") (by decide) rfl (Nat.le_of_ble_eq_true rfl) hlo (fun p e s m below meth c F hlk hr hS ls hl => ?_)
  have hl : lv_has ls 7 [(0, .ref (b + 191)), (1, vI x1), (2, vI x2), (3, vI x3)] := hl
  unfold t_MO_pushed at hT
  refine lv_aload_n F.hx F.hb d_MO_pushed_0 rfl (lv_at hl 0 rfl) ?_
  refine r_iconst F.hx F.hb d_MO_pushed_1 ?_
  refine r_putI (N := 68) (T := T1) (j := 0) F hS (show 191 < 231 by decide) (show shK 191 = 5 from rfl) (show shN 191 = 68 from rfl) rfl (Nat.le_of_ble_eq_true rfl) ing1 tyok1 nm1 rfl rfl rfl rfl rfl rfl mw_1389 (inr_c rfl) d_MO_pushed_2 (fun H locs hS => ?_)
  obtain ⟨M1, eM1⟩ : ∃ q, q = (setI M 191 0 0) := ⟨_, rfl⟩
  replace hS : St b C n M1 s H locs := by rw [eM1]; exact hS
  replace hT := qlet_eq hT eM1
  refine lv_aload_n F.hx F.hb d_MO_pushed_5 rfl (lv_at hl 0 rfl) ?_
  refine lv_iload_n F.hx F.hb d_MO_pushed_6 rfl (lv_at hl 1 rfl) ?_
  obtain ⟨q2, hq2, hT⟩ := q_obind hT
  refine r_backZ F hS (r_runV (k := 191) (N := 68) (T := T1) (As := [vI x1]) F hS (show 191 < 231 by decide) (show shK 191 = 5 from rfl) rfl (c_MO_isOpen l F.2.2.1 M1 x1 hx1 _ hq2) gs_MO_428 hd_MO_isOpen ⟨Nat.le_of_ble_eq_true rfl, Nat.le_of_ble_eq_true rfl⟩ rfl hl.1 (Nat.le_of_ble_eq_true rfl) ⟨Nat.zero_le _, Nat.zero_le _⟩ rfl d_MO_pushed_7) (fun H locs hS h3 => ?_)
  refine r_if_eq (tgt := 25) F.hx F.hb (inr_z h3) d_MO_pushed_10 (by decide) (fun c4 => ?_) (fun c4 => ?_)
  · replace hT := (if_pos c4).symm.trans hT
    refine r_iconst F.hx F.hb d_MO_pushed_25 ?_
    cases hT
    exact r_iret F hlk hr rfl hS (inr_c rfl) d_MO_pushed_26
  · replace hT := (if_neg c4).symm.trans hT
    refine lv_aload_n F.hx F.hb d_MO_pushed_13 rfl (lv_at hl 0 rfl) ?_
    refine lv_iload_n F.hx F.hb d_MO_pushed_14 rfl (lv_at hl 2 rfl) ?_
    obtain ⟨q5, hq5, hT⟩ := q_obind hT
    refine r_backZ F hS (r_runV (k := 191) (N := 68) (T := T1) (As := [vI x2]) F hS (show 191 < 231 by decide) (show shK 191 = 5 from rfl) rfl (c_MO_isOpen l F.2.2.1 M1 x2 hx2 _ hq5) gs_MO_428 hd_MO_isOpen ⟨Nat.le_of_ble_eq_true rfl, Nat.le_of_ble_eq_true rfl⟩ rfl hl.1 (Nat.le_of_ble_eq_true rfl) ⟨Nat.zero_le _, Nat.zero_le _⟩ rfl d_MO_pushed_15) (fun H locs hS h6 => ?_)
    refine r_if_eq (tgt := 25) F.hx F.hb (inr_z h6) d_MO_pushed_18 (by decide) (fun c7 => ?_) (fun c7 => ?_)
    · replace hT := (if_pos c7).symm.trans hT
      refine r_iconst F.hx F.hb d_MO_pushed_25 ?_
      cases hT
      exact r_iret F hlk hr rfl hS (inr_c rfl) d_MO_pushed_26
    · replace hT := (if_neg c7).symm.trans hT
      refine lv_iload_n F.hx F.hb d_MO_pushed_21 rfl (lv_at hl 3 rfl) ?_
      refine r_if_ge (tgt := 27) F.hx F.hb hx3 d_MO_pushed_22 (by decide) (fun c8 => ?_) (fun c8 => ?_)
      · replace hT := (if_pos c8).symm.trans hT
        refine lv_aload_n F.hx F.hb d_MO_pushed_27 rfl (lv_at hl 0 rfl) ?_
        refine lv_iload_n F.hx F.hb d_MO_pushed_28 rfl (lv_at hl 2 rfl) ?_
        obtain ⟨q9, hq9, hT⟩ := q_obind hT
        refine r_backV F hS (r_runV (k := 191) (N := 68) (T := T1) (As := [vI x2]) F hS (show 191 < 231 by decide) (show shK 191 = 5 from rfl) rfl (c_MO_layPush l F.2.2.1 M1 x2 hx2 _ hq9) gs_MO_471 hd_MO_layPush ⟨Nat.le_of_ble_eq_true rfl, Nat.le_of_ble_eq_true rfl⟩ rfl hl.1 (Nat.le_of_ble_eq_true rfl) ⟨Nat.zero_le _, Nat.zero_le _⟩ rfl d_MO_pushed_29) (fun H locs hS => ?_)
        refine lv_aload_n F.hx F.hb d_MO_pushed_32 rfl (lv_at hl 0 rfl) ?_
        refine r_get (v := .ref (b + 223)) (N := 68) (T := T1) (j := 56) F hS (show 191 < 231 by decide) (show shK 191 = 5 from rfl) (show shN 191 = 68 from rfl) rfl (Nat.le_of_ble_eq_true rfl) ing1 mw_1445 (fv_sg rfl rfl rfl) d_MO_pushed_33 ?_
        refine lv_iload_n F.hx F.hb d_MO_pushed_36 rfl (lv_at hl 1 rfl) ?_
        obtain ⟨⟨g11a, g11b⟩, hT⟩ := q_guard hT
        refine r_iald F hS (show 223 < 231 by decide) (show shK 223 = 0 from rfl) (show shN 223 = 48 from rfl) hx1 g11a g11b d_MO_pushed_37 ?_
        have i12 := hS.rng 223 x1
        refine lv_ldcw (v := Int32.ofInt 1000000) F.hx F.hb F.hown (F.hts mw_1943) d_MO_pushed_38 ?_
        refine r_icmp_ge (tgt := 54) F.hx F.hb i12 (inr_c rfl) d_MO_pushed_41 (by decide) (fun c13 => ?_) (fun c13 => ?_)
        · replace hT := (if_pos c13).symm.trans hT
          refine r_bipush F.hx F.hb d_MO_pushed_54 rfl ?_
          cases hT
          exact r_iret F hlk hr rfl hS (inr_c rfl) d_MO_pushed_56
        · replace hT := (if_neg c13).symm.trans hT
          refine lv_iload_n F.hx F.hb d_MO_pushed_44 rfl (lv_at hl 3 rfl) ?_
          refine lv_aload_n F.hx F.hb d_MO_pushed_45 rfl (lv_at hl 0 rfl) ?_
          refine r_get (v := .ref (b + 222)) (N := 68) (T := T1) (j := 55) F hS (show 191 < 231 by decide) (show shK 191 = 5 from rfl) (show shN 191 = 68 from rfl) rfl (Nat.le_of_ble_eq_true rfl) ing1 mw_1444 (fv_sg rfl rfl rfl) d_MO_pushed_46 ?_
          refine lv_iload_n F.hx F.hb d_MO_pushed_49 rfl (lv_at hl 1 rfl) ?_
          obtain ⟨⟨g14a, g14b⟩, hT⟩ := q_guard hT
          refine r_iald F hS (show 222 < 231 by decide) (show shK 222 = 0 from rfl) (show shN 222 = 48 from rfl) hx1 g14a g14b d_MO_pushed_50 ?_
          have i15 := hS.rng 222 x1
          refine r_icmp_le (tgt := 57) F.hx F.hb hx3 i15 d_MO_pushed_51 (by decide) (fun c16 => ?_) (fun c16 => ?_)
          · replace hT := (if_pos c16).symm.trans hT
            refine lv_iload_n F.hx F.hb d_MO_pushed_57 rfl (lv_at hl 1 rfl) ?_
            refine lv_istore (lv' := [(4, vI x1), (0, .ref (b + 191)), (1, vI x1), (2, vI x2), (3, vI x3)]) F.hx F.hb d_MO_pushed_58 hl (Nat.le_of_ble_eq_true rfl) rfl (fun ls hl => ?_)
            refine r_iconst F.hx F.hb d_MO_pushed_60 ?_
            refine lv_istore (lv' := [(5, vI 0), (4, vI x1), (0, .ref (b + 191)), (1, vI x1), (2, vI x2), (3, vI x3)]) F.hx F.hb d_MO_pushed_61 hl (Nat.le_of_ble_eq_true rfl) rfl (fun ls hl => ?_)
            exact k_MO_pushed_L63 l hlo x1 x2 x3 hx1 hx2 hx3 F hlk hr FU q9 x1 hx1 0 (inr_c rfl) _ _ _ hS (lv_sub hl [2, 5, 1, 0] rfl) hT
          · replace hT := (if_neg c16).symm.trans hT
            refine r_bipush F.hx F.hb d_MO_pushed_54 rfl ?_
            cases hT
            exact r_iret F hlk hr rfl hS (inr_c rfl) d_MO_pushed_56
      · replace hT := (if_neg c8).symm.trans hT
        refine r_iconst F.hx F.hb d_MO_pushed_25 ?_
        cases hT
        exact r_iret F hlk hr rfl hS (inr_c rfl) d_MO_pushed_26
theorem d_MO_war_0 : decode b_MO_war 0 = .ok (.aload_n 0, 1) := dc_42 (by decide +kernel)
theorem d_MO_war_1 : decode b_MO_war 1 = .ok (.iconst 0, 1) := dc_3 (by decide +kernel)
theorem d_MO_war_2 : decode b_MO_war 2 = .ok (.putfield 145, 3) := dc_181 (by decide +kernel)
theorem d_MO_war_5 : decode b_MO_war 5 = .ok (.aload_n 0, 1) := dc_42 (by decide +kernel)
theorem d_MO_war_6 : decode b_MO_war 6 = .ok (.iload_n 1, 1) := dc_27 (by decide +kernel)
theorem d_MO_war_7 : decode b_MO_war 7 = .ok (.invokevirtual 369, 3) := dc_182 (by decide +kernel)
theorem d_MO_war_10 : decode b_MO_war 10 = .ok (.ifCond .eq 16, 3) := dc_153 (by decide +kernel)
theorem d_MO_war_13 : decode b_MO_war 13 = .ok (.aload_n 0, 1) := dc_42 (by decide +kernel)
theorem d_MO_war_14 : decode b_MO_war 14 = .ok (.iload_n 2, 1) := dc_28 (by decide +kernel)
theorem d_MO_war_15 : decode b_MO_war 15 = .ok (.invokevirtual 369, 3) := dc_182 (by decide +kernel)
theorem d_MO_war_18 : decode b_MO_war 18 = .ok (.ifCond .eq 8, 3) := dc_153 (by decide +kernel)
theorem d_MO_war_21 : decode b_MO_war 21 = .ok (.iload_n 1, 1) := dc_27 (by decide +kernel)
theorem d_MO_war_22 : decode b_MO_war 22 = .ok (.iload_n 2, 1) := dc_28 (by decide +kernel)
theorem d_MO_war_23 : decode b_MO_war 23 = .ok (.if_icmp .ne 5, 3) := dc_160 (by decide +kernel)
theorem d_MO_war_26 : decode b_MO_war 26 = .ok (.iconst (-1), 1) := dc_2 (by decide +kernel)
theorem d_MO_war_27 : decode b_MO_war 27 = .ok (.ireturn, 1) := dc_172 (by decide +kernel)
theorem d_MO_war_28 : decode b_MO_war 28 = .ok (.iconst 0, 1) := dc_3 (by decide +kernel)
theorem d_MO_war_29 : decode b_MO_war 29 = .ok (.istore_n 3, 1) := dc_62 (by decide +kernel)
theorem d_MO_war_30 : decode b_MO_war 30 = .ok (.iconst 0, 1) := dc_3 (by decide +kernel)
theorem d_MO_war_31 : decode b_MO_war 31 = .ok (.istore 4, 2) := dc_54 (by decide +kernel)
theorem d_MO_war_33 : decode b_MO_war 33 = .ok (.iload 4, 2) := dc_21 (by decide +kernel)
theorem d_MO_war_35 : decode b_MO_war 35 = .ok (.aload_n 0, 1) := dc_42 (by decide +kernel)
theorem d_MO_war_36 : decode b_MO_war 36 = .ok (.invokevirtual 329, 3) := dc_182 (by decide +kernel)
theorem d_MO_war_39 : decode b_MO_war 39 = .ok (.if_icmp .ge 67, 3) := dc_162 (by decide +kernel)
theorem d_MO_war_42 : decode b_MO_war 42 = .ok (.aload_n 0, 1) := dc_42 (by decide +kernel)
theorem d_MO_war_43 : decode b_MO_war 43 = .ok (.getfield 28, 3) := dc_180 (by decide +kernel)
theorem d_MO_war_46 : decode b_MO_war 46 = .ok (.iload 4, 2) := dc_21 (by decide +kernel)
theorem d_MO_war_48 : decode b_MO_war 48 = .ok (.baload, 1) := dc_51 (by decide +kernel)
theorem d_MO_war_49 : decode b_MO_war 49 = .ok (.ifCond .ne 51, 3) := dc_154 (by decide +kernel)
theorem d_MO_war_52 : decode b_MO_war 52 = .ok (.aload_n 0, 1) := dc_42 (by decide +kernel)
theorem d_MO_war_53 : decode b_MO_war 53 = .ok (.getfield 25, 3) := dc_180 (by decide +kernel)
theorem d_MO_war_56 : decode b_MO_war 56 = .ok (.iload 4, 2) := dc_21 (by decide +kernel)
theorem d_MO_war_58 : decode b_MO_war 58 = .ok (.iaload, 1) := dc_46 (by decide +kernel)
theorem d_MO_war_59 : decode b_MO_war 59 = .ok (.iload_n 1, 1) := dc_27 (by decide +kernel)
theorem d_MO_war_60 : decode b_MO_war 60 = .ok (.iconst 1, 1) := dc_4 (by decide +kernel)
theorem d_MO_war_61 : decode b_MO_war 61 = .ok (.iadd, 1) := dc_96 (by decide +kernel)
theorem d_MO_war_62 : decode b_MO_war 62 = .ok (.if_icmp .eq 6, 3) := dc_159 (by decide +kernel)
theorem d_MO_war_65 : decode b_MO_war 65 = .ok (.goto 35, 3) := dc_167 (by decide +kernel)
theorem d_MO_war_68 : decode b_MO_war 68 = .ok (.aload_n 0, 1) := dc_42 (by decide +kernel)
theorem d_MO_war_69 : decode b_MO_war 69 = .ok (.iconst 0, 1) := dc_3 (by decide +kernel)
theorem d_MO_war_70 : decode b_MO_war 70 = .ok (.iload 4, 2) := dc_21 (by decide +kernel)
theorem d_MO_war_72 : decode b_MO_war 72 = .ok (.invokevirtual 414, 3) := dc_182 (by decide +kernel)
theorem d_MO_war_75 : decode b_MO_war 75 = .ok (.iload_n 3, 1) := dc_29 (by decide +kernel)
theorem d_MO_war_76 : decode b_MO_war 76 = .ok (.aload_n 0, 1) := dc_42 (by decide +kernel)
theorem d_MO_war_77 : decode b_MO_war 77 = .ok (.getfield 341, 3) := dc_180 (by decide +kernel)
theorem d_MO_war_80 : decode b_MO_war 80 = .ok (.ifCond .le 17, 3) := dc_158 (by decide +kernel)
theorem d_MO_war_83 : decode b_MO_war 83 = .ok (.aload_n 0, 1) := dc_42 (by decide +kernel)
theorem d_MO_war_84 : decode b_MO_war 84 = .ok (.getfield 344, 3) := dc_180 (by decide +kernel)
theorem d_MO_war_87 : decode b_MO_war 87 = .ok (.iload_n 2, 1) := dc_28 (by decide +kernel)
theorem d_MO_war_88 : decode b_MO_war 88 = .ok (.iconst 1, 1) := dc_4 (by decide +kernel)
theorem d_MO_war_89 : decode b_MO_war 89 = .ok (.iadd, 1) := dc_96 (by decide +kernel)
theorem d_MO_war_90 : decode b_MO_war 90 = .ok (.if_icmp .ne 7, 3) := dc_160 (by decide +kernel)
theorem d_MO_war_93 : decode b_MO_war 93 = .ok (.iconst 1, 1) := dc_4 (by decide +kernel)
theorem d_MO_war_94 : decode b_MO_war 94 = .ok (.goto 4, 3) := dc_167 (by decide +kernel)
theorem d_MO_war_97 : decode b_MO_war 97 = .ok (.iconst 0, 1) := dc_3 (by decide +kernel)
theorem d_MO_war_98 : decode b_MO_war 98 = .ok (.iadd, 1) := dc_96 (by decide +kernel)
theorem d_MO_war_99 : decode b_MO_war 99 = .ok (.istore_n 3, 1) := dc_62 (by decide +kernel)
theorem d_MO_war_100 : decode b_MO_war 100 = .ok (.iinc 4 1, 3) := dc_132 (by decide +kernel)
theorem d_MO_war_103 : decode b_MO_war 103 = .ok (.goto (-70), 3) := dc_167 (by decide +kernel)
theorem d_MO_war_106 : decode b_MO_war 106 = .ok (.iload_n 3, 1) := dc_29 (by decide +kernel)
theorem d_MO_war_107 : decode b_MO_war 107 = .ok (.ireturn, 1) := dc_172 (by decide +kernel)
def t_MO_war_L100 (x1 : Int) (x2 : Int) (bk33 : Mem → Int → Int → Option (Mem × Int)) (M : Mem) (v3_ : Int) (v4_ : Int) : Option (Mem × Int) := (bk33 M v3_ (w32 (v4_ + 1)))
def t_MO_war_L98 (x1 : Int) (x2 : Int) (bk33 : Mem → Int → Int → Option (Mem × Int)) (M : Mem) (v3_ : Int) (v4_ : Int) (v5_ : Int) : Option (Mem × Int) := (t_MO_war_L100 x1 x2 bk33 M (w32 (v4_ + v5_)) v3_)
def t_MO_war_L97 (x1 : Int) (x2 : Int) (bk33 : Mem → Int → Int → Option (Mem × Int)) (M : Mem) (v3_ : Int) (v4_ : Int) : Option (Mem × Int) := (t_MO_war_L98 x1 x2 bk33 M v3_ v4_ 0)
def t_MO_war_L33 (x1 : Int) (x2 : Int)  : Nat → Mem → Int → Int → Option (Mem × Int)
  | 0, _, _, _ => none
  | fu + 1, M, v3_, v4_ => (qlet (t_MO_cells M) fun q9 => (if q9 ≤ v4_ then (some (M, v3_)) else (qguard (0 ≤ v4_ ∧ v4_ < 96) (if (M.1 198 v4_) = 0 then (qguard (0 ≤ v4_ ∧ v4_ < 96) (if (M.1 197 v4_) = (w32 (x1 + 1)) then (obind (t_MO_goesFrom M 0 v4_) fun q18 => (if (q18.1 191 49) ≤ 0 then (t_MO_war_L97 x1 x2 (fun a0_ a1_ a2_ => t_MO_war_L33 x1 x2 fu a0_ a1_ a2_) q18 v4_ v3_) else (if (q18.1 191 50) = (w32 (x2 + 1)) then (t_MO_war_L98 x1 x2 (fun a0_ a1_ a2_ => t_MO_war_L33 x1 x2 fu a0_ a1_ a2_) q18 v4_ v3_ 1) else (t_MO_war_L97 x1 x2 (fun a0_ a1_ a2_ => t_MO_war_L33 x1 x2 fu a0_ a1_ a2_) q18 v4_ v3_)))) else (t_MO_war_L100 x1 x2 (fun a0_ a1_ a2_ => t_MO_war_L33 x1 x2 fu a0_ a1_ a2_) M v3_ v4_))) else (t_MO_war_L100 x1 x2 (fun a0_ a1_ a2_ => t_MO_war_L33 x1 x2 fu a0_ a1_ a2_) M v3_ v4_)))))
def t_MO_war (M : Mem) (x1 : Int) (x2 : Int) : Option (Mem × Int) := (qlet (setI M 191 0 0) fun M1 => (qlet (t_MO_isWard M1 x1) fun q2 => (if q2 = 0 then (some (M1, (-1))) else (qlet (t_MO_isWard M1 x2) fun q5 => (if q5 = 0 then (some (M1, (-1))) else (if x1 = x2 then (some (M1, (-1))) else (t_MO_war_L33 x1 x2 FU M1 0 0)))))))
set_option maxHeartbeats 4000000 in
set_option maxRecDepth 100000 in
theorem k_MO_war_L100 (l : Launch) {p : Program} {e : Env} {s : State} {m : MethodId} {below : List Frame} {meth : Method} {c : Code} {b n : Nat} {C : CT} (hlo : 231 ≤ n) (x1 : Int) (x2 : Int) (hx1 : InR x1) (hx2 : InR x2) (F : Cx b p m c b_MO_war 5 s ([.ref (b + 191), vI x1, vI x2] : List Value).toArray "WardFallsModel" C n 231) (hlk : meth.locks = false) (hr : meth.sig.returnType = some .int) {res : Mem × Int} (bk33 : Mem → Int → Int → Option (Mem × Int)) (hbk33 : ∀ (M : Mem) (v3_ : Int) (hv3_ : InR v3_) (v4_ : Int) (hv4_ : InR v4_) (H : Heap) (locs : List Loc) (ls : Array Slot), St b C n M s H locs → lv_has ls 5 [(0, .ref (b + 191)), (1, vI x1), (2, vI x2), (3, vI v3_), (4, vI v4_)] → bk33 M v3_ v4_ = some res → W p l e (headSpec (wsM y_MO_war b_MO_war 5 (some .int)) (rmD 3)).room s m ([.ref (b + 191), vI x1, vI x2] : List Value).toArray below meth c H locs 0 0 (MQ below (QI b C n res.1 res.2) ([.ref (b + 191), vI x1, vI x2] : List Value).toArray s 0 0 (frb b)) (F0 m 33 ls [])) (M : Mem) (v3_ : Int) (hv3_ : InR v3_) (v4_ : Int) (hv4_ : InR v4_) (H : Heap) (locs : List Loc) (ls : Array Slot) (hS : St b C n M s H locs) (hl : lv_has ls 5 [(0, .ref (b + 191)), (1, vI x1), (2, vI x2), (3, vI v3_), (4, vI v4_)]) (hT : t_MO_war_L100 x1 x2 bk33 M v3_ v4_ = some res) : W p l e (headSpec (wsM y_MO_war b_MO_war 5 (some .int)) (rmD 3)).room s m ([.ref (b + 191), vI x1, vI x2] : List Value).toArray below meth c H locs 0 0 (MQ below (QI b C n res.1 res.2) ([.ref (b + 191), vI x1, vI x2] : List Value).toArray s 0 0 (frb b)) (F0 m 100 ls []) := by
  unfold t_MO_war_L100 at hT
  refine lv_iinc (v := Int32.ofInt (w32 (v4_ + 1))) (lv' := [(4, vI (w32 (v4_ + 1))), (0, .ref (b + 191)), (1, vI x1), (2, vI x2), (3, vI v3_)]) F.hx F.hb d_MO_war_100 hl (k := 4) rfl (q_of_add _ _) (Nat.le_of_ble_eq_true rfl) rfl (fun ls hl => ?_)
  refine lv_goto (tgt := 33) F.hx F.hb d_MO_war_103 (by decide) ?_
  exact hbk33 M v3_ hv3_ (w32 (v4_ + 1)) (inr_w32 _) _ _ _ hS (lv_sub hl [1, 2, 3, 4, 0] rfl) hT
set_option maxHeartbeats 4000000 in
set_option maxRecDepth 100000 in
theorem k_MO_war_L98 (l : Launch) {p : Program} {e : Env} {s : State} {m : MethodId} {below : List Frame} {meth : Method} {c : Code} {b n : Nat} {C : CT} (hlo : 231 ≤ n) (x1 : Int) (x2 : Int) (hx1 : InR x1) (hx2 : InR x2) (F : Cx b p m c b_MO_war 5 s ([.ref (b + 191), vI x1, vI x2] : List Value).toArray "WardFallsModel" C n 231) (hlk : meth.locks = false) (hr : meth.sig.returnType = some .int) {res : Mem × Int} (bk33 : Mem → Int → Int → Option (Mem × Int)) (hbk33 : ∀ (M : Mem) (v3_ : Int) (hv3_ : InR v3_) (v4_ : Int) (hv4_ : InR v4_) (H : Heap) (locs : List Loc) (ls : Array Slot), St b C n M s H locs → lv_has ls 5 [(0, .ref (b + 191)), (1, vI x1), (2, vI x2), (3, vI v3_), (4, vI v4_)] → bk33 M v3_ v4_ = some res → W p l e (headSpec (wsM y_MO_war b_MO_war 5 (some .int)) (rmD 3)).room s m ([.ref (b + 191), vI x1, vI x2] : List Value).toArray below meth c H locs 0 0 (MQ below (QI b C n res.1 res.2) ([.ref (b + 191), vI x1, vI x2] : List Value).toArray s 0 0 (frb b)) (F0 m 33 ls [])) (M : Mem) (v3_ : Int) (hv3_ : InR v3_) (v4_ : Int) (hv4_ : InR v4_) (v5_ : Int) (hv5_ : v5_ = 0 ∨ v5_ = 1) (H : Heap) (locs : List Loc) (ls : Array Slot) (hS : St b C n M s H locs) (hl : lv_has ls 5 [(0, .ref (b + 191)), (1, vI x1), (2, vI x2), (4, vI v3_)]) (hT : t_MO_war_L98 x1 x2 bk33 M v3_ v4_ v5_ = some res) : W p l e (headSpec (wsM y_MO_war b_MO_war 5 (some .int)) (rmD 3)).room s m ([.ref (b + 191), vI x1, vI x2] : List Value).toArray below meth c H locs 0 0 (MQ below (QI b C n res.1 res.2) ([.ref (b + 191), vI x1, vI x2] : List Value).toArray s 0 0 (frb b)) (F0 m 98 ls [vI v5_, vI v4_]) := by
  unfold t_MO_war_L98 at hT
  refine r_iadd F.hx F.hb d_MO_war_98 ?_
  refine lv_istore_n (lv' := [(3, vI (w32 (v4_ + v5_))), (0, .ref (b + 191)), (1, vI x1), (2, vI x2), (4, vI v3_)]) F.hx F.hb d_MO_war_99 rfl hl (Nat.le_of_ble_eq_true rfl) rfl (fun ls hl => ?_)
  exact k_MO_war_L100 l hlo x1 x2 hx1 hx2 F hlk hr bk33 hbk33 M (w32 (v4_ + v5_)) (inr_w32 _) v3_ hv3_ _ _ _ hS (lv_sub hl [1, 2, 3, 0, 4] rfl) hT
set_option maxHeartbeats 4000000 in
set_option maxRecDepth 100000 in
theorem k_MO_war_L97 (l : Launch) {p : Program} {e : Env} {s : State} {m : MethodId} {below : List Frame} {meth : Method} {c : Code} {b n : Nat} {C : CT} (hlo : 231 ≤ n) (x1 : Int) (x2 : Int) (hx1 : InR x1) (hx2 : InR x2) (F : Cx b p m c b_MO_war 5 s ([.ref (b + 191), vI x1, vI x2] : List Value).toArray "WardFallsModel" C n 231) (hlk : meth.locks = false) (hr : meth.sig.returnType = some .int) {res : Mem × Int} (bk33 : Mem → Int → Int → Option (Mem × Int)) (hbk33 : ∀ (M : Mem) (v3_ : Int) (hv3_ : InR v3_) (v4_ : Int) (hv4_ : InR v4_) (H : Heap) (locs : List Loc) (ls : Array Slot), St b C n M s H locs → lv_has ls 5 [(0, .ref (b + 191)), (1, vI x1), (2, vI x2), (3, vI v3_), (4, vI v4_)] → bk33 M v3_ v4_ = some res → W p l e (headSpec (wsM y_MO_war b_MO_war 5 (some .int)) (rmD 3)).room s m ([.ref (b + 191), vI x1, vI x2] : List Value).toArray below meth c H locs 0 0 (MQ below (QI b C n res.1 res.2) ([.ref (b + 191), vI x1, vI x2] : List Value).toArray s 0 0 (frb b)) (F0 m 33 ls [])) (M : Mem) (v3_ : Int) (hv3_ : InR v3_) (v4_ : Int) (hv4_ : InR v4_) (H : Heap) (locs : List Loc) (ls : Array Slot) (hS : St b C n M s H locs) (hl : lv_has ls 5 [(0, .ref (b + 191)), (1, vI x1), (2, vI x2), (4, vI v3_)]) (hT : t_MO_war_L97 x1 x2 bk33 M v3_ v4_ = some res) : W p l e (headSpec (wsM y_MO_war b_MO_war 5 (some .int)) (rmD 3)).room s m ([.ref (b + 191), vI x1, vI x2] : List Value).toArray below meth c H locs 0 0 (MQ below (QI b C n res.1 res.2) ([.ref (b + 191), vI x1, vI x2] : List Value).toArray s 0 0 (frb b)) (F0 m 97 ls [vI v4_]) := by
  unfold t_MO_war_L97 at hT
  refine r_iconst F.hx F.hb d_MO_war_97 ?_
  exact k_MO_war_L98 l hlo x1 x2 hx1 hx2 F hlk hr bk33 hbk33 M v3_ hv3_ v4_ hv4_ 0 (Or.inl rfl) _ _ _ hS (lv_sub hl [0, 1, 2, 3] rfl) hT
set_option maxHeartbeats 4000000 in
set_option maxRecDepth 100000 in
theorem k_MO_war_L33 (l : Launch) {p : Program} {e : Env} {s : State} {m : MethodId} {below : List Frame} {meth : Method} {c : Code} {b n : Nat} {C : CT} (hlo : 231 ≤ n) (x1 : Int) (x2 : Int) (hx1 : InR x1) (hx2 : InR x2) (F : Cx b p m c b_MO_war 5 s ([.ref (b + 191), vI x1, vI x2] : List Value).toArray "WardFallsModel" C n 231) (hlk : meth.locks = false) (hr : meth.sig.returnType = some .int) {res : Mem × Int} : ∀ (fu : Nat) (M : Mem) (v3_ : Int) (hv3_ : InR v3_) (v4_ : Int) (hv4_ : InR v4_) (H : Heap) (locs : List Loc) (ls : Array Slot), St b C n M s H locs → lv_has ls 5 [(0, .ref (b + 191)), (1, vI x1), (2, vI x2), (3, vI v3_), (4, vI v4_)] → t_MO_war_L33 x1 x2 fu M v3_ v4_ = some res → W p l e (headSpec (wsM y_MO_war b_MO_war 5 (some .int)) (rmD 3)).room s m ([.ref (b + 191), vI x1, vI x2] : List Value).toArray below meth c H locs 0 0 (MQ below (QI b C n res.1 res.2) ([.ref (b + 191), vI x1, vI x2] : List Value).toArray s 0 0 (frb b)) (F0 m 33 ls []) := by
  intro fu
  induction fu with
  | zero => intro M v3_ hv3_ v4_ hv4_ H locs ls hS hl hT; exact absurd hT (by simp [t_MO_war_L33])
  | succ fu ih =>
    intro M v3_ hv3_ v4_ hv4_ H locs ls hS hl hT
    rw [t_MO_war_L33] at hT
    refine lv_iload F.hx F.hb d_MO_war_33 (lv_at hl 4 rfl) ?_
    refine lv_aload_n F.hx F.hb d_MO_war_35 rfl (lv_at hl 0 rfl) ?_
    obtain ⟨q9, hq9⟩ : ∃ q, q = (t_MO_cells M) := ⟨_, rfl⟩
    replace hT := qlet_eq hT hq9
    refine r_backI F hS (r_runV (k := 191) (N := 68) (T := T1) (As := []) F hS (show 191 < 231 by decide) (show shK 191 = 5 from rfl) rfl (c_MO_cells l F.2.2.1 M _ hq9.symm) gs_MO_329 hd_MO_cells ⟨Nat.le_of_ble_eq_true rfl, Nat.le_of_ble_eq_true rfl⟩ rfl hl.1 (Nat.le_of_ble_eq_true rfl) ⟨Nat.zero_le _, Nat.zero_le _⟩ rfl d_MO_war_36) (fun H locs hS h10 => ?_)
    refine r_icmp_ge (tgt := 106) F.hx F.hb hv4_ h10 d_MO_war_39 (by decide) (fun c11 => ?_) (fun c11 => ?_)
    · replace hT := (if_pos c11).symm.trans hT
      refine lv_iload_n F.hx F.hb d_MO_war_106 rfl (lv_at hl 3 rfl) ?_
      cases hT
      exact r_iret F hlk hr rfl hS hv3_ d_MO_war_107
    · replace hT := (if_neg c11).symm.trans hT
      refine lv_aload_n F.hx F.hb d_MO_war_42 rfl (lv_at hl 0 rfl) ?_
      refine r_get (v := .ref (b + 198)) (N := 68) (T := T1) (j := 8) F hS (show 191 < 231 by decide) (show shK 191 = 5 from rfl) (show shN 191 = 68 from rfl) rfl (Nat.le_of_ble_eq_true rfl) ing1 mw_1397 (fv_sg rfl rfl rfl) d_MO_war_43 ?_
      refine lv_iload F.hx F.hb d_MO_war_46 (lv_at hl 4 rfl) ?_
      obtain ⟨⟨g12a, g12b⟩, hT⟩ := q_guard hT
      have z13 := hS.bool (show shK 198 = 1 from rfl) v4_
      refine r_zald F hS (show 198 < 231 by decide) (show shK 198 = 1 from rfl) (show shN 198 = 96 from rfl) hv4_ g12a g12b d_MO_war_48 ?_
      refine r_if_ne (tgt := 100) F.hx F.hb (inr_z z13) d_MO_war_49 (by decide) (fun c14 => ?_) (fun c14 => ?_)
      · replace hT := (if_neg c14).symm.trans hT
        exact k_MO_war_L100 l hlo x1 x2 hx1 hx2 F hlk hr (fun a0_ a1_ a2_ => t_MO_war_L33 x1 x2 fu a0_ a1_ a2_) ih M v3_ hv3_ v4_ hv4_ _ _ _ hS (lv_sub hl [0, 1, 2, 3, 4] rfl) hT
      · replace hT := (if_pos c14).symm.trans hT
        refine lv_aload_n F.hx F.hb d_MO_war_52 rfl (lv_at hl 0 rfl) ?_
        refine r_get (v := .ref (b + 197)) (N := 68) (T := T1) (j := 7) F hS (show 191 < 231 by decide) (show shK 191 = 5 from rfl) (show shN 191 = 68 from rfl) rfl (Nat.le_of_ble_eq_true rfl) ing1 mw_1396 (fv_sg rfl rfl rfl) d_MO_war_53 ?_
        refine lv_iload F.hx F.hb d_MO_war_56 (lv_at hl 4 rfl) ?_
        obtain ⟨⟨g15a, g15b⟩, hT⟩ := q_guard hT
        refine r_iald F hS (show 197 < 231 by decide) (show shK 197 = 0 from rfl) (show shN 197 = 96 from rfl) hv4_ g15a g15b d_MO_war_58 ?_
        have i16 := hS.rng 197 v4_
        refine lv_iload_n F.hx F.hb d_MO_war_59 rfl (lv_at hl 1 rfl) ?_
        refine r_iconst F.hx F.hb d_MO_war_60 ?_
        refine r_iadd F.hx F.hb d_MO_war_61 ?_
        refine r_icmp_eq (tgt := 68) F.hx F.hb i16 (inr_w32 _) d_MO_war_62 (by decide) (fun c17 => ?_) (fun c17 => ?_)
        · replace hT := (if_pos c17).symm.trans hT
          refine lv_aload_n F.hx F.hb d_MO_war_68 rfl (lv_at hl 0 rfl) ?_
          refine r_iconst F.hx F.hb d_MO_war_69 ?_
          refine lv_iload F.hx F.hb d_MO_war_70 (lv_at hl 4 rfl) ?_
          obtain ⟨q18, hq18, hT⟩ := q_obind hT
          refine r_backV F hS (r_runV (k := 191) (N := 68) (T := T1) (As := [vI 0, vI v4_]) F hS (show 191 < 231 by decide) (show shK 191 = 5 from rfl) rfl (c_MO_goesFrom l F.2.2.1 M 0 v4_ (inr_c rfl) hv4_ _ hq18) gs_MO_414 hd_MO_goesFrom ⟨Nat.le_of_ble_eq_true rfl, Nat.le_of_ble_eq_true rfl⟩ rfl hl.1 (Nat.le_of_ble_eq_true rfl) ⟨Nat.zero_le _, Nat.zero_le _⟩ rfl d_MO_war_72) (fun H locs hS => ?_)
          refine lv_iload_n F.hx F.hb d_MO_war_75 rfl (lv_at hl 3 rfl) ?_
          refine lv_aload_n F.hx F.hb d_MO_war_76 rfl (lv_at hl 0 rfl) ?_
          refine r_get (v := vI (q18.1 191 49)) (N := 68) (T := T1) (j := 49) F hS (show 191 < 231 by decide) (show shK 191 = 5 from rfl) (show shN 191 = 68 from rfl) rfl (Nat.le_of_ble_eq_true rfl) ing1 mw_1438 (fv_int rfl) d_MO_war_77 ?_
          have i20 := hS.rng 191 49
          refine r_if_le (tgt := 97) F.hx F.hb i20 d_MO_war_80 (by decide) (fun c21 => ?_) (fun c21 => ?_)
          · replace hT := (if_pos c21).symm.trans hT
            exact k_MO_war_L97 l hlo x1 x2 hx1 hx2 F hlk hr (fun a0_ a1_ a2_ => t_MO_war_L33 x1 x2 fu a0_ a1_ a2_) ih q18 v4_ hv4_ v3_ hv3_ _ _ _ hS (lv_sub hl [0, 1, 2, 4] rfl) hT
          · replace hT := (if_neg c21).symm.trans hT
            refine lv_aload_n F.hx F.hb d_MO_war_83 rfl (lv_at hl 0 rfl) ?_
            refine r_get (v := vI (q18.1 191 50)) (N := 68) (T := T1) (j := 50) F hS (show 191 < 231 by decide) (show shK 191 = 5 from rfl) (show shN 191 = 68 from rfl) rfl (Nat.le_of_ble_eq_true rfl) ing1 mw_1439 (fv_int rfl) d_MO_war_84 ?_
            have i22 := hS.rng 191 50
            refine lv_iload_n F.hx F.hb d_MO_war_87 rfl (lv_at hl 2 rfl) ?_
            refine r_iconst F.hx F.hb d_MO_war_88 ?_
            refine r_iadd F.hx F.hb d_MO_war_89 ?_
            refine r_icmp_ne (tgt := 97) F.hx F.hb i22 (inr_w32 _) d_MO_war_90 (by decide) (fun c23 => ?_) (fun c23 => ?_)
            · replace hT := (if_neg c23).symm.trans hT
              exact k_MO_war_L97 l hlo x1 x2 hx1 hx2 F hlk hr (fun a0_ a1_ a2_ => t_MO_war_L33 x1 x2 fu a0_ a1_ a2_) ih q18 v4_ hv4_ v3_ hv3_ _ _ _ hS (lv_sub hl [0, 1, 2, 4] rfl) hT
            · replace hT := (if_pos c23).symm.trans hT
              refine r_iconst F.hx F.hb d_MO_war_93 ?_
              refine lv_goto (tgt := 98) F.hx F.hb d_MO_war_94 (by decide) ?_
              exact k_MO_war_L98 l hlo x1 x2 hx1 hx2 F hlk hr (fun a0_ a1_ a2_ => t_MO_war_L33 x1 x2 fu a0_ a1_ a2_) ih q18 v4_ hv4_ v3_ hv3_ 1 (Or.inr rfl) _ _ _ hS (lv_sub hl [0, 1, 2, 4] rfl) hT
        · replace hT := (if_neg c17).symm.trans hT
          refine lv_goto (tgt := 100) F.hx F.hb d_MO_war_65 (by decide) ?_
          exact k_MO_war_L100 l hlo x1 x2 hx1 hx2 F hlk hr (fun a0_ a1_ a2_ => t_MO_war_L33 x1 x2 fu a0_ a1_ a2_) ih M v3_ hv3_ v4_ hv4_ _ _ _ hS (lv_sub hl [0, 1, 2, 3, 4] rfl) hT
set_option maxHeartbeats 4000000 in
set_option maxRecDepth 100000 in
theorem c_MO_war (l : Launch) {b n : Nat} {C : CT} (hlo : 231 ≤ n) (M : Mem) (x1 : Int) (x2 : Int) (hx1 : InR x1) (hx2 : InR x2) (res : Mem × Int) (hT : t_MO_war M x1 x2 = some res) : CM l b C n 3 y_MO_war b_MO_war 5 (some .int) [.ref (b + 191), vI x1, vI x2] M (QI b C n res.1 res.2) := by
  refine CM.of (lo := 231) (ow := "WardFallsModel") (by decide) rfl (Nat.le_of_ble_eq_true rfl) hlo (fun p e s m below meth c F hlk hr hS ls hl => ?_)
  have hl : lv_has ls 5 [(0, .ref (b + 191)), (1, vI x1), (2, vI x2)] := hl
  unfold t_MO_war at hT
  refine lv_aload_n F.hx F.hb d_MO_war_0 rfl (lv_at hl 0 rfl) ?_
  refine r_iconst F.hx F.hb d_MO_war_1 ?_
  refine r_putI (N := 68) (T := T1) (j := 0) F hS (show 191 < 231 by decide) (show shK 191 = 5 from rfl) (show shN 191 = 68 from rfl) rfl (Nat.le_of_ble_eq_true rfl) ing1 tyok1 nm1 rfl rfl rfl rfl rfl rfl mw_1389 (inr_c rfl) d_MO_war_2 (fun H locs hS => ?_)
  obtain ⟨M1, eM1⟩ : ∃ q, q = (setI M 191 0 0) := ⟨_, rfl⟩
  replace hS : St b C n M1 s H locs := by rw [eM1]; exact hS
  replace hT := qlet_eq hT eM1
  refine lv_aload_n F.hx F.hb d_MO_war_5 rfl (lv_at hl 0 rfl) ?_
  refine lv_iload_n F.hx F.hb d_MO_war_6 rfl (lv_at hl 1 rfl) ?_
  obtain ⟨q2, hq2⟩ : ∃ q, q = (t_MO_isWard M1 x1) := ⟨_, rfl⟩
  replace hT := qlet_eq hT hq2
  refine r_backZ F hS (r_runV (k := 191) (N := 68) (T := T1) (As := [vI x1]) F hS (show 191 < 231 by decide) (show shK 191 = 5 from rfl) rfl (c_MO_isWard l F.2.2.1 M1 x1 hx1 _ hq2.symm) gs_MO_369 hd_MO_isWard ⟨Nat.le_of_ble_eq_true rfl, Nat.le_of_ble_eq_true rfl⟩ rfl hl.1 (Nat.le_of_ble_eq_true rfl) ⟨Nat.zero_le _, Nat.zero_le _⟩ rfl d_MO_war_7) (fun H locs hS h3 => ?_)
  refine r_if_eq (tgt := 26) F.hx F.hb (inr_z h3) d_MO_war_10 (by decide) (fun c4 => ?_) (fun c4 => ?_)
  · replace hT := (if_pos c4).symm.trans hT
    refine r_iconst F.hx F.hb d_MO_war_26 ?_
    cases hT
    exact r_iret F hlk hr rfl hS (inr_c rfl) d_MO_war_27
  · replace hT := (if_neg c4).symm.trans hT
    refine lv_aload_n F.hx F.hb d_MO_war_13 rfl (lv_at hl 0 rfl) ?_
    refine lv_iload_n F.hx F.hb d_MO_war_14 rfl (lv_at hl 2 rfl) ?_
    obtain ⟨q5, hq5⟩ : ∃ q, q = (t_MO_isWard M1 x2) := ⟨_, rfl⟩
    replace hT := qlet_eq hT hq5
    refine r_backZ F hS (r_runV (k := 191) (N := 68) (T := T1) (As := [vI x2]) F hS (show 191 < 231 by decide) (show shK 191 = 5 from rfl) rfl (c_MO_isWard l F.2.2.1 M1 x2 hx2 _ hq5.symm) gs_MO_369 hd_MO_isWard ⟨Nat.le_of_ble_eq_true rfl, Nat.le_of_ble_eq_true rfl⟩ rfl hl.1 (Nat.le_of_ble_eq_true rfl) ⟨Nat.zero_le _, Nat.zero_le _⟩ rfl d_MO_war_15) (fun H locs hS h6 => ?_)
    refine r_if_eq (tgt := 26) F.hx F.hb (inr_z h6) d_MO_war_18 (by decide) (fun c7 => ?_) (fun c7 => ?_)
    · replace hT := (if_pos c7).symm.trans hT
      refine r_iconst F.hx F.hb d_MO_war_26 ?_
      cases hT
      exact r_iret F hlk hr rfl hS (inr_c rfl) d_MO_war_27
    · replace hT := (if_neg c7).symm.trans hT
      refine lv_iload_n F.hx F.hb d_MO_war_21 rfl (lv_at hl 1 rfl) ?_
      refine lv_iload_n F.hx F.hb d_MO_war_22 rfl (lv_at hl 2 rfl) ?_
      refine r_icmp_ne (tgt := 28) F.hx F.hb hx1 hx2 d_MO_war_23 (by decide) (fun c8 => ?_) (fun c8 => ?_)
      · replace hT := (if_neg c8).symm.trans hT
        refine r_iconst F.hx F.hb d_MO_war_28 ?_
        refine lv_istore_n (lv' := [(3, vI 0), (0, .ref (b + 191)), (1, vI x1), (2, vI x2)]) F.hx F.hb d_MO_war_29 rfl hl (Nat.le_of_ble_eq_true rfl) rfl (fun ls hl => ?_)
        refine r_iconst F.hx F.hb d_MO_war_30 ?_
        refine lv_istore (lv' := [(4, vI 0), (3, vI 0), (0, .ref (b + 191)), (1, vI x1), (2, vI x2)]) F.hx F.hb d_MO_war_31 hl (Nat.le_of_ble_eq_true rfl) rfl (fun ls hl => ?_)
        exact k_MO_war_L33 l hlo x1 x2 hx1 hx2 F hlk hr FU M1 0 (inr_c rfl) 0 (inr_c rfl) _ _ _ hS (lv_sub hl [2, 3, 4, 1, 0] rfl) hT
      · replace hT := (if_pos c8).symm.trans hT
        refine r_iconst F.hx F.hb d_MO_war_26 ?_
        cases hT
        exact r_iret F hlk hr rfl hS (inr_c rfl) d_MO_war_27
theorem d_MO_nets_0 : decode b_MO_nets 0 = .ok (.aload_n 0, 1) := dc_42 (by decide +kernel)
theorem d_MO_nets_1 : decode b_MO_nets 1 = .ok (.iconst 0, 1) := dc_3 (by decide +kernel)
theorem d_MO_nets_2 : decode b_MO_nets 2 = .ok (.putfield 145, 3) := dc_181 (by decide +kernel)
theorem d_MO_nets_5 : decode b_MO_nets 5 = .ok (.lconst 0, 1) := dc_9 (by decide +kernel)
theorem d_MO_nets_6 : decode b_MO_nets 6 = .ok (.lstore_n 1, 1) := dc_64 (by decide +kernel)
theorem d_MO_nets_7 : decode b_MO_nets 7 = .ok (.iconst 0, 1) := dc_3 (by decide +kernel)
theorem d_MO_nets_8 : decode b_MO_nets 8 = .ok (.istore_n 3, 1) := dc_62 (by decide +kernel)
theorem d_MO_nets_9 : decode b_MO_nets 9 = .ok (.iload_n 3, 1) := dc_29 (by decide +kernel)
theorem d_MO_nets_10 : decode b_MO_nets 10 = .ok (.aload_n 0, 1) := dc_42 (by decide +kernel)
theorem d_MO_nets_11 : decode b_MO_nets 11 = .ok (.invokevirtual 329, 3) := dc_182 (by decide +kernel)
theorem d_MO_nets_14 : decode b_MO_nets 14 = .ok (.if_icmp .ge 51, 3) := dc_162 (by decide +kernel)
theorem d_MO_nets_17 : decode b_MO_nets 17 = .ok (.aload_n 0, 1) := dc_42 (by decide +kernel)
theorem d_MO_nets_18 : decode b_MO_nets 18 = .ok (.getfield 28, 3) := dc_180 (by decide +kernel)
theorem d_MO_nets_21 : decode b_MO_nets 21 = .ok (.iload_n 3, 1) := dc_29 (by decide +kernel)
theorem d_MO_nets_22 : decode b_MO_nets 22 = .ok (.baload, 1) := dc_51 (by decide +kernel)
theorem d_MO_nets_23 : decode b_MO_nets 23 = .ok (.ifCond .eq 6, 3) := dc_153 (by decide +kernel)
theorem d_MO_nets_26 : decode b_MO_nets 26 = .ok (.goto 33, 3) := dc_167 (by decide +kernel)
theorem d_MO_nets_29 : decode b_MO_nets 29 = .ok (.aload_n 0, 1) := dc_42 (by decide +kernel)
theorem d_MO_nets_30 : decode b_MO_nets 30 = .ok (.iconst 0, 1) := dc_3 (by decide +kernel)
theorem d_MO_nets_31 : decode b_MO_nets 31 = .ok (.iload_n 3, 1) := dc_29 (by decide +kernel)
theorem d_MO_nets_32 : decode b_MO_nets 32 = .ok (.invokevirtual 350, 3) := dc_182 (by decide +kernel)
theorem d_MO_nets_35 : decode b_MO_nets 35 = .ok (.istore 4, 2) := dc_54 (by decide +kernel)
theorem d_MO_nets_37 : decode b_MO_nets 37 = .ok (.iload 4, 2) := dc_21 (by decide +kernel)
theorem d_MO_nets_39 : decode b_MO_nets 39 = .ok (.iconst (-1), 1) := dc_2 (by decide +kernel)
theorem d_MO_nets_40 : decode b_MO_nets 40 = .ok (.if_icmp .eq 19, 3) := dc_159 (by decide +kernel)
theorem d_MO_nets_43 : decode b_MO_nets 43 = .ok (.aload_n 0, 1) := dc_42 (by decide +kernel)
theorem d_MO_nets_44 : decode b_MO_nets 44 = .ok (.iload_n 3, 1) := dc_29 (by decide +kernel)
theorem d_MO_nets_45 : decode b_MO_nets 45 = .ok (.iload 4, 2) := dc_21 (by decide +kernel)
theorem d_MO_nets_47 : decode b_MO_nets 47 = .ok (.invokevirtual 359, 3) := dc_182 (by decide +kernel)
theorem d_MO_nets_50 : decode b_MO_nets 50 = .ok (.ifCond .eq 9, 3) := dc_153 (by decide +kernel)
theorem d_MO_nets_53 : decode b_MO_nets 53 = .ok (.lload_n 1, 1) := dc_31 (by decide +kernel)
theorem d_MO_nets_54 : decode b_MO_nets 54 = .ok (.lconst 1, 1) := dc_10 (by decide +kernel)
theorem d_MO_nets_55 : decode b_MO_nets 55 = .ok (.iload_n 3, 1) := dc_29 (by decide +kernel)
theorem d_MO_nets_56 : decode b_MO_nets 56 = .ok (.lshl, 1) := dc_121 (by decide +kernel)
theorem d_MO_nets_57 : decode b_MO_nets 57 = .ok (.lor, 1) := dc_129 (by decide +kernel)
theorem d_MO_nets_58 : decode b_MO_nets 58 = .ok (.lstore_n 1, 1) := dc_64 (by decide +kernel)
theorem d_MO_nets_59 : decode b_MO_nets 59 = .ok (.iinc 3 1, 3) := dc_132 (by decide +kernel)
theorem d_MO_nets_62 : decode b_MO_nets 62 = .ok (.goto (-53), 3) := dc_167 (by decide +kernel)
theorem d_MO_nets_65 : decode b_MO_nets 65 = .ok (.lload_n 1, 1) := dc_31 (by decide +kernel)
theorem d_MO_nets_66 : decode b_MO_nets 66 = .ok (.lreturn, 1) := dc_173 (by decide +kernel)
def t_MO_nets_L59  (bk9 : Mem → Int64 → Int → Option (Mem × Int64)) (M : Mem) (v1_ : Int64) (v2_ : Int) : Option (Mem × Int64) := (bk9 M v1_ (w32 (v2_ + 1)))
def t_MO_nets_L9   : Nat → Mem → Int64 → Int → Option (Mem × Int64)
  | 0, _, _, _ => none
  | fu + 1, M, v1_, v2_ => (qlet (t_MO_cells M) fun q2 => (if q2 ≤ v2_ then (some (M, v1_)) else (qguard (0 ≤ v2_ ∧ v2_ < 96) (if (M.1 198 v2_) = 0 then (obind (t_MO_nextOf M 0 v2_) fun q8 => (if q8 = (-1) then (t_MO_nets_L59 (fun a0_ a1_ a2_ => t_MO_nets_L9 fu a0_ a1_ a2_) M v1_ v2_) else (obind (t_MO_isLine M v2_ q8) fun q11 => (if q11 = 0 then (t_MO_nets_L59 (fun a0_ a1_ a2_ => t_MO_nets_L9 fu a0_ a1_ a2_) M v1_ v2_) else (t_MO_nets_L59 (fun a0_ a1_ a2_ => t_MO_nets_L9 fu a0_ a1_ a2_) M (v1_ ||| (q_lshl 1 v2_)) v2_))))) else (t_MO_nets_L59 (fun a0_ a1_ a2_ => t_MO_nets_L9 fu a0_ a1_ a2_) M v1_ v2_)))))
def t_MO_nets (M : Mem)  : Option (Mem × Int64) := (qlet (setI M 191 0 0) fun M1 => (t_MO_nets_L9 FU M1 0 0))
set_option maxHeartbeats 4000000 in
set_option maxRecDepth 100000 in
theorem k_MO_nets_L59 (l : Launch) {p : Program} {e : Env} {s : State} {m : MethodId} {below : List Frame} {meth : Method} {c : Code} {b n : Nat} {C : CT} (hlo : 231 ≤ n)   (F : Cx b p m c b_MO_nets 5 s ([.ref (b + 191)] : List Value).toArray "WardFallsModel" C n 231) (hlk : meth.locks = false) (hr : meth.sig.returnType = some .long) {res : Mem × Int64} (bk9 : Mem → Int64 → Int → Option (Mem × Int64)) (hbk9 : ∀ (M : Mem) (v1_ : Int64) (v2_ : Int) (hv2_ : InR v2_) (H : Heap) (locs : List Loc) (ls : Array Slot), St b C n M s H locs → lv_has ls 5 [(0, .ref (b + 191)), (1, .long v1_), (3, vI v2_)] → bk9 M v1_ v2_ = some res → W p l e (headSpec (wsM y_MO_nets b_MO_nets 5 (some .long)) (rmD 2)).room s m ([.ref (b + 191)] : List Value).toArray below meth c H locs 0 0 (MQ below (QL b C n res.1 res.2) ([.ref (b + 191)] : List Value).toArray s 0 0 (frb b)) (F0 m 9 ls [])) (M : Mem) (v1_ : Int64) (v2_ : Int) (hv2_ : InR v2_) (H : Heap) (locs : List Loc) (ls : Array Slot) (hS : St b C n M s H locs) (hl : lv_has ls 5 [(0, .ref (b + 191)), (1, .long v1_), (3, vI v2_)]) (hT : t_MO_nets_L59 bk9 M v1_ v2_ = some res) : W p l e (headSpec (wsM y_MO_nets b_MO_nets 5 (some .long)) (rmD 2)).room s m ([.ref (b + 191)] : List Value).toArray below meth c H locs 0 0 (MQ below (QL b C n res.1 res.2) ([.ref (b + 191)] : List Value).toArray s 0 0 (frb b)) (F0 m 59 ls []) := by
  unfold t_MO_nets_L59 at hT
  refine lv_iinc (v := Int32.ofInt (w32 (v2_ + 1))) (lv' := [(3, vI (w32 (v2_ + 1))), (0, .ref (b + 191)), (1, .long v1_)]) F.hx F.hb d_MO_nets_59 hl (k := 2) rfl (q_of_add _ _) (Nat.le_of_ble_eq_true rfl) rfl (fun ls hl => ?_)
  refine lv_goto (tgt := 9) F.hx F.hb d_MO_nets_62 (by decide) ?_
  exact hbk9 M v1_ (w32 (v2_ + 1)) (inr_w32 _) _ _ _ hS (lv_sub hl [1, 2, 0] rfl) hT
set_option maxHeartbeats 4000000 in
set_option maxRecDepth 100000 in
theorem k_MO_nets_L9 (l : Launch) {p : Program} {e : Env} {s : State} {m : MethodId} {below : List Frame} {meth : Method} {c : Code} {b n : Nat} {C : CT} (hlo : 231 ≤ n)   (F : Cx b p m c b_MO_nets 5 s ([.ref (b + 191)] : List Value).toArray "WardFallsModel" C n 231) (hlk : meth.locks = false) (hr : meth.sig.returnType = some .long) {res : Mem × Int64} : ∀ (fu : Nat) (M : Mem) (v1_ : Int64) (v2_ : Int) (hv2_ : InR v2_) (H : Heap) (locs : List Loc) (ls : Array Slot), St b C n M s H locs → lv_has ls 5 [(0, .ref (b + 191)), (1, .long v1_), (3, vI v2_)] → t_MO_nets_L9 fu M v1_ v2_ = some res → W p l e (headSpec (wsM y_MO_nets b_MO_nets 5 (some .long)) (rmD 2)).room s m ([.ref (b + 191)] : List Value).toArray below meth c H locs 0 0 (MQ below (QL b C n res.1 res.2) ([.ref (b + 191)] : List Value).toArray s 0 0 (frb b)) (F0 m 9 ls []) := by
  intro fu
  induction fu with
  | zero => intro M v1_ v2_ hv2_ H locs ls hS hl hT; exact absurd hT (by simp [t_MO_nets_L9])
  | succ fu ih =>
    intro M v1_ v2_ hv2_ H locs ls hS hl hT
    rw [t_MO_nets_L9] at hT
    refine lv_iload_n F.hx F.hb d_MO_nets_9 rfl (lv_at hl 2 rfl) ?_
    refine lv_aload_n F.hx F.hb d_MO_nets_10 rfl (lv_at hl 0 rfl) ?_
    obtain ⟨q2, hq2⟩ : ∃ q, q = (t_MO_cells M) := ⟨_, rfl⟩
    replace hT := qlet_eq hT hq2
    refine r_backI F hS (r_runV (k := 191) (N := 68) (T := T1) (As := []) F hS (show 191 < 231 by decide) (show shK 191 = 5 from rfl) rfl (c_MO_cells l F.2.2.1 M _ hq2.symm) gs_MO_329 hd_MO_cells ⟨Nat.le_of_ble_eq_true rfl, Nat.le_of_ble_eq_true rfl⟩ rfl hl.1 (Nat.le_of_ble_eq_true rfl) ⟨Nat.zero_le _, Nat.zero_le _⟩ rfl d_MO_nets_11) (fun H locs hS h3 => ?_)
    refine r_icmp_ge (tgt := 65) F.hx F.hb hv2_ h3 d_MO_nets_14 (by decide) (fun c4 => ?_) (fun c4 => ?_)
    · replace hT := (if_pos c4).symm.trans hT
      refine lv_lload_n F.hx F.hb d_MO_nets_65 rfl (lv_at hl 1 rfl) ?_
      cases hT
      exact r_lret F hlk hr hS d_MO_nets_66
    · replace hT := (if_neg c4).symm.trans hT
      refine lv_aload_n F.hx F.hb d_MO_nets_17 rfl (lv_at hl 0 rfl) ?_
      refine r_get (v := .ref (b + 198)) (N := 68) (T := T1) (j := 8) F hS (show 191 < 231 by decide) (show shK 191 = 5 from rfl) (show shN 191 = 68 from rfl) rfl (Nat.le_of_ble_eq_true rfl) ing1 mw_1397 (fv_sg rfl rfl rfl) d_MO_nets_18 ?_
      refine lv_iload_n F.hx F.hb d_MO_nets_21 rfl (lv_at hl 2 rfl) ?_
      obtain ⟨⟨g5a, g5b⟩, hT⟩ := q_guard hT
      have z6 := hS.bool (show shK 198 = 1 from rfl) v2_
      refine r_zald F hS (show 198 < 231 by decide) (show shK 198 = 1 from rfl) (show shN 198 = 96 from rfl) hv2_ g5a g5b d_MO_nets_22 ?_
      refine r_if_eq (tgt := 29) F.hx F.hb (inr_z z6) d_MO_nets_23 (by decide) (fun c7 => ?_) (fun c7 => ?_)
      · replace hT := (if_pos c7).symm.trans hT
        refine lv_aload_n F.hx F.hb d_MO_nets_29 rfl (lv_at hl 0 rfl) ?_
        refine r_iconst F.hx F.hb d_MO_nets_30 ?_
        refine lv_iload_n F.hx F.hb d_MO_nets_31 rfl (lv_at hl 2 rfl) ?_
        obtain ⟨q8, hq8, hT⟩ := q_obind hT
        refine r_backI F hS (r_runV (k := 191) (N := 68) (T := T1) (As := [vI 0, vI v2_]) F hS (show 191 < 231 by decide) (show shK 191 = 5 from rfl) rfl (c_MO_nextOf l F.2.2.1 M 0 v2_ (inr_c rfl) hv2_ _ hq8) gs_MO_350 hd_MO_nextOf ⟨Nat.le_of_ble_eq_true rfl, Nat.le_of_ble_eq_true rfl⟩ rfl hl.1 (Nat.le_of_ble_eq_true rfl) ⟨Nat.zero_le _, Nat.zero_le _⟩ rfl d_MO_nets_32) (fun H locs hS h9 => ?_)
        refine lv_istore (lv' := [(4, vI q8), (0, .ref (b + 191)), (1, .long v1_), (3, vI v2_)]) F.hx F.hb d_MO_nets_35 hl (Nat.le_of_ble_eq_true rfl) rfl (fun ls hl => ?_)
        refine lv_iload F.hx F.hb d_MO_nets_37 (lv_at hl 0 rfl) ?_
        refine r_iconst F.hx F.hb d_MO_nets_39 ?_
        refine r_icmp_eq (tgt := 59) F.hx F.hb h9 (inr_c rfl) d_MO_nets_40 (by decide) (fun c10 => ?_) (fun c10 => ?_)
        · replace hT := (if_pos c10).symm.trans hT
          exact k_MO_nets_L59 l hlo F hlk hr (fun a0_ a1_ a2_ => t_MO_nets_L9 fu a0_ a1_ a2_) ih M v1_ v2_ hv2_ _ _ _ hS (lv_sub hl [1, 2, 3] rfl) hT
        · replace hT := (if_neg c10).symm.trans hT
          refine lv_aload_n F.hx F.hb d_MO_nets_43 rfl (lv_at hl 1 rfl) ?_
          refine lv_iload_n F.hx F.hb d_MO_nets_44 rfl (lv_at hl 3 rfl) ?_
          refine lv_iload F.hx F.hb d_MO_nets_45 (lv_at hl 0 rfl) ?_
          obtain ⟨q11, hq11, hT⟩ := q_obind hT
          refine r_backZ F hS (r_runV (k := 191) (N := 68) (T := T1) (As := [vI v2_, vI q8]) F hS (show 191 < 231 by decide) (show shK 191 = 5 from rfl) rfl (c_MO_isLine l F.2.2.1 M v2_ q8 hv2_ h9 _ hq11) gs_MO_359 hd_MO_isLine ⟨Nat.le_of_ble_eq_true rfl, Nat.le_of_ble_eq_true rfl⟩ rfl hl.1 (Nat.le_of_ble_eq_true rfl) ⟨Nat.zero_le _, Nat.zero_le _⟩ rfl d_MO_nets_47) (fun H locs hS h12 => ?_)
          refine r_if_eq (tgt := 59) F.hx F.hb (inr_z h12) d_MO_nets_50 (by decide) (fun c13 => ?_) (fun c13 => ?_)
          · replace hT := (if_pos c13).symm.trans hT
            exact k_MO_nets_L59 l hlo F hlk hr (fun a0_ a1_ a2_ => t_MO_nets_L9 fu a0_ a1_ a2_) ih M v1_ v2_ hv2_ _ _ _ hS (lv_sub hl [1, 2, 3] rfl) hT
          · replace hT := (if_neg c13).symm.trans hT
            refine lv_lload_n F.hx F.hb d_MO_nets_53 rfl (lv_at hl 2 rfl) ?_
            refine lv_lconst (v := 1) F.hx F.hb d_MO_nets_54 rfl ?_
            refine lv_iload_n F.hx F.hb d_MO_nets_55 rfl (lv_at hl 3 rfl) ?_
            refine r_lshl F.hx F.hb d_MO_nets_56 ?_
            refine lv_lor F.hx F.hb d_MO_nets_57 ?_
            refine lv_lstore_n (lv' := [(1, .long (v1_ ||| (q_lshl 1 v2_))), (4, vI q8), (0, .ref (b + 191)), (3, vI v2_)]) F.hx F.hb d_MO_nets_58 rfl hl (Nat.le_of_ble_eq_true rfl) rfl (fun ls hl => ?_)
            exact k_MO_nets_L59 l hlo F hlk hr (fun a0_ a1_ a2_ => t_MO_nets_L9 fu a0_ a1_ a2_) ih M (v1_ ||| (q_lshl 1 v2_)) v2_ hv2_ _ _ _ hS (lv_sub hl [2, 0, 3] rfl) hT
      · replace hT := (if_neg c7).symm.trans hT
        refine lv_goto (tgt := 59) F.hx F.hb d_MO_nets_26 (by decide) ?_
        exact k_MO_nets_L59 l hlo F hlk hr (fun a0_ a1_ a2_ => t_MO_nets_L9 fu a0_ a1_ a2_) ih M v1_ v2_ hv2_ _ _ _ hS (lv_sub hl [0, 1, 2] rfl) hT
set_option maxHeartbeats 4000000 in
set_option maxRecDepth 100000 in
theorem c_MO_nets (l : Launch) {b n : Nat} {C : CT} (hlo : 231 ≤ n) (M : Mem)   (res : Mem × Int64) (hT : t_MO_nets M  = some res) : CM l b C n 2 y_MO_nets b_MO_nets 5 (some .long) [.ref (b + 191)] M (QL b C n res.1 res.2) := by
  refine CM.of (lo := 231) (ow := "WardFallsModel") (by decide) rfl (Nat.le_of_ble_eq_true rfl) hlo (fun p e s m below meth c F hlk hr hS ls hl => ?_)
  have hl : lv_has ls 5 [(0, .ref (b + 191))] := hl
  unfold t_MO_nets at hT
  refine lv_aload_n F.hx F.hb d_MO_nets_0 rfl (lv_at hl 0 rfl) ?_
  refine r_iconst F.hx F.hb d_MO_nets_1 ?_
  refine r_putI (N := 68) (T := T1) (j := 0) F hS (show 191 < 231 by decide) (show shK 191 = 5 from rfl) (show shN 191 = 68 from rfl) rfl (Nat.le_of_ble_eq_true rfl) ing1 tyok1 nm1 rfl rfl rfl rfl rfl rfl mw_1389 (inr_c rfl) d_MO_nets_2 (fun H locs hS => ?_)
  obtain ⟨M1, eM1⟩ : ∃ q, q = (setI M 191 0 0) := ⟨_, rfl⟩
  replace hS : St b C n M1 s H locs := by rw [eM1]; exact hS
  replace hT := qlet_eq hT eM1
  refine lv_lconst (v := 0) F.hx F.hb d_MO_nets_5 rfl ?_
  refine lv_lstore_n (lv' := [(1, .long 0), (0, .ref (b + 191))]) F.hx F.hb d_MO_nets_6 rfl hl (Nat.le_of_ble_eq_true rfl) rfl (fun ls hl => ?_)
  refine r_iconst F.hx F.hb d_MO_nets_7 ?_
  refine lv_istore_n (lv' := [(3, vI 0), (1, .long 0), (0, .ref (b + 191))]) F.hx F.hb d_MO_nets_8 rfl hl (Nat.le_of_ble_eq_true rfl) rfl (fun ls hl => ?_)
  exact k_MO_nets_L9 l hlo F hlk hr FU M1 0 0 (inr_c rfl) _ _ _ hS (lv_sub hl [2, 1, 0] rfl) hT
theorem d_MO_longest_0 : decode b_MO_longest 0 = .ok (.iconst 0, 1) := dc_3 (by decide +kernel)
theorem d_MO_longest_1 : decode b_MO_longest 1 = .ok (.istore_n 2, 1) := dc_61 (by decide +kernel)
theorem d_MO_longest_2 : decode b_MO_longest 2 = .ok (.aload_n 0, 1) := dc_42 (by decide +kernel)
theorem d_MO_longest_3 : decode b_MO_longest 3 = .ok (.iconst (-1), 1) := dc_2 (by decide +kernel)
theorem d_MO_longest_4 : decode b_MO_longest 4 = .ok (.putfield 477, 3) := dc_181 (by decide +kernel)
theorem d_MO_longest_7 : decode b_MO_longest 7 = .ok (.iconst 0, 1) := dc_3 (by decide +kernel)
theorem d_MO_longest_8 : decode b_MO_longest 8 = .ok (.istore_n 3, 1) := dc_62 (by decide +kernel)
theorem d_MO_longest_9 : decode b_MO_longest 9 = .ok (.iload_n 3, 1) := dc_29 (by decide +kernel)
theorem d_MO_longest_10 : decode b_MO_longest 10 = .ok (.aload_n 0, 1) := dc_42 (by decide +kernel)
theorem d_MO_longest_11 : decode b_MO_longest 11 = .ok (.invokevirtual 329, 3) := dc_182 (by decide +kernel)
theorem d_MO_longest_14 : decode b_MO_longest 14 = .ok (.if_icmp .ge 55, 3) := dc_162 (by decide +kernel)
theorem d_MO_longest_17 : decode b_MO_longest 17 = .ok (.aload_n 0, 1) := dc_42 (by decide +kernel)
theorem d_MO_longest_18 : decode b_MO_longest 18 = .ok (.getfield 28, 3) := dc_180 (by decide +kernel)
theorem d_MO_longest_21 : decode b_MO_longest 21 = .ok (.iload_n 3, 1) := dc_29 (by decide +kernel)
theorem d_MO_longest_22 : decode b_MO_longest 22 = .ok (.baload, 1) := dc_51 (by decide +kernel)
theorem d_MO_longest_23 : decode b_MO_longest 23 = .ok (.ifCond .eq 6, 3) := dc_153 (by decide +kernel)
theorem d_MO_longest_26 : decode b_MO_longest 26 = .ok (.goto 37, 3) := dc_167 (by decide +kernel)
theorem d_MO_longest_29 : decode b_MO_longest 29 = .ok (.aload_n 0, 1) := dc_42 (by decide +kernel)
theorem d_MO_longest_30 : decode b_MO_longest 30 = .ok (.iload_n 1, 1) := dc_27 (by decide +kernel)
theorem d_MO_longest_31 : decode b_MO_longest 31 = .ok (.iload_n 3, 1) := dc_29 (by decide +kernel)
theorem d_MO_longest_32 : decode b_MO_longest 32 = .ok (.invokevirtual 414, 3) := dc_182 (by decide +kernel)
theorem d_MO_longest_35 : decode b_MO_longest 35 = .ok (.aload_n 0, 1) := dc_42 (by decide +kernel)
theorem d_MO_longest_36 : decode b_MO_longest 36 = .ok (.getfield 353, 3) := dc_180 (by decide +kernel)
theorem d_MO_longest_39 : decode b_MO_longest 39 = .ok (.ifCond .gt 24, 3) := dc_157 (by decide +kernel)
theorem d_MO_longest_42 : decode b_MO_longest 42 = .ok (.aload_n 0, 1) := dc_42 (by decide +kernel)
theorem d_MO_longest_43 : decode b_MO_longest 43 = .ok (.getfield 347, 3) := dc_180 (by decide +kernel)
theorem d_MO_longest_46 : decode b_MO_longest 46 = .ok (.iload_n 2, 1) := dc_28 (by decide +kernel)
theorem d_MO_longest_47 : decode b_MO_longest 47 = .ok (.if_icmp .gt 6, 3) := dc_163 (by decide +kernel)
theorem d_MO_longest_50 : decode b_MO_longest 50 = .ok (.goto 13, 3) := dc_167 (by decide +kernel)
theorem d_MO_longest_53 : decode b_MO_longest 53 = .ok (.aload_n 0, 1) := dc_42 (by decide +kernel)
theorem d_MO_longest_54 : decode b_MO_longest 54 = .ok (.getfield 347, 3) := dc_180 (by decide +kernel)
theorem d_MO_longest_57 : decode b_MO_longest 57 = .ok (.istore_n 2, 1) := dc_61 (by decide +kernel)
theorem d_MO_longest_58 : decode b_MO_longest 58 = .ok (.aload_n 0, 1) := dc_42 (by decide +kernel)
theorem d_MO_longest_59 : decode b_MO_longest 59 = .ok (.iload_n 3, 1) := dc_29 (by decide +kernel)
theorem d_MO_longest_60 : decode b_MO_longest 60 = .ok (.putfield 477, 3) := dc_181 (by decide +kernel)
theorem d_MO_longest_63 : decode b_MO_longest 63 = .ok (.iinc 3 1, 3) := dc_132 (by decide +kernel)
theorem d_MO_longest_66 : decode b_MO_longest 66 = .ok (.goto (-57), 3) := dc_167 (by decide +kernel)
theorem d_MO_longest_69 : decode b_MO_longest 69 = .ok (.iload_n 2, 1) := dc_28 (by decide +kernel)
theorem d_MO_longest_70 : decode b_MO_longest 70 = .ok (.ireturn, 1) := dc_172 (by decide +kernel)
def t_MO_longest_L63 (x1 : Int) (bk9 : Mem → Int → Int → Option (Mem × Int)) (M : Mem) (v2_ : Int) (v3_ : Int) : Option (Mem × Int) := (bk9 M v2_ (w32 (v3_ + 1)))
def t_MO_longest_L9 (x1 : Int)  : Nat → Mem → Int → Int → Option (Mem × Int)
  | 0, _, _, _ => none
  | fu + 1, M, v2_, v3_ => (qlet (t_MO_cells M) fun q2 => (if q2 ≤ v3_ then (some (M, v2_)) else (qguard (0 ≤ v3_ ∧ v3_ < 96) (if (M.1 198 v3_) = 0 then (obind (t_MO_goesFrom M x1 v3_) fun q8 => (if 0 < (q8.1 191 46) then (t_MO_longest_L63 x1 (fun a0_ a1_ a2_ => t_MO_longest_L9 x1 fu a0_ a1_ a2_) q8 v2_ v3_) else (if v2_ < (q8.1 191 48) then (qlet (setI q8 191 57 v3_) fun M15 => (t_MO_longest_L63 x1 (fun a0_ a1_ a2_ => t_MO_longest_L9 x1 fu a0_ a1_ a2_) M15 (q8.1 191 48) v3_)) else (t_MO_longest_L63 x1 (fun a0_ a1_ a2_ => t_MO_longest_L9 x1 fu a0_ a1_ a2_) q8 v2_ v3_)))) else (t_MO_longest_L63 x1 (fun a0_ a1_ a2_ => t_MO_longest_L9 x1 fu a0_ a1_ a2_) M v2_ v3_)))))
def t_MO_longest (M : Mem) (x1 : Int) : Option (Mem × Int) := (qlet (setI M 191 57 (-1)) fun M1 => (t_MO_longest_L9 x1 FU M1 0 0))
set_option maxHeartbeats 4000000 in
set_option maxRecDepth 100000 in
theorem k_MO_longest_L63 (l : Launch) {p : Program} {e : Env} {s : State} {m : MethodId} {below : List Frame} {meth : Method} {c : Code} {b n : Nat} {C : CT} (hlo : 231 ≤ n) (x1 : Int) (hx1 : InR x1) (F : Cx b p m c b_MO_longest 4 s ([.ref (b + 191), vI x1] : List Value).toArray "WardFallsModel" C n 231) (hlk : meth.locks = false) (hr : meth.sig.returnType = some .int) {res : Mem × Int} (bk9 : Mem → Int → Int → Option (Mem × Int)) (hbk9 : ∀ (M : Mem) (v2_ : Int) (hv2_ : InR v2_) (v3_ : Int) (hv3_ : InR v3_) (H : Heap) (locs : List Loc) (ls : Array Slot), St b C n M s H locs → lv_has ls 4 [(0, .ref (b + 191)), (1, vI x1), (2, vI v2_), (3, vI v3_)] → bk9 M v2_ v3_ = some res → W p l e (headSpec (wsM y_MO_longest b_MO_longest 4 (some .int)) (rmD 3)).room s m ([.ref (b + 191), vI x1] : List Value).toArray below meth c H locs 0 0 (MQ below (QI b C n res.1 res.2) ([.ref (b + 191), vI x1] : List Value).toArray s 0 0 (frb b)) (F0 m 9 ls [])) (M : Mem) (v2_ : Int) (hv2_ : InR v2_) (v3_ : Int) (hv3_ : InR v3_) (H : Heap) (locs : List Loc) (ls : Array Slot) (hS : St b C n M s H locs) (hl : lv_has ls 4 [(0, .ref (b + 191)), (1, vI x1), (2, vI v2_), (3, vI v3_)]) (hT : t_MO_longest_L63 x1 bk9 M v2_ v3_ = some res) : W p l e (headSpec (wsM y_MO_longest b_MO_longest 4 (some .int)) (rmD 3)).room s m ([.ref (b + 191), vI x1] : List Value).toArray below meth c H locs 0 0 (MQ below (QI b C n res.1 res.2) ([.ref (b + 191), vI x1] : List Value).toArray s 0 0 (frb b)) (F0 m 63 ls []) := by
  unfold t_MO_longest_L63 at hT
  refine lv_iinc (v := Int32.ofInt (w32 (v3_ + 1))) (lv' := [(3, vI (w32 (v3_ + 1))), (0, .ref (b + 191)), (1, vI x1), (2, vI v2_)]) F.hx F.hb d_MO_longest_63 hl (k := 3) rfl (q_of_add _ _) (Nat.le_of_ble_eq_true rfl) rfl (fun ls hl => ?_)
  refine lv_goto (tgt := 9) F.hx F.hb d_MO_longest_66 (by decide) ?_
  exact hbk9 M v2_ hv2_ (w32 (v3_ + 1)) (inr_w32 _) _ _ _ hS (lv_sub hl [1, 2, 3, 0] rfl) hT
set_option maxHeartbeats 4000000 in
set_option maxRecDepth 100000 in
theorem k_MO_longest_L9 (l : Launch) {p : Program} {e : Env} {s : State} {m : MethodId} {below : List Frame} {meth : Method} {c : Code} {b n : Nat} {C : CT} (hlo : 231 ≤ n) (x1 : Int) (hx1 : InR x1) (F : Cx b p m c b_MO_longest 4 s ([.ref (b + 191), vI x1] : List Value).toArray "WardFallsModel" C n 231) (hlk : meth.locks = false) (hr : meth.sig.returnType = some .int) {res : Mem × Int} : ∀ (fu : Nat) (M : Mem) (v2_ : Int) (hv2_ : InR v2_) (v3_ : Int) (hv3_ : InR v3_) (H : Heap) (locs : List Loc) (ls : Array Slot), St b C n M s H locs → lv_has ls 4 [(0, .ref (b + 191)), (1, vI x1), (2, vI v2_), (3, vI v3_)] → t_MO_longest_L9 x1 fu M v2_ v3_ = some res → W p l e (headSpec (wsM y_MO_longest b_MO_longest 4 (some .int)) (rmD 3)).room s m ([.ref (b + 191), vI x1] : List Value).toArray below meth c H locs 0 0 (MQ below (QI b C n res.1 res.2) ([.ref (b + 191), vI x1] : List Value).toArray s 0 0 (frb b)) (F0 m 9 ls []) := by
  intro fu
  induction fu with
  | zero => intro M v2_ hv2_ v3_ hv3_ H locs ls hS hl hT; exact absurd hT (by simp [t_MO_longest_L9])
  | succ fu ih =>
    intro M v2_ hv2_ v3_ hv3_ H locs ls hS hl hT
    rw [t_MO_longest_L9] at hT
    refine lv_iload_n F.hx F.hb d_MO_longest_9 rfl (lv_at hl 3 rfl) ?_
    refine lv_aload_n F.hx F.hb d_MO_longest_10 rfl (lv_at hl 0 rfl) ?_
    obtain ⟨q2, hq2⟩ : ∃ q, q = (t_MO_cells M) := ⟨_, rfl⟩
    replace hT := qlet_eq hT hq2
    refine r_backI F hS (r_runV (k := 191) (N := 68) (T := T1) (As := []) F hS (show 191 < 231 by decide) (show shK 191 = 5 from rfl) rfl (c_MO_cells l F.2.2.1 M _ hq2.symm) gs_MO_329 hd_MO_cells ⟨Nat.le_of_ble_eq_true rfl, Nat.le_of_ble_eq_true rfl⟩ rfl hl.1 (Nat.le_of_ble_eq_true rfl) ⟨Nat.zero_le _, Nat.zero_le _⟩ rfl d_MO_longest_11) (fun H locs hS h3 => ?_)
    refine r_icmp_ge (tgt := 69) F.hx F.hb hv3_ h3 d_MO_longest_14 (by decide) (fun c4 => ?_) (fun c4 => ?_)
    · replace hT := (if_pos c4).symm.trans hT
      refine lv_iload_n F.hx F.hb d_MO_longest_69 rfl (lv_at hl 2 rfl) ?_
      cases hT
      exact r_iret F hlk hr rfl hS hv2_ d_MO_longest_70
    · replace hT := (if_neg c4).symm.trans hT
      refine lv_aload_n F.hx F.hb d_MO_longest_17 rfl (lv_at hl 0 rfl) ?_
      refine r_get (v := .ref (b + 198)) (N := 68) (T := T1) (j := 8) F hS (show 191 < 231 by decide) (show shK 191 = 5 from rfl) (show shN 191 = 68 from rfl) rfl (Nat.le_of_ble_eq_true rfl) ing1 mw_1397 (fv_sg rfl rfl rfl) d_MO_longest_18 ?_
      refine lv_iload_n F.hx F.hb d_MO_longest_21 rfl (lv_at hl 3 rfl) ?_
      obtain ⟨⟨g5a, g5b⟩, hT⟩ := q_guard hT
      have z6 := hS.bool (show shK 198 = 1 from rfl) v3_
      refine r_zald F hS (show 198 < 231 by decide) (show shK 198 = 1 from rfl) (show shN 198 = 96 from rfl) hv3_ g5a g5b d_MO_longest_22 ?_
      refine r_if_eq (tgt := 29) F.hx F.hb (inr_z z6) d_MO_longest_23 (by decide) (fun c7 => ?_) (fun c7 => ?_)
      · replace hT := (if_pos c7).symm.trans hT
        refine lv_aload_n F.hx F.hb d_MO_longest_29 rfl (lv_at hl 0 rfl) ?_
        refine lv_iload_n F.hx F.hb d_MO_longest_30 rfl (lv_at hl 1 rfl) ?_
        refine lv_iload_n F.hx F.hb d_MO_longest_31 rfl (lv_at hl 3 rfl) ?_
        obtain ⟨q8, hq8, hT⟩ := q_obind hT
        refine r_backV F hS (r_runV (k := 191) (N := 68) (T := T1) (As := [vI x1, vI v3_]) F hS (show 191 < 231 by decide) (show shK 191 = 5 from rfl) rfl (c_MO_goesFrom l F.2.2.1 M x1 v3_ hx1 hv3_ _ hq8) gs_MO_414 hd_MO_goesFrom ⟨Nat.le_of_ble_eq_true rfl, Nat.le_of_ble_eq_true rfl⟩ rfl hl.1 (Nat.le_of_ble_eq_true rfl) ⟨Nat.zero_le _, Nat.zero_le _⟩ rfl d_MO_longest_32) (fun H locs hS => ?_)
        refine lv_aload_n F.hx F.hb d_MO_longest_35 rfl (lv_at hl 0 rfl) ?_
        refine r_get (v := vI (q8.1 191 46)) (N := 68) (T := T1) (j := 46) F hS (show 191 < 231 by decide) (show shK 191 = 5 from rfl) (show shN 191 = 68 from rfl) rfl (Nat.le_of_ble_eq_true rfl) ing1 mw_1435 (fv_int rfl) d_MO_longest_36 ?_
        have i10 := hS.rng 191 46
        refine r_if_gt (tgt := 63) F.hx F.hb i10 d_MO_longest_39 (by decide) (fun c11 => ?_) (fun c11 => ?_)
        · replace hT := (if_pos c11).symm.trans hT
          exact k_MO_longest_L63 l hlo x1 hx1 F hlk hr (fun a0_ a1_ a2_ => t_MO_longest_L9 x1 fu a0_ a1_ a2_) ih q8 v2_ hv2_ v3_ hv3_ _ _ _ hS (lv_sub hl [0, 1, 2, 3] rfl) hT
        · replace hT := (if_neg c11).symm.trans hT
          refine lv_aload_n F.hx F.hb d_MO_longest_42 rfl (lv_at hl 0 rfl) ?_
          refine r_get (v := vI (q8.1 191 48)) (N := 68) (T := T1) (j := 48) F hS (show 191 < 231 by decide) (show shK 191 = 5 from rfl) (show shN 191 = 68 from rfl) rfl (Nat.le_of_ble_eq_true rfl) ing1 mw_1437 (fv_int rfl) d_MO_longest_43 ?_
          have i12 := hS.rng 191 48
          refine lv_iload_n F.hx F.hb d_MO_longest_46 rfl (lv_at hl 2 rfl) ?_
          refine r_icmp_gt (tgt := 53) F.hx F.hb i12 hv2_ d_MO_longest_47 (by decide) (fun c13 => ?_) (fun c13 => ?_)
          · replace hT := (if_pos c13).symm.trans hT
            refine lv_aload_n F.hx F.hb d_MO_longest_53 rfl (lv_at hl 0 rfl) ?_
            refine r_get (v := vI (q8.1 191 48)) (N := 68) (T := T1) (j := 48) F hS (show 191 < 231 by decide) (show shK 191 = 5 from rfl) (show shN 191 = 68 from rfl) rfl (Nat.le_of_ble_eq_true rfl) ing1 mw_1437 (fv_int rfl) d_MO_longest_54 ?_
            have i14 := hS.rng 191 48
            refine lv_istore_n (lv' := [(2, vI (q8.1 191 48)), (0, .ref (b + 191)), (1, vI x1), (3, vI v3_)]) F.hx F.hb d_MO_longest_57 rfl hl (Nat.le_of_ble_eq_true rfl) rfl (fun ls hl => ?_)
            refine lv_aload_n F.hx F.hb d_MO_longest_58 rfl (lv_at hl 1 rfl) ?_
            refine lv_iload_n F.hx F.hb d_MO_longest_59 rfl (lv_at hl 3 rfl) ?_
            refine r_putI (N := 68) (T := T1) (j := 57) F hS (show 191 < 231 by decide) (show shK 191 = 5 from rfl) (show shN 191 = 68 from rfl) rfl (Nat.le_of_ble_eq_true rfl) ing1 tyok1 nm1 rfl rfl rfl rfl rfl rfl mw_1446 hv3_ d_MO_longest_60 (fun H locs hS => ?_)
            obtain ⟨M15, eM15⟩ : ∃ q, q = (setI q8 191 57 v3_) := ⟨_, rfl⟩
            replace hS : St b C n M15 s H locs := by rw [eM15]; exact hS
            replace hT := qlet_eq hT eM15
            exact k_MO_longest_L63 l hlo x1 hx1 F hlk hr (fun a0_ a1_ a2_ => t_MO_longest_L9 x1 fu a0_ a1_ a2_) ih M15 (q8.1 191 48) i14 v3_ hv3_ _ _ _ hS (lv_sub hl [1, 2, 0, 3] rfl) hT
          · replace hT := (if_neg c13).symm.trans hT
            refine lv_goto (tgt := 63) F.hx F.hb d_MO_longest_50 (by decide) ?_
            exact k_MO_longest_L63 l hlo x1 hx1 F hlk hr (fun a0_ a1_ a2_ => t_MO_longest_L9 x1 fu a0_ a1_ a2_) ih q8 v2_ hv2_ v3_ hv3_ _ _ _ hS (lv_sub hl [0, 1, 2, 3] rfl) hT
      · replace hT := (if_neg c7).symm.trans hT
        refine lv_goto (tgt := 63) F.hx F.hb d_MO_longest_26 (by decide) ?_
        exact k_MO_longest_L63 l hlo x1 hx1 F hlk hr (fun a0_ a1_ a2_ => t_MO_longest_L9 x1 fu a0_ a1_ a2_) ih M v2_ hv2_ v3_ hv3_ _ _ _ hS (lv_sub hl [0, 1, 2, 3] rfl) hT
set_option maxHeartbeats 4000000 in
set_option maxRecDepth 100000 in
theorem c_MO_longest (l : Launch) {b n : Nat} {C : CT} (hlo : 231 ≤ n) (M : Mem) (x1 : Int) (hx1 : InR x1) (res : Mem × Int) (hT : t_MO_longest M x1 = some res) : CM l b C n 3 y_MO_longest b_MO_longest 4 (some .int) [.ref (b + 191), vI x1] M (QI b C n res.1 res.2) := by
  refine CM.of (lo := 231) (ow := "WardFallsModel") (by decide) rfl (Nat.le_of_ble_eq_true rfl) hlo (fun p e s m below meth c F hlk hr hS ls hl => ?_)
  have hl : lv_has ls 4 [(0, .ref (b + 191)), (1, vI x1)] := hl
  unfold t_MO_longest at hT
  refine r_iconst F.hx F.hb d_MO_longest_0 ?_
  refine lv_istore_n (lv' := [(2, vI 0), (0, .ref (b + 191)), (1, vI x1)]) F.hx F.hb d_MO_longest_1 rfl hl (Nat.le_of_ble_eq_true rfl) rfl (fun ls hl => ?_)
  refine lv_aload_n F.hx F.hb d_MO_longest_2 rfl (lv_at hl 1 rfl) ?_
  refine r_iconst F.hx F.hb d_MO_longest_3 ?_
  refine r_putI (N := 68) (T := T1) (j := 57) F hS (show 191 < 231 by decide) (show shK 191 = 5 from rfl) (show shN 191 = 68 from rfl) rfl (Nat.le_of_ble_eq_true rfl) ing1 tyok1 nm1 rfl rfl rfl rfl rfl rfl mw_1446 (inr_c rfl) d_MO_longest_4 (fun H locs hS => ?_)
  obtain ⟨M1, eM1⟩ : ∃ q, q = (setI M 191 57 (-1)) := ⟨_, rfl⟩
  replace hS : St b C n M1 s H locs := by rw [eM1]; exact hS
  replace hT := qlet_eq hT eM1
  refine r_iconst F.hx F.hb d_MO_longest_7 ?_
  refine lv_istore_n (lv' := [(3, vI 0), (2, vI 0), (0, .ref (b + 191)), (1, vI x1)]) F.hx F.hb d_MO_longest_8 rfl hl (Nat.le_of_ble_eq_true rfl) rfl (fun ls hl => ?_)
  exact k_MO_longest_L9 l hlo x1 hx1 F hlk hr FU M1 0 (inr_c rfl) 0 (inr_c rfl) _ _ _ hS (lv_sub hl [2, 3, 1, 0] rfl) hT
theorem wn_MO_clock_0 : ∀ i, i < 95 → bA b_MO_clock (0 + i) = wB [42, 3, 181, 0, 145, 27, 155, 0, 8, 27, 6, 164, 0, 5, 2, 172, 42, 3, 182, 1, 224, 61, 2, 62, 2, 54, 4, 42, 180, 1, 221, 54, 5, 3, 54, 6, 21, 6, 42, 180, 0, 13, 5, 46, 162, 0, 88, 3, 54, 7, 21, 7, 7, 163, 0, 73, 21, 7, 42, 180, 0, 76, 21, 6, 46, 160, 0, 6, 167, 0, 52, 42, 4, 3, 182, 1, 181, 42, 180, 0, 76, 7, 21, 6, 96, 21, 7, 79, 42, 4, 182, 1, 224, 54, 8] i := wB_of (by decide +kernel)
theorem d_MO_clock_0 : decode b_MO_clock 0 = .ok (.aload_n 0, 1) := dc_42 (q0_win (r := 0) wn_MO_clock_0 (by decide +kernel))
theorem d_MO_clock_1 : decode b_MO_clock 1 = .ok (.iconst 0, 1) := dc_3 (q0_win (r := 1) wn_MO_clock_0 (by decide +kernel))
theorem d_MO_clock_2 : decode b_MO_clock 2 = .ok (.putfield 145, 3) := dc_181 (qU2_win (r := 2) wn_MO_clock_0 (by decide +kernel))
theorem d_MO_clock_5 : decode b_MO_clock 5 = .ok (.iload_n 1, 1) := dc_27 (q0_win (r := 5) wn_MO_clock_0 (by decide +kernel))
theorem d_MO_clock_6 : decode b_MO_clock 6 = .ok (.ifCond .lt 8, 3) := dc_155 (qS2_win (r := 6) wn_MO_clock_0 (by decide +kernel))
theorem d_MO_clock_9 : decode b_MO_clock 9 = .ok (.iload_n 1, 1) := dc_27 (q0_win (r := 9) wn_MO_clock_0 (by decide +kernel))
theorem d_MO_clock_10 : decode b_MO_clock 10 = .ok (.iconst 3, 1) := dc_6 (q0_win (r := 10) wn_MO_clock_0 (by decide +kernel))
theorem d_MO_clock_11 : decode b_MO_clock 11 = .ok (.if_icmp .le 5, 3) := dc_164 (qS2_win (r := 11) wn_MO_clock_0 (by decide +kernel))
theorem d_MO_clock_14 : decode b_MO_clock 14 = .ok (.iconst (-1), 1) := dc_2 (q0_win (r := 14) wn_MO_clock_0 (by decide +kernel))
theorem d_MO_clock_15 : decode b_MO_clock 15 = .ok (.ireturn, 1) := dc_172 (q0_win (r := 15) wn_MO_clock_0 (by decide +kernel))
theorem d_MO_clock_16 : decode b_MO_clock 16 = .ok (.aload_n 0, 1) := dc_42 (q0_win (r := 16) wn_MO_clock_0 (by decide +kernel))
theorem d_MO_clock_17 : decode b_MO_clock 17 = .ok (.iconst 0, 1) := dc_3 (q0_win (r := 17) wn_MO_clock_0 (by decide +kernel))
theorem d_MO_clock_18 : decode b_MO_clock 18 = .ok (.invokevirtual 480, 3) := dc_182 (qU2_win (r := 18) wn_MO_clock_0 (by decide +kernel))
theorem d_MO_clock_21 : decode b_MO_clock 21 = .ok (.istore_n 2, 1) := dc_61 (q0_win (r := 21) wn_MO_clock_0 (by decide +kernel))
theorem d_MO_clock_22 : decode b_MO_clock 22 = .ok (.iconst (-1), 1) := dc_2 (q0_win (r := 22) wn_MO_clock_0 (by decide +kernel))
theorem d_MO_clock_23 : decode b_MO_clock 23 = .ok (.istore_n 3, 1) := dc_62 (q0_win (r := 23) wn_MO_clock_0 (by decide +kernel))
theorem d_MO_clock_24 : decode b_MO_clock 24 = .ok (.iconst (-1), 1) := dc_2 (q0_win (r := 24) wn_MO_clock_0 (by decide +kernel))
theorem d_MO_clock_25 : decode b_MO_clock 25 = .ok (.istore 4, 2) := dc_54 (qU1_win (r := 25) wn_MO_clock_0 (by decide +kernel))
theorem d_MO_clock_27 : decode b_MO_clock 27 = .ok (.aload_n 0, 1) := dc_42 (q0_win (r := 27) wn_MO_clock_0 (by decide +kernel))
theorem d_MO_clock_28 : decode b_MO_clock 28 = .ok (.getfield 477, 3) := dc_180 (qU2_win (r := 28) wn_MO_clock_0 (by decide +kernel))
theorem d_MO_clock_31 : decode b_MO_clock 31 = .ok (.istore 5, 2) := dc_54 (qU1_win (r := 31) wn_MO_clock_0 (by decide +kernel))
theorem d_MO_clock_33 : decode b_MO_clock 33 = .ok (.iconst 0, 1) := dc_3 (q0_win (r := 33) wn_MO_clock_0 (by decide +kernel))
theorem d_MO_clock_34 : decode b_MO_clock 34 = .ok (.istore 6, 2) := dc_54 (qU1_win (r := 34) wn_MO_clock_0 (by decide +kernel))
theorem d_MO_clock_36 : decode b_MO_clock 36 = .ok (.iload 6, 2) := dc_21 (qU1_win (r := 36) wn_MO_clock_0 (by decide +kernel))
theorem d_MO_clock_38 : decode b_MO_clock 38 = .ok (.aload_n 0, 1) := dc_42 (q0_win (r := 38) wn_MO_clock_0 (by decide +kernel))
theorem d_MO_clock_39 : decode b_MO_clock 39 = .ok (.getfield 13, 3) := dc_180 (qU2_win (r := 39) wn_MO_clock_0 (by decide +kernel))
theorem d_MO_clock_42 : decode b_MO_clock 42 = .ok (.iconst 2, 1) := dc_5 (q0_win (r := 42) wn_MO_clock_0 (by decide +kernel))
theorem d_MO_clock_43 : decode b_MO_clock 43 = .ok (.iaload, 1) := dc_46 (q0_win (r := 43) wn_MO_clock_0 (by decide +kernel))
theorem d_MO_clock_44 : decode b_MO_clock 44 = .ok (.if_icmp .ge 88, 3) := dc_162 (qS2_win (r := 44) wn_MO_clock_0 (by decide +kernel))
theorem d_MO_clock_47 : decode b_MO_clock 47 = .ok (.iconst 0, 1) := dc_3 (q0_win (r := 47) wn_MO_clock_0 (by decide +kernel))
theorem d_MO_clock_48 : decode b_MO_clock 48 = .ok (.istore 7, 2) := dc_54 (qU1_win (r := 48) wn_MO_clock_0 (by decide +kernel))
theorem d_MO_clock_50 : decode b_MO_clock 50 = .ok (.iload 7, 2) := dc_21 (qU1_win (r := 50) wn_MO_clock_0 (by decide +kernel))
theorem d_MO_clock_52 : decode b_MO_clock 52 = .ok (.iconst 4, 1) := dc_7 (q0_win (r := 52) wn_MO_clock_0 (by decide +kernel))
theorem d_MO_clock_53 : decode b_MO_clock 53 = .ok (.if_icmp .gt 73, 3) := dc_163 (qS2_win (r := 53) wn_MO_clock_0 (by decide +kernel))
theorem d_MO_clock_56 : decode b_MO_clock 56 = .ok (.iload 7, 2) := dc_21 (qU1_win (r := 56) wn_MO_clock_0 (by decide +kernel))
theorem d_MO_clock_58 : decode b_MO_clock 58 = .ok (.aload_n 0, 1) := dc_42 (q0_win (r := 58) wn_MO_clock_0 (by decide +kernel))
theorem d_MO_clock_59 : decode b_MO_clock 59 = .ok (.getfield 76, 3) := dc_180 (qU2_win (r := 59) wn_MO_clock_0 (by decide +kernel))
theorem d_MO_clock_62 : decode b_MO_clock 62 = .ok (.iload 6, 2) := dc_21 (qU1_win (r := 62) wn_MO_clock_0 (by decide +kernel))
theorem d_MO_clock_64 : decode b_MO_clock 64 = .ok (.iaload, 1) := dc_46 (q0_win (r := 64) wn_MO_clock_0 (by decide +kernel))
theorem d_MO_clock_65 : decode b_MO_clock 65 = .ok (.if_icmp .ne 6, 3) := dc_160 (qS2_win (r := 65) wn_MO_clock_0 (by decide +kernel))
theorem d_MO_clock_68 : decode b_MO_clock 68 = .ok (.goto 52, 3) := dc_167 (qS2_win (r := 68) wn_MO_clock_0 (by decide +kernel))
theorem d_MO_clock_71 : decode b_MO_clock 71 = .ok (.aload_n 0, 1) := dc_42 (q0_win (r := 71) wn_MO_clock_0 (by decide +kernel))
theorem d_MO_clock_72 : decode b_MO_clock 72 = .ok (.iconst 1, 1) := dc_4 (q0_win (r := 72) wn_MO_clock_0 (by decide +kernel))
theorem d_MO_clock_73 : decode b_MO_clock 73 = .ok (.iconst 0, 1) := dc_3 (q0_win (r := 73) wn_MO_clock_0 (by decide +kernel))
theorem d_MO_clock_74 : decode b_MO_clock 74 = .ok (.invokevirtual 437, 3) := dc_182 (qU2_win (r := 74) wn_MO_clock_0 (by decide +kernel))
theorem d_MO_clock_77 : decode b_MO_clock 77 = .ok (.aload_n 0, 1) := dc_42 (q0_win (r := 77) wn_MO_clock_0 (by decide +kernel))
theorem d_MO_clock_78 : decode b_MO_clock 78 = .ok (.getfield 76, 3) := dc_180 (qU2_win (r := 78) wn_MO_clock_0 (by decide +kernel))
theorem d_MO_clock_81 : decode b_MO_clock 81 = .ok (.iconst 4, 1) := dc_7 (q0_win (r := 81) wn_MO_clock_0 (by decide +kernel))
theorem d_MO_clock_82 : decode b_MO_clock 82 = .ok (.iload 6, 2) := dc_21 (qU1_win (r := 82) wn_MO_clock_0 (by decide +kernel))
theorem d_MO_clock_84 : decode b_MO_clock 84 = .ok (.iadd, 1) := dc_96 (q0_win (r := 84) wn_MO_clock_0 (by decide +kernel))
theorem d_MO_clock_85 : decode b_MO_clock 85 = .ok (.iload 7, 2) := dc_21 (qU1_win (r := 85) wn_MO_clock_0 (by decide +kernel))
theorem d_MO_clock_87 : decode b_MO_clock 87 = .ok (.iastore, 1) := dc_79 (q0_win (r := 87) wn_MO_clock_0 (by decide +kernel))
theorem d_MO_clock_88 : decode b_MO_clock 88 = .ok (.aload_n 0, 1) := dc_42 (q0_win (r := 88) wn_MO_clock_0 (by decide +kernel))
theorem d_MO_clock_89 : decode b_MO_clock 89 = .ok (.iconst 1, 1) := dc_4 (q0_win (r := 89) wn_MO_clock_0 (by decide +kernel))
theorem d_MO_clock_90 : decode b_MO_clock 90 = .ok (.invokevirtual 480, 3) := dc_182 (qU2_win (r := 90) wn_MO_clock_0 (by decide +kernel))
theorem d_MO_clock_93 : decode b_MO_clock 93 = .ok (.istore 8, 2) := dc_54 (qU1_win (r := 93) wn_MO_clock_0 (by decide +kernel))
theorem wn_MO_clock_95 : ∀ i, i < 67 → bA b_MO_clock (95 + i) = wB [21, 8, 28, 163, 0, 6, 167, 0, 19, 21, 8, 61, 21, 6, 62, 21, 7, 54, 4, 42, 180, 1, 221, 54, 5, 132, 7, 1, 167, 255, 183, 132, 6, 1, 167, 255, 163, 27, 154, 0, 7, 28, 167, 0, 24, 27, 4, 160, 0, 7, 29, 167, 0, 15, 27, 5, 160, 0, 8, 21, 4, 167, 0, 5, 21, 5, 172] i := wB_of (by decide +kernel)
theorem d_MO_clock_95 : decode b_MO_clock 95 = .ok (.iload 8, 2) := dc_21 (qU1_win (r := 0) wn_MO_clock_95 (by decide +kernel))
theorem d_MO_clock_97 : decode b_MO_clock 97 = .ok (.iload_n 2, 1) := dc_28 (q0_win (r := 2) wn_MO_clock_95 (by decide +kernel))
theorem d_MO_clock_98 : decode b_MO_clock 98 = .ok (.if_icmp .gt 6, 3) := dc_163 (qS2_win (r := 3) wn_MO_clock_95 (by decide +kernel))
theorem d_MO_clock_101 : decode b_MO_clock 101 = .ok (.goto 19, 3) := dc_167 (qS2_win (r := 6) wn_MO_clock_95 (by decide +kernel))
theorem d_MO_clock_104 : decode b_MO_clock 104 = .ok (.iload 8, 2) := dc_21 (qU1_win (r := 9) wn_MO_clock_95 (by decide +kernel))
theorem d_MO_clock_106 : decode b_MO_clock 106 = .ok (.istore_n 2, 1) := dc_61 (q0_win (r := 11) wn_MO_clock_95 (by decide +kernel))
theorem d_MO_clock_107 : decode b_MO_clock 107 = .ok (.iload 6, 2) := dc_21 (qU1_win (r := 12) wn_MO_clock_95 (by decide +kernel))
theorem d_MO_clock_109 : decode b_MO_clock 109 = .ok (.istore_n 3, 1) := dc_62 (q0_win (r := 14) wn_MO_clock_95 (by decide +kernel))
theorem d_MO_clock_110 : decode b_MO_clock 110 = .ok (.iload 7, 2) := dc_21 (qU1_win (r := 15) wn_MO_clock_95 (by decide +kernel))
theorem d_MO_clock_112 : decode b_MO_clock 112 = .ok (.istore 4, 2) := dc_54 (qU1_win (r := 17) wn_MO_clock_95 (by decide +kernel))
theorem d_MO_clock_114 : decode b_MO_clock 114 = .ok (.aload_n 0, 1) := dc_42 (q0_win (r := 19) wn_MO_clock_95 (by decide +kernel))
theorem d_MO_clock_115 : decode b_MO_clock 115 = .ok (.getfield 477, 3) := dc_180 (qU2_win (r := 20) wn_MO_clock_95 (by decide +kernel))
theorem d_MO_clock_118 : decode b_MO_clock 118 = .ok (.istore 5, 2) := dc_54 (qU1_win (r := 23) wn_MO_clock_95 (by decide +kernel))
theorem d_MO_clock_120 : decode b_MO_clock 120 = .ok (.iinc 7 1, 3) := dc_132 (qI_win (r := 25) wn_MO_clock_95 (by decide +kernel))
theorem d_MO_clock_123 : decode b_MO_clock 123 = .ok (.goto (-73), 3) := dc_167 (qS2_win (r := 28) wn_MO_clock_95 (by decide +kernel))
theorem d_MO_clock_126 : decode b_MO_clock 126 = .ok (.iinc 6 1, 3) := dc_132 (qI_win (r := 31) wn_MO_clock_95 (by decide +kernel))
theorem d_MO_clock_129 : decode b_MO_clock 129 = .ok (.goto (-93), 3) := dc_167 (qS2_win (r := 34) wn_MO_clock_95 (by decide +kernel))
theorem d_MO_clock_132 : decode b_MO_clock 132 = .ok (.iload_n 1, 1) := dc_27 (q0_win (r := 37) wn_MO_clock_95 (by decide +kernel))
theorem d_MO_clock_133 : decode b_MO_clock 133 = .ok (.ifCond .ne 7, 3) := dc_154 (qS2_win (r := 38) wn_MO_clock_95 (by decide +kernel))
theorem d_MO_clock_136 : decode b_MO_clock 136 = .ok (.iload_n 2, 1) := dc_28 (q0_win (r := 41) wn_MO_clock_95 (by decide +kernel))
theorem d_MO_clock_137 : decode b_MO_clock 137 = .ok (.goto 24, 3) := dc_167 (qS2_win (r := 42) wn_MO_clock_95 (by decide +kernel))
theorem d_MO_clock_140 : decode b_MO_clock 140 = .ok (.iload_n 1, 1) := dc_27 (q0_win (r := 45) wn_MO_clock_95 (by decide +kernel))
theorem d_MO_clock_141 : decode b_MO_clock 141 = .ok (.iconst 1, 1) := dc_4 (q0_win (r := 46) wn_MO_clock_95 (by decide +kernel))
theorem d_MO_clock_142 : decode b_MO_clock 142 = .ok (.if_icmp .ne 7, 3) := dc_160 (qS2_win (r := 47) wn_MO_clock_95 (by decide +kernel))
theorem d_MO_clock_145 : decode b_MO_clock 145 = .ok (.iload_n 3, 1) := dc_29 (q0_win (r := 50) wn_MO_clock_95 (by decide +kernel))
theorem d_MO_clock_146 : decode b_MO_clock 146 = .ok (.goto 15, 3) := dc_167 (qS2_win (r := 51) wn_MO_clock_95 (by decide +kernel))
theorem d_MO_clock_149 : decode b_MO_clock 149 = .ok (.iload_n 1, 1) := dc_27 (q0_win (r := 54) wn_MO_clock_95 (by decide +kernel))
theorem d_MO_clock_150 : decode b_MO_clock 150 = .ok (.iconst 2, 1) := dc_5 (q0_win (r := 55) wn_MO_clock_95 (by decide +kernel))
theorem d_MO_clock_151 : decode b_MO_clock 151 = .ok (.if_icmp .ne 8, 3) := dc_160 (qS2_win (r := 56) wn_MO_clock_95 (by decide +kernel))
theorem d_MO_clock_154 : decode b_MO_clock 154 = .ok (.iload 4, 2) := dc_21 (qU1_win (r := 59) wn_MO_clock_95 (by decide +kernel))
theorem d_MO_clock_156 : decode b_MO_clock 156 = .ok (.goto 5, 3) := dc_167 (qS2_win (r := 61) wn_MO_clock_95 (by decide +kernel))
theorem d_MO_clock_159 : decode b_MO_clock 159 = .ok (.iload 5, 2) := dc_21 (qU1_win (r := 64) wn_MO_clock_95 (by decide +kernel))
theorem d_MO_clock_161 : decode b_MO_clock 161 = .ok (.ireturn, 1) := dc_172 (q0_win (r := 66) wn_MO_clock_95 (by decide +kernel))
def t_MO_clock_L120 (x1 : Int) (bk36 : Mem → Int → Int → Int → Int → Int → Option (Mem × Int)) (bk50 : Mem → Int → Int → Int → Int → Int → Int → Option (Mem × Int)) (M : Mem) (v2_ : Int) (v3_ : Int) (v4_ : Int) (v5_ : Int) (v6_ : Int) (v7_ : Int) : Option (Mem × Int) := (bk50 M v2_ v3_ v4_ v5_ v6_ (w32 (v7_ + 1)))
def t_MO_clock_L50 (x1 : Int) (bk36 : Mem → Int → Int → Int → Int → Int → Option (Mem × Int)) : Nat → Mem → Int → Int → Int → Int → Int → Int → Option (Mem × Int)
  | 0, _, _, _, _, _, _, _ => none
  | fu + 1, M, v2_, v3_, v4_, v5_, v6_, v7_ => (if 4 < v7_ then (bk36 M v2_ v3_ v4_ v5_ (w32 (v6_ + 1))) else (qguard (0 ≤ v6_ ∧ v6_ < 92) (if v7_ = (M.1 212 v6_) then (t_MO_clock_L120 x1 bk36 (fun a0_ a1_ a2_ a3_ a4_ a5_ a6_ => t_MO_clock_L50 x1 bk36 fu a0_ a1_ a2_ a3_ a4_ a5_ a6_) M v2_ v3_ v4_ v5_ v6_ v7_) else (obind (t_MO_copies M 1 0) fun q16 => (qguard (0 ≤ (w32 (4 + v6_)) ∧ (w32 (4 + v6_)) < 92) (qlet (setI q16 212 (w32 (4 + v6_)) v7_) fun M19 => (obind (t_MO_longest M19 1) fun q20 => (if v2_ < (q20.2) then (t_MO_clock_L120 x1 bk36 (fun a0_ a1_ a2_ a3_ a4_ a5_ a6_ => t_MO_clock_L50 x1 bk36 fu a0_ a1_ a2_ a3_ a4_ a5_ a6_) (q20.1) (q20.2) v6_ v7_ ((q20.1).1 191 57) v6_ v7_) else (t_MO_clock_L120 x1 bk36 (fun a0_ a1_ a2_ a3_ a4_ a5_ a6_ => t_MO_clock_L50 x1 bk36 fu a0_ a1_ a2_ a3_ a4_ a5_ a6_) (q20.1) v2_ v3_ v4_ v5_ v6_ v7_)))))))))
def t_MO_clock_L36 (x1 : Int)  : Nat → Mem → Int → Int → Int → Int → Int → Option (Mem × Int)
  | 0, _, _, _, _, _, _ => none
  | fu + 1, M, v2_, v3_, v4_, v5_, v6_ => (if (M.1 193 2) ≤ v6_ then (if x1 = 0 then (some (M, v2_)) else (if x1 = 1 then (some (M, v3_)) else (if x1 = 2 then (some (M, v4_)) else (some (M, v5_))))) else (t_MO_clock_L50 x1 (fun a0_ a1_ a2_ a3_ a4_ a5_ => t_MO_clock_L36 x1 fu a0_ a1_ a2_ a3_ a4_ a5_) FU M v2_ v3_ v4_ v5_ v6_ 0))
def t_MO_clock (M : Mem) (x1 : Int) : Option (Mem × Int) := (qlet (setI M 191 0 0) fun M1 => (if x1 < 0 then (some (M1, (-1))) else (if x1 ≤ 3 then (obind (t_MO_longest M1 0) fun q4 => (t_MO_clock_L36 x1 FU (q4.1) (q4.2) (-1) (-1) ((q4.1).1 191 57) 0)) else (some (M1, (-1))))))
set_option maxHeartbeats 4000000 in
set_option maxRecDepth 100000 in
theorem k_MO_clock_L120 (l : Launch) {p : Program} {e : Env} {s : State} {m : MethodId} {below : List Frame} {meth : Method} {c : Code} {b n : Nat} {C : CT} (hlo : 231 ≤ n) (x1 : Int) (hx1 : InR x1) (F : Cx b p m c b_MO_clock 9 s ([.ref (b + 191), vI x1] : List Value).toArray "WardFallsModel" C n 231) (hlk : meth.locks = false) (hr : meth.sig.returnType = some .int) {res : Mem × Int} (bk36 : Mem → Int → Int → Int → Int → Int → Option (Mem × Int)) (hbk36 : ∀ (M : Mem) (v2_ : Int) (hv2_ : InR v2_) (v3_ : Int) (hv3_ : InR v3_) (v4_ : Int) (hv4_ : InR v4_) (v5_ : Int) (hv5_ : InR v5_) (v6_ : Int) (hv6_ : InR v6_) (H : Heap) (locs : List Loc) (ls : Array Slot), St b C n M s H locs → lv_has ls 9 [(0, .ref (b + 191)), (1, vI x1), (2, vI v2_), (3, vI v3_), (4, vI v4_), (5, vI v5_), (6, vI v6_)] → bk36 M v2_ v3_ v4_ v5_ v6_ = some res → W p l e (headSpec (wsM y_MO_clock b_MO_clock 9 (some .int)) (rmD 4)).room s m ([.ref (b + 191), vI x1] : List Value).toArray below meth c H locs 0 0 (MQ below (QI b C n res.1 res.2) ([.ref (b + 191), vI x1] : List Value).toArray s 0 0 (frb b)) (F0 m 36 ls [])) (bk50 : Mem → Int → Int → Int → Int → Int → Int → Option (Mem × Int)) (hbk50 : ∀ (M : Mem) (v2_ : Int) (hv2_ : InR v2_) (v3_ : Int) (hv3_ : InR v3_) (v4_ : Int) (hv4_ : InR v4_) (v5_ : Int) (hv5_ : InR v5_) (v6_ : Int) (hv6_ : InR v6_) (v7_ : Int) (hv7_ : InR v7_) (H : Heap) (locs : List Loc) (ls : Array Slot), St b C n M s H locs → lv_has ls 9 [(0, .ref (b + 191)), (1, vI x1), (2, vI v2_), (3, vI v3_), (4, vI v4_), (5, vI v5_), (6, vI v6_), (7, vI v7_)] → bk50 M v2_ v3_ v4_ v5_ v6_ v7_ = some res → W p l e (headSpec (wsM y_MO_clock b_MO_clock 9 (some .int)) (rmD 4)).room s m ([.ref (b + 191), vI x1] : List Value).toArray below meth c H locs 0 0 (MQ below (QI b C n res.1 res.2) ([.ref (b + 191), vI x1] : List Value).toArray s 0 0 (frb b)) (F0 m 50 ls [])) (M : Mem) (v2_ : Int) (hv2_ : InR v2_) (v3_ : Int) (hv3_ : InR v3_) (v4_ : Int) (hv4_ : InR v4_) (v5_ : Int) (hv5_ : InR v5_) (v6_ : Int) (hv6_ : InR v6_) (v7_ : Int) (hv7_ : InR v7_) (H : Heap) (locs : List Loc) (ls : Array Slot) (hS : St b C n M s H locs) (hl : lv_has ls 9 [(0, .ref (b + 191)), (1, vI x1), (2, vI v2_), (3, vI v3_), (4, vI v4_), (5, vI v5_), (6, vI v6_), (7, vI v7_)]) (hT : t_MO_clock_L120 x1 bk36 bk50 M v2_ v3_ v4_ v5_ v6_ v7_ = some res) : W p l e (headSpec (wsM y_MO_clock b_MO_clock 9 (some .int)) (rmD 4)).room s m ([.ref (b + 191), vI x1] : List Value).toArray below meth c H locs 0 0 (MQ below (QI b C n res.1 res.2) ([.ref (b + 191), vI x1] : List Value).toArray s 0 0 (frb b)) (F0 m 120 ls []) := by
  unfold t_MO_clock_L120 at hT
  refine lv_iinc (v := Int32.ofInt (w32 (v7_ + 1))) (lv' := [(7, vI (w32 (v7_ + 1))), (0, .ref (b + 191)), (1, vI x1), (2, vI v2_), (3, vI v3_), (4, vI v4_), (5, vI v5_), (6, vI v6_)]) F.hx F.hb d_MO_clock_120 hl (k := 7) rfl (q_of_add _ _) (Nat.le_of_ble_eq_true rfl) rfl (fun ls hl => ?_)
  refine lv_goto (tgt := 50) F.hx F.hb d_MO_clock_123 (by decide) ?_
  exact hbk50 M v2_ hv2_ v3_ hv3_ v4_ hv4_ v5_ hv5_ v6_ hv6_ (w32 (v7_ + 1)) (inr_w32 _) _ _ _ hS (lv_sub hl [1, 2, 3, 4, 5, 6, 7, 0] rfl) hT
set_option maxHeartbeats 4000000 in
set_option maxRecDepth 100000 in
theorem k_MO_clock_L50 (l : Launch) {p : Program} {e : Env} {s : State} {m : MethodId} {below : List Frame} {meth : Method} {c : Code} {b n : Nat} {C : CT} (hlo : 231 ≤ n) (x1 : Int) (hx1 : InR x1) (F : Cx b p m c b_MO_clock 9 s ([.ref (b + 191), vI x1] : List Value).toArray "WardFallsModel" C n 231) (hlk : meth.locks = false) (hr : meth.sig.returnType = some .int) {res : Mem × Int} (bk36 : Mem → Int → Int → Int → Int → Int → Option (Mem × Int)) (hbk36 : ∀ (M : Mem) (v2_ : Int) (hv2_ : InR v2_) (v3_ : Int) (hv3_ : InR v3_) (v4_ : Int) (hv4_ : InR v4_) (v5_ : Int) (hv5_ : InR v5_) (v6_ : Int) (hv6_ : InR v6_) (H : Heap) (locs : List Loc) (ls : Array Slot), St b C n M s H locs → lv_has ls 9 [(0, .ref (b + 191)), (1, vI x1), (2, vI v2_), (3, vI v3_), (4, vI v4_), (5, vI v5_), (6, vI v6_)] → bk36 M v2_ v3_ v4_ v5_ v6_ = some res → W p l e (headSpec (wsM y_MO_clock b_MO_clock 9 (some .int)) (rmD 4)).room s m ([.ref (b + 191), vI x1] : List Value).toArray below meth c H locs 0 0 (MQ below (QI b C n res.1 res.2) ([.ref (b + 191), vI x1] : List Value).toArray s 0 0 (frb b)) (F0 m 36 ls [])) : ∀ (fu : Nat) (M : Mem) (v2_ : Int) (hv2_ : InR v2_) (v3_ : Int) (hv3_ : InR v3_) (v4_ : Int) (hv4_ : InR v4_) (v5_ : Int) (hv5_ : InR v5_) (v6_ : Int) (hv6_ : InR v6_) (v7_ : Int) (hv7_ : InR v7_) (H : Heap) (locs : List Loc) (ls : Array Slot), St b C n M s H locs → lv_has ls 9 [(0, .ref (b + 191)), (1, vI x1), (2, vI v2_), (3, vI v3_), (4, vI v4_), (5, vI v5_), (6, vI v6_), (7, vI v7_)] → t_MO_clock_L50 x1 bk36 fu M v2_ v3_ v4_ v5_ v6_ v7_ = some res → W p l e (headSpec (wsM y_MO_clock b_MO_clock 9 (some .int)) (rmD 4)).room s m ([.ref (b + 191), vI x1] : List Value).toArray below meth c H locs 0 0 (MQ below (QI b C n res.1 res.2) ([.ref (b + 191), vI x1] : List Value).toArray s 0 0 (frb b)) (F0 m 50 ls []) := by
  intro fu
  induction fu with
  | zero => intro M v2_ hv2_ v3_ hv3_ v4_ hv4_ v5_ hv5_ v6_ hv6_ v7_ hv7_ H locs ls hS hl hT; exact absurd hT (by simp [t_MO_clock_L50])
  | succ fu ih =>
    intro M v2_ hv2_ v3_ hv3_ v4_ hv4_ v5_ hv5_ v6_ hv6_ v7_ hv7_ H locs ls hS hl hT
    rw [t_MO_clock_L50] at hT
    refine lv_iload F.hx F.hb d_MO_clock_50 (lv_at hl 7 rfl) ?_
    refine r_iconst F.hx F.hb d_MO_clock_52 ?_
    refine r_icmp_gt (tgt := 126) F.hx F.hb hv7_ (inr_c rfl) d_MO_clock_53 (by decide) (fun c12 => ?_) (fun c12 => ?_)
    · replace hT := (if_pos c12).symm.trans hT
      refine lv_iinc (v := Int32.ofInt (w32 (v6_ + 1))) (lv' := [(6, vI (w32 (v6_ + 1))), (0, .ref (b + 191)), (1, vI x1), (2, vI v2_), (3, vI v3_), (4, vI v4_), (5, vI v5_), (7, vI v7_)]) F.hx F.hb d_MO_clock_126 hl (k := 6) rfl (q_of_add _ _) (Nat.le_of_ble_eq_true rfl) rfl (fun ls hl => ?_)
      refine lv_goto (tgt := 36) F.hx F.hb d_MO_clock_129 (by decide) ?_
      exact hbk36 M v2_ hv2_ v3_ hv3_ v4_ hv4_ v5_ hv5_ (w32 (v6_ + 1)) (inr_w32 _) _ _ _ hS (lv_sub hl [1, 2, 3, 4, 5, 6, 0] rfl) hT
    · replace hT := (if_neg c12).symm.trans hT
      refine lv_iload F.hx F.hb d_MO_clock_56 (lv_at hl 7 rfl) ?_
      refine lv_aload_n F.hx F.hb d_MO_clock_58 rfl (lv_at hl 0 rfl) ?_
      refine r_get (v := .ref (b + 212)) (N := 68) (T := T1) (j := 35) F hS (show 191 < 231 by decide) (show shK 191 = 5 from rfl) (show shN 191 = 68 from rfl) rfl (Nat.le_of_ble_eq_true rfl) ing1 mw_1424 (fv_sg rfl rfl rfl) d_MO_clock_59 ?_
      refine lv_iload F.hx F.hb d_MO_clock_62 (lv_at hl 6 rfl) ?_
      obtain ⟨⟨g13a, g13b⟩, hT⟩ := q_guard hT
      refine r_iald F hS (show 212 < 231 by decide) (show shK 212 = 0 from rfl) (show shN 212 = 92 from rfl) hv6_ g13a g13b d_MO_clock_64 ?_
      have i14 := hS.rng 212 v6_
      refine r_icmp_ne (tgt := 71) F.hx F.hb hv7_ i14 d_MO_clock_65 (by decide) (fun c15 => ?_) (fun c15 => ?_)
      · replace hT := (if_neg c15).symm.trans hT
        refine lv_aload_n F.hx F.hb d_MO_clock_71 rfl (lv_at hl 0 rfl) ?_
        refine r_iconst F.hx F.hb d_MO_clock_72 ?_
        refine r_iconst F.hx F.hb d_MO_clock_73 ?_
        obtain ⟨q16, hq16, hT⟩ := q_obind hT
        refine r_backV F hS (r_runV (k := 191) (N := 68) (T := T1) (As := [vI 1, vI 0]) F hS (show 191 < 231 by decide) (show shK 191 = 5 from rfl) rfl (c_MO_copies l F.2.2.1 M 1 0 (inr_c rfl) (inr_c rfl) _ hq16) gs_MO_437 hd_MO_copies ⟨Nat.le_of_ble_eq_true rfl, Nat.le_of_ble_eq_true rfl⟩ rfl hl.1 (Nat.le_of_ble_eq_true rfl) ⟨Nat.zero_le _, Nat.zero_le _⟩ rfl d_MO_clock_74) (fun H locs hS => ?_)
        refine lv_aload_n F.hx F.hb d_MO_clock_77 rfl (lv_at hl 0 rfl) ?_
        refine r_get (v := .ref (b + 212)) (N := 68) (T := T1) (j := 35) F hS (show 191 < 231 by decide) (show shK 191 = 5 from rfl) (show shN 191 = 68 from rfl) rfl (Nat.le_of_ble_eq_true rfl) ing1 mw_1424 (fv_sg rfl rfl rfl) d_MO_clock_78 ?_
        refine r_iconst F.hx F.hb d_MO_clock_81 ?_
        refine lv_iload F.hx F.hb d_MO_clock_82 (lv_at hl 6 rfl) ?_
        refine r_iadd F.hx F.hb d_MO_clock_84 ?_
        refine lv_iload F.hx F.hb d_MO_clock_85 (lv_at hl 7 rfl) ?_
        obtain ⟨⟨g18a, g18b⟩, hT⟩ := q_guard hT
        refine r_iast F hS (show 212 < 231 by decide) (show shK 212 = 0 from rfl) (show shN 212 = 92 from rfl) (inr_w32 _) hv7_ g18a g18b d_MO_clock_87 (fun H locs hS => ?_)
        obtain ⟨M19, eM19⟩ : ∃ q, q = (setI q16 212 (w32 (4 + v6_)) v7_) := ⟨_, rfl⟩
        replace hS : St b C n M19 s H locs := by rw [eM19]; exact hS
        replace hT := qlet_eq hT eM19
        refine lv_aload_n F.hx F.hb d_MO_clock_88 rfl (lv_at hl 0 rfl) ?_
        refine r_iconst F.hx F.hb d_MO_clock_89 ?_
        obtain ⟨q20, hq20, hT⟩ := q_obind hT
        refine r_backI F hS (r_runV (k := 191) (N := 68) (T := T1) (As := [vI 1]) F hS (show 191 < 231 by decide) (show shK 191 = 5 from rfl) rfl (c_MO_longest l F.2.2.1 M19 1 (inr_c rfl) _ hq20) gs_MO_480 hd_MO_longest ⟨Nat.le_of_ble_eq_true rfl, Nat.le_of_ble_eq_true rfl⟩ rfl hl.1 (Nat.le_of_ble_eq_true rfl) ⟨Nat.zero_le _, Nat.zero_le _⟩ rfl d_MO_clock_90) (fun H locs hS h21 => ?_)
        refine lv_istore (lv' := [(8, vI (q20.2)), (0, .ref (b + 191)), (1, vI x1), (2, vI v2_), (3, vI v3_), (4, vI v4_), (5, vI v5_), (6, vI v6_), (7, vI v7_)]) F.hx F.hb d_MO_clock_93 hl (Nat.le_of_ble_eq_true rfl) rfl (fun ls hl => ?_)
        refine lv_iload F.hx F.hb d_MO_clock_95 (lv_at hl 0 rfl) ?_
        refine lv_iload_n F.hx F.hb d_MO_clock_97 rfl (lv_at hl 3 rfl) ?_
        refine r_icmp_gt (tgt := 104) F.hx F.hb h21 hv2_ d_MO_clock_98 (by decide) (fun c22 => ?_) (fun c22 => ?_)
        · replace hT := (if_pos c22).symm.trans hT
          refine lv_iload F.hx F.hb d_MO_clock_104 (lv_at hl 0 rfl) ?_
          refine lv_istore_n (lv' := [(2, vI (q20.2)), (8, vI (q20.2)), (0, .ref (b + 191)), (1, vI x1), (3, vI v3_), (4, vI v4_), (5, vI v5_), (6, vI v6_), (7, vI v7_)]) F.hx F.hb d_MO_clock_106 rfl hl (Nat.le_of_ble_eq_true rfl) rfl (fun ls hl => ?_)
          refine lv_iload F.hx F.hb d_MO_clock_107 (lv_at hl 7 rfl) ?_
          refine lv_istore_n (lv' := [(3, vI v6_), (2, vI (q20.2)), (8, vI (q20.2)), (0, .ref (b + 191)), (1, vI x1), (4, vI v4_), (5, vI v5_), (6, vI v6_), (7, vI v7_)]) F.hx F.hb d_MO_clock_109 rfl hl (Nat.le_of_ble_eq_true rfl) rfl (fun ls hl => ?_)
          refine lv_iload F.hx F.hb d_MO_clock_110 (lv_at hl 8 rfl) ?_
          refine lv_istore (lv' := [(4, vI v7_), (3, vI v6_), (2, vI (q20.2)), (8, vI (q20.2)), (0, .ref (b + 191)), (1, vI x1), (5, vI v5_), (6, vI v6_), (7, vI v7_)]) F.hx F.hb d_MO_clock_112 hl (Nat.le_of_ble_eq_true rfl) rfl (fun ls hl => ?_)
          refine lv_aload_n F.hx F.hb d_MO_clock_114 rfl (lv_at hl 4 rfl) ?_
          refine r_get (v := vI ((q20.1).1 191 57)) (N := 68) (T := T1) (j := 57) F hS (show 191 < 231 by decide) (show shK 191 = 5 from rfl) (show shN 191 = 68 from rfl) rfl (Nat.le_of_ble_eq_true rfl) ing1 mw_1446 (fv_int rfl) d_MO_clock_115 ?_
          have i23 := hS.rng 191 57
          refine lv_istore (lv' := [(5, vI ((q20.1).1 191 57)), (4, vI v7_), (3, vI v6_), (2, vI (q20.2)), (8, vI (q20.2)), (0, .ref (b + 191)), (1, vI x1), (6, vI v6_), (7, vI v7_)]) F.hx F.hb d_MO_clock_118 hl (Nat.le_of_ble_eq_true rfl) rfl (fun ls hl => ?_)
          exact k_MO_clock_L120 l hlo x1 hx1 F hlk hr bk36 hbk36 (fun a0_ a1_ a2_ a3_ a4_ a5_ a6_ => t_MO_clock_L50 x1 bk36 fu a0_ a1_ a2_ a3_ a4_ a5_ a6_) ih (q20.1) (q20.2) h21 v6_ hv6_ v7_ hv7_ ((q20.1).1 191 57) i23 v6_ hv6_ v7_ hv7_ _ _ _ hS (lv_sub hl [5, 6, 3, 2, 1, 0, 7, 8] rfl) hT
        · replace hT := (if_neg c22).symm.trans hT
          refine lv_goto (tgt := 120) F.hx F.hb d_MO_clock_101 (by decide) ?_
          exact k_MO_clock_L120 l hlo x1 hx1 F hlk hr bk36 hbk36 (fun a0_ a1_ a2_ a3_ a4_ a5_ a6_ => t_MO_clock_L50 x1 bk36 fu a0_ a1_ a2_ a3_ a4_ a5_ a6_) ih (q20.1) v2_ hv2_ v3_ hv3_ v4_ hv4_ v5_ hv5_ v6_ hv6_ v7_ hv7_ _ _ _ hS (lv_sub hl [1, 2, 3, 4, 5, 6, 7, 8] rfl) hT
      · replace hT := (if_pos c15).symm.trans hT
        refine lv_goto (tgt := 120) F.hx F.hb d_MO_clock_68 (by decide) ?_
        exact k_MO_clock_L120 l hlo x1 hx1 F hlk hr bk36 hbk36 (fun a0_ a1_ a2_ a3_ a4_ a5_ a6_ => t_MO_clock_L50 x1 bk36 fu a0_ a1_ a2_ a3_ a4_ a5_ a6_) ih M v2_ hv2_ v3_ hv3_ v4_ hv4_ v5_ hv5_ v6_ hv6_ v7_ hv7_ _ _ _ hS (lv_sub hl [0, 1, 2, 3, 4, 5, 6, 7] rfl) hT
set_option maxHeartbeats 4000000 in
set_option maxRecDepth 100000 in
theorem k_MO_clock_L36 (l : Launch) {p : Program} {e : Env} {s : State} {m : MethodId} {below : List Frame} {meth : Method} {c : Code} {b n : Nat} {C : CT} (hlo : 231 ≤ n) (x1 : Int) (hx1 : InR x1) (F : Cx b p m c b_MO_clock 9 s ([.ref (b + 191), vI x1] : List Value).toArray "WardFallsModel" C n 231) (hlk : meth.locks = false) (hr : meth.sig.returnType = some .int) {res : Mem × Int} : ∀ (fu : Nat) (M : Mem) (v2_ : Int) (hv2_ : InR v2_) (v3_ : Int) (hv3_ : InR v3_) (v4_ : Int) (hv4_ : InR v4_) (v5_ : Int) (hv5_ : InR v5_) (v6_ : Int) (hv6_ : InR v6_) (H : Heap) (locs : List Loc) (ls : Array Slot), St b C n M s H locs → lv_has ls 9 [(0, .ref (b + 191)), (1, vI x1), (2, vI v2_), (3, vI v3_), (4, vI v4_), (5, vI v5_), (6, vI v6_)] → t_MO_clock_L36 x1 fu M v2_ v3_ v4_ v5_ v6_ = some res → W p l e (headSpec (wsM y_MO_clock b_MO_clock 9 (some .int)) (rmD 4)).room s m ([.ref (b + 191), vI x1] : List Value).toArray below meth c H locs 0 0 (MQ below (QI b C n res.1 res.2) ([.ref (b + 191), vI x1] : List Value).toArray s 0 0 (frb b)) (F0 m 36 ls []) := by
  intro fu
  induction fu with
  | zero => intro M v2_ hv2_ v3_ hv3_ v4_ hv4_ v5_ hv5_ v6_ hv6_ H locs ls hS hl hT; exact absurd hT (by simp [t_MO_clock_L36])
  | succ fu ih =>
    intro M v2_ hv2_ v3_ hv3_ v4_ hv4_ v5_ hv5_ v6_ hv6_ H locs ls hS hl hT
    rw [t_MO_clock_L36] at hT
    refine lv_iload F.hx F.hb d_MO_clock_36 (lv_at hl 6 rfl) ?_
    refine lv_aload_n F.hx F.hb d_MO_clock_38 rfl (lv_at hl 0 rfl) ?_
    refine r_get (v := .ref (b + 193)) (N := 68) (T := T1) (j := 3) F hS (show 191 < 231 by decide) (show shK 191 = 5 from rfl) (show shN 191 = 68 from rfl) rfl (Nat.le_of_ble_eq_true rfl) ing1 mw_1392 (fv_sg rfl rfl rfl) d_MO_clock_39 ?_
    refine r_iconst F.hx F.hb d_MO_clock_42 ?_
    refine r_iald F hS (show 193 < 231 by decide) (show shK 193 = 0 from rfl) (show shN 193 = 18 from rfl) (inr_c rfl) (by omega) (by omega) d_MO_clock_43 ?_
    have i7 := hS.rng 193 2
    refine r_icmp_ge (tgt := 132) F.hx F.hb hv6_ i7 d_MO_clock_44 (by decide) (fun c8 => ?_) (fun c8 => ?_)
    · replace hT := (if_pos c8).symm.trans hT
      refine lv_iload_n F.hx F.hb d_MO_clock_132 rfl (lv_at hl 1 rfl) ?_
      refine r_if_ne (tgt := 140) F.hx F.hb hx1 d_MO_clock_133 (by decide) (fun c9 => ?_) (fun c9 => ?_)
      · replace hT := (if_neg c9).symm.trans hT
        refine lv_iload_n F.hx F.hb d_MO_clock_140 rfl (lv_at hl 1 rfl) ?_
        refine r_iconst F.hx F.hb d_MO_clock_141 ?_
        refine r_icmp_ne (tgt := 149) F.hx F.hb hx1 (inr_c rfl) d_MO_clock_142 (by decide) (fun c10 => ?_) (fun c10 => ?_)
        · replace hT := (if_neg c10).symm.trans hT
          refine lv_iload_n F.hx F.hb d_MO_clock_149 rfl (lv_at hl 1 rfl) ?_
          refine r_iconst F.hx F.hb d_MO_clock_150 ?_
          refine r_icmp_ne (tgt := 159) F.hx F.hb hx1 (inr_c rfl) d_MO_clock_151 (by decide) (fun c11 => ?_) (fun c11 => ?_)
          · replace hT := (if_neg c11).symm.trans hT
            refine lv_iload F.hx F.hb d_MO_clock_159 (lv_at hl 5 rfl) ?_
            cases hT
            exact r_iret F hlk hr rfl hS hv5_ d_MO_clock_161
          · replace hT := (if_pos c11).symm.trans hT
            refine lv_iload F.hx F.hb d_MO_clock_154 (lv_at hl 4 rfl) ?_
            refine lv_goto (tgt := 161) F.hx F.hb d_MO_clock_156 (by decide) ?_
            cases hT
            exact r_iret F hlk hr rfl hS hv4_ d_MO_clock_161
        · replace hT := (if_pos c10).symm.trans hT
          refine lv_iload_n F.hx F.hb d_MO_clock_145 rfl (lv_at hl 3 rfl) ?_
          refine lv_goto (tgt := 161) F.hx F.hb d_MO_clock_146 (by decide) ?_
          cases hT
          exact r_iret F hlk hr rfl hS hv3_ d_MO_clock_161
      · replace hT := (if_pos c9).symm.trans hT
        refine lv_iload_n F.hx F.hb d_MO_clock_136 rfl (lv_at hl 2 rfl) ?_
        refine lv_goto (tgt := 161) F.hx F.hb d_MO_clock_137 (by decide) ?_
        cases hT
        exact r_iret F hlk hr rfl hS hv2_ d_MO_clock_161
    · replace hT := (if_neg c8).symm.trans hT
      refine r_iconst F.hx F.hb d_MO_clock_47 ?_
      refine lv_istore (lv' := [(7, vI 0), (0, .ref (b + 191)), (1, vI x1), (2, vI v2_), (3, vI v3_), (4, vI v4_), (5, vI v5_), (6, vI v6_)]) F.hx F.hb d_MO_clock_48 hl (Nat.le_of_ble_eq_true rfl) rfl (fun ls hl => ?_)
      exact k_MO_clock_L50 l hlo x1 hx1 F hlk hr (fun a0_ a1_ a2_ a3_ a4_ a5_ => t_MO_clock_L36 x1 fu a0_ a1_ a2_ a3_ a4_ a5_) ih FU M v2_ hv2_ v3_ hv3_ v4_ hv4_ v5_ hv5_ v6_ hv6_ 0 (inr_c rfl) _ _ _ hS (lv_sub hl [1, 2, 3, 4, 5, 6, 7, 0] rfl) hT
set_option maxHeartbeats 4000000 in
set_option maxRecDepth 100000 in
theorem c_MO_clock (l : Launch) {b n : Nat} {C : CT} (hlo : 231 ≤ n) (M : Mem) (x1 : Int) (hx1 : InR x1) (res : Mem × Int) (hT : t_MO_clock M x1 = some res) : CM l b C n 4 y_MO_clock b_MO_clock 9 (some .int) [.ref (b + 191), vI x1] M (QI b C n res.1 res.2) := by
  refine CM.of (lo := 231) (ow := "WardFallsModel") (by decide) rfl (Nat.le_of_ble_eq_true rfl) hlo (fun p e s m below meth c F hlk hr hS ls hl => ?_)
  have hl : lv_has ls 9 [(0, .ref (b + 191)), (1, vI x1)] := hl
  unfold t_MO_clock at hT
  refine lv_aload_n F.hx F.hb d_MO_clock_0 rfl (lv_at hl 0 rfl) ?_
  refine r_iconst F.hx F.hb d_MO_clock_1 ?_
  refine r_putI (N := 68) (T := T1) (j := 0) F hS (show 191 < 231 by decide) (show shK 191 = 5 from rfl) (show shN 191 = 68 from rfl) rfl (Nat.le_of_ble_eq_true rfl) ing1 tyok1 nm1 rfl rfl rfl rfl rfl rfl mw_1389 (inr_c rfl) d_MO_clock_2 (fun H locs hS => ?_)
  obtain ⟨M1, eM1⟩ : ∃ q, q = (setI M 191 0 0) := ⟨_, rfl⟩
  replace hS : St b C n M1 s H locs := by rw [eM1]; exact hS
  replace hT := qlet_eq hT eM1
  refine lv_iload_n F.hx F.hb d_MO_clock_5 rfl (lv_at hl 1 rfl) ?_
  refine r_if_lt (tgt := 14) F.hx F.hb hx1 d_MO_clock_6 (by decide) (fun c2 => ?_) (fun c2 => ?_)
  · replace hT := (if_pos c2).symm.trans hT
    refine r_iconst F.hx F.hb d_MO_clock_14 ?_
    cases hT
    exact r_iret F hlk hr rfl hS (inr_c rfl) d_MO_clock_15
  · replace hT := (if_neg c2).symm.trans hT
    refine lv_iload_n F.hx F.hb d_MO_clock_9 rfl (lv_at hl 1 rfl) ?_
    refine r_iconst F.hx F.hb d_MO_clock_10 ?_
    refine r_icmp_le (tgt := 16) F.hx F.hb hx1 (inr_c rfl) d_MO_clock_11 (by decide) (fun c3 => ?_) (fun c3 => ?_)
    · replace hT := (if_pos c3).symm.trans hT
      refine lv_aload_n F.hx F.hb d_MO_clock_16 rfl (lv_at hl 0 rfl) ?_
      refine r_iconst F.hx F.hb d_MO_clock_17 ?_
      obtain ⟨q4, hq4, hT⟩ := q_obind hT
      refine r_backI F hS (r_runV (k := 191) (N := 68) (T := T1) (As := [vI 0]) F hS (show 191 < 231 by decide) (show shK 191 = 5 from rfl) rfl (c_MO_longest l F.2.2.1 M1 0 (inr_c rfl) _ hq4) gs_MO_480 hd_MO_longest ⟨Nat.le_of_ble_eq_true rfl, Nat.le_of_ble_eq_true rfl⟩ rfl hl.1 (Nat.le_of_ble_eq_true rfl) ⟨Nat.zero_le _, Nat.zero_le _⟩ rfl d_MO_clock_18) (fun H locs hS h5 => ?_)
      refine lv_istore_n (lv' := [(2, vI (q4.2)), (0, .ref (b + 191)), (1, vI x1)]) F.hx F.hb d_MO_clock_21 rfl hl (Nat.le_of_ble_eq_true rfl) rfl (fun ls hl => ?_)
      refine r_iconst F.hx F.hb d_MO_clock_22 ?_
      refine lv_istore_n (lv' := [(3, vI (-1)), (2, vI (q4.2)), (0, .ref (b + 191)), (1, vI x1)]) F.hx F.hb d_MO_clock_23 rfl hl (Nat.le_of_ble_eq_true rfl) rfl (fun ls hl => ?_)
      refine r_iconst F.hx F.hb d_MO_clock_24 ?_
      refine lv_istore (lv' := [(4, vI (-1)), (3, vI (-1)), (2, vI (q4.2)), (0, .ref (b + 191)), (1, vI x1)]) F.hx F.hb d_MO_clock_25 hl (Nat.le_of_ble_eq_true rfl) rfl (fun ls hl => ?_)
      refine lv_aload_n F.hx F.hb d_MO_clock_27 rfl (lv_at hl 3 rfl) ?_
      refine r_get (v := vI ((q4.1).1 191 57)) (N := 68) (T := T1) (j := 57) F hS (show 191 < 231 by decide) (show shK 191 = 5 from rfl) (show shN 191 = 68 from rfl) rfl (Nat.le_of_ble_eq_true rfl) ing1 mw_1446 (fv_int rfl) d_MO_clock_28 ?_
      have i6 := hS.rng 191 57
      refine lv_istore (lv' := [(5, vI ((q4.1).1 191 57)), (4, vI (-1)), (3, vI (-1)), (2, vI (q4.2)), (0, .ref (b + 191)), (1, vI x1)]) F.hx F.hb d_MO_clock_31 hl (Nat.le_of_ble_eq_true rfl) rfl (fun ls hl => ?_)
      refine r_iconst F.hx F.hb d_MO_clock_33 ?_
      refine lv_istore (lv' := [(6, vI 0), (5, vI ((q4.1).1 191 57)), (4, vI (-1)), (3, vI (-1)), (2, vI (q4.2)), (0, .ref (b + 191)), (1, vI x1)]) F.hx F.hb d_MO_clock_34 hl (Nat.le_of_ble_eq_true rfl) rfl (fun ls hl => ?_)
      exact k_MO_clock_L36 l hlo x1 hx1 F hlk hr FU (q4.1) (q4.2) h5 (-1) (inr_c rfl) (-1) (inr_c rfl) ((q4.1).1 191 57) i6 0 (inr_c rfl) _ _ _ hS (lv_sub hl [5, 6, 4, 3, 2, 1, 0] rfl) hT
    · replace hT := (if_neg c3).symm.trans hT
      refine r_iconst F.hx F.hb d_MO_clock_14 ?_
      cases hT
      exact r_iret F hlk hr rfl hS (inr_c rfl) d_MO_clock_15
theorem d_MO_votes_0 : decode b_MO_votes 0 = .ok (.iconst 1, 1) := dc_4 (by decide +kernel)
theorem d_MO_votes_1 : decode b_MO_votes 1 = .ok (.iconst 2, 1) := dc_5 (by decide +kernel)
theorem d_MO_votes_2 : decode b_MO_votes 2 = .ok (.aload_n 0, 1) := dc_42 (by decide +kernel)
theorem d_MO_votes_3 : decode b_MO_votes 3 = .ok (.getfield 13, 3) := dc_180 (by decide +kernel)
theorem d_MO_votes_6 : decode b_MO_votes 6 = .ok (.iconst 2, 1) := dc_5 (by decide +kernel)
theorem d_MO_votes_7 : decode b_MO_votes 7 = .ok (.iaload, 1) := dc_46 (by decide +kernel)
theorem d_MO_votes_8 : decode b_MO_votes 8 = .ok (.imul, 1) := dc_104 (by decide +kernel)
theorem d_MO_votes_9 : decode b_MO_votes 9 = .ok (.ishl, 1) := dc_120 (by decide +kernel)
theorem d_MO_votes_10 : decode b_MO_votes 10 = .ok (.ireturn, 1) := dc_172 (by decide +kernel)
def t_MO_votes (M : Mem)  : Int := (q_shl 1 (w32 (2 * (M.1 193 2))))
set_option maxHeartbeats 4000000 in
set_option maxRecDepth 100000 in
theorem c_MO_votes (l : Launch) {b n : Nat} {C : CT} (hlo : 231 ≤ n) (M : Mem)   (res : Int) (hT : t_MO_votes M  = res) : CM l b C n 0 y_MO_votes b_MO_votes 1 (some .int) [.ref (b + 191)] M (QI b C n M res) := by
  refine CM.of (lo := 231) (ow := "WardFallsModel") (by decide) rfl (Nat.le_of_ble_eq_true rfl) hlo (fun p e s m below meth c F hlk hr hS ls hl => ?_)
  have hl : lv_has ls 1 [(0, .ref (b + 191))] := hl
  unfold t_MO_votes at hT
  refine r_iconst F.hx F.hb d_MO_votes_0 ?_
  refine r_iconst F.hx F.hb d_MO_votes_1 ?_
  refine lv_aload_n F.hx F.hb d_MO_votes_2 rfl (lv_at hl 0 rfl) ?_
  refine r_get (v := .ref (b + 193)) (N := 68) (T := T1) (j := 3) F hS (show 191 < 231 by decide) (show shK 191 = 5 from rfl) (show shN 191 = 68 from rfl) rfl (Nat.le_of_ble_eq_true rfl) ing1 mw_1392 (fv_sg rfl rfl rfl) d_MO_votes_3 ?_
  refine r_iconst F.hx F.hb d_MO_votes_6 ?_
  refine r_iald F hS (show 193 < 231 by decide) (show shK 193 = 0 from rfl) (show shN 193 = 18 from rfl) (inr_c rfl) (by omega) (by omega) d_MO_votes_7 ?_
  have i1 := hS.rng 193 2
  refine r_imul F.hx F.hb d_MO_votes_8 ?_
  refine r_ishl F.hx F.hb d_MO_votes_9 ?_
  subst hT
  exact r_iret F hlk hr rfl hS (q_inr_toInt _) d_MO_votes_10
theorem d_MO_layJoys_0 : decode b_MO_layJoys 0 = .ok (.aload_n 0, 1) := dc_42 (by decide +kernel)
theorem d_MO_layJoys_1 : decode b_MO_layJoys 1 = .ok (.iconst 1, 1) := dc_4 (by decide +kernel)
theorem d_MO_layJoys_2 : decode b_MO_layJoys 2 = .ok (.iconst 0, 1) := dc_3 (by decide +kernel)
theorem d_MO_layJoys_3 : decode b_MO_layJoys 3 = .ok (.invokevirtual 437, 3) := dc_182 (by decide +kernel)
theorem d_MO_layJoys_6 : decode b_MO_layJoys 6 = .ok (.iconst 0, 1) := dc_3 (by decide +kernel)
theorem d_MO_layJoys_7 : decode b_MO_layJoys 7 = .ok (.istore_n 1, 1) := dc_60 (by decide +kernel)
theorem d_MO_layJoys_8 : decode b_MO_layJoys 8 = .ok (.iload_n 1, 1) := dc_27 (by decide +kernel)
theorem d_MO_layJoys_9 : decode b_MO_layJoys 9 = .ok (.aload_n 0, 1) := dc_42 (by decide +kernel)
theorem d_MO_layJoys_10 : decode b_MO_layJoys 10 = .ok (.invokevirtual 483, 3) := dc_182 (by decide +kernel)
theorem d_MO_layJoys_13 : decode b_MO_layJoys 13 = .ok (.if_icmp .ge 76, 3) := dc_162 (by decide +kernel)
theorem d_MO_layJoys_16 : decode b_MO_layJoys 16 = .ok (.iconst 0, 1) := dc_3 (by decide +kernel)
theorem d_MO_layJoys_17 : decode b_MO_layJoys 17 = .ok (.istore_n 2, 1) := dc_61 (by decide +kernel)
theorem d_MO_layJoys_18 : decode b_MO_layJoys 18 = .ok (.iload_n 2, 1) := dc_28 (by decide +kernel)
theorem d_MO_layJoys_19 : decode b_MO_layJoys 19 = .ok (.aload_n 0, 1) := dc_42 (by decide +kernel)
theorem d_MO_layJoys_20 : decode b_MO_layJoys 20 = .ok (.getfield 13, 3) := dc_180 (by decide +kernel)
theorem d_MO_layJoys_23 : decode b_MO_layJoys 23 = .ok (.iconst 2, 1) := dc_5 (by decide +kernel)
theorem d_MO_layJoys_24 : decode b_MO_layJoys 24 = .ok (.iaload, 1) := dc_46 (by decide +kernel)
theorem d_MO_layJoys_25 : decode b_MO_layJoys 25 = .ok (.if_icmp .ge 24, 3) := dc_162 (by decide +kernel)
theorem d_MO_layJoys_28 : decode b_MO_layJoys 28 = .ok (.aload_n 0, 1) := dc_42 (by decide +kernel)
theorem d_MO_layJoys_29 : decode b_MO_layJoys 29 = .ok (.getfield 76, 3) := dc_180 (by decide +kernel)
theorem d_MO_layJoys_32 : decode b_MO_layJoys 32 = .ok (.iconst 4, 1) := dc_7 (by decide +kernel)
theorem d_MO_layJoys_33 : decode b_MO_layJoys 33 = .ok (.iload_n 2, 1) := dc_28 (by decide +kernel)
theorem d_MO_layJoys_34 : decode b_MO_layJoys 34 = .ok (.iadd, 1) := dc_96 (by decide +kernel)
theorem d_MO_layJoys_35 : decode b_MO_layJoys 35 = .ok (.iload_n 1, 1) := dc_27 (by decide +kernel)
theorem d_MO_layJoys_36 : decode b_MO_layJoys 36 = .ok (.iconst 2, 1) := dc_5 (by decide +kernel)
theorem d_MO_layJoys_37 : decode b_MO_layJoys 37 = .ok (.iload_n 2, 1) := dc_28 (by decide +kernel)
theorem d_MO_layJoys_38 : decode b_MO_layJoys 38 = .ok (.imul, 1) := dc_104 (by decide +kernel)
theorem d_MO_layJoys_39 : decode b_MO_layJoys 39 = .ok (.ishr, 1) := dc_122 (by decide +kernel)
theorem d_MO_layJoys_40 : decode b_MO_layJoys 40 = .ok (.iconst 3, 1) := dc_6 (by decide +kernel)
theorem d_MO_layJoys_41 : decode b_MO_layJoys 41 = .ok (.iand, 1) := dc_126 (by decide +kernel)
theorem d_MO_layJoys_42 : decode b_MO_layJoys 42 = .ok (.iastore, 1) := dc_79 (by decide +kernel)
theorem d_MO_layJoys_43 : decode b_MO_layJoys 43 = .ok (.iinc 2 1, 3) := dc_132 (by decide +kernel)
theorem d_MO_layJoys_46 : decode b_MO_layJoys 46 = .ok (.goto (-28), 3) := dc_167 (by decide +kernel)
theorem d_MO_layJoys_49 : decode b_MO_layJoys 49 = .ok (.iconst 0, 1) := dc_3 (by decide +kernel)
theorem d_MO_layJoys_50 : decode b_MO_layJoys 50 = .ok (.istore_n 2, 1) := dc_61 (by decide +kernel)
theorem d_MO_layJoys_51 : decode b_MO_layJoys 51 = .ok (.iload_n 2, 1) := dc_28 (by decide +kernel)
theorem d_MO_layJoys_52 : decode b_MO_layJoys 52 = .ok (.aload_n 0, 1) := dc_42 (by decide +kernel)
theorem d_MO_layJoys_53 : decode b_MO_layJoys 53 = .ok (.getfield 13, 3) := dc_180 (by decide +kernel)
theorem d_MO_layJoys_56 : decode b_MO_layJoys 56 = .ok (.iconst 2, 1) := dc_5 (by decide +kernel)
theorem d_MO_layJoys_57 : decode b_MO_layJoys 57 = .ok (.iaload, 1) := dc_46 (by decide +kernel)
theorem d_MO_layJoys_58 : decode b_MO_layJoys 58 = .ok (.if_icmp .ge 25, 3) := dc_162 (by decide +kernel)
theorem d_MO_layJoys_61 : decode b_MO_layJoys 61 = .ok (.aload_n 0, 1) := dc_42 (by decide +kernel)
theorem d_MO_layJoys_62 : decode b_MO_layJoys 62 = .ok (.getfield 118, 3) := dc_180 (by decide +kernel)
theorem d_MO_layJoys_65 : decode b_MO_layJoys 65 = .ok (.iconst 4, 1) := dc_7 (by decide +kernel)
theorem d_MO_layJoys_66 : decode b_MO_layJoys 66 = .ok (.iload_n 1, 1) := dc_27 (by decide +kernel)
theorem d_MO_layJoys_67 : decode b_MO_layJoys 67 = .ok (.imul, 1) := dc_104 (by decide +kernel)
theorem d_MO_layJoys_68 : decode b_MO_layJoys 68 = .ok (.iload_n 2, 1) := dc_28 (by decide +kernel)
theorem d_MO_layJoys_69 : decode b_MO_layJoys 69 = .ok (.iadd, 1) := dc_96 (by decide +kernel)
theorem d_MO_layJoys_70 : decode b_MO_layJoys 70 = .ok (.aload_n 0, 1) := dc_42 (by decide +kernel)
theorem d_MO_layJoys_71 : decode b_MO_layJoys 71 = .ok (.iconst 1, 1) := dc_4 (by decide +kernel)
theorem d_MO_layJoys_72 : decode b_MO_layJoys 72 = .ok (.iload_n 2, 1) := dc_28 (by decide +kernel)
theorem d_MO_layJoys_73 : decode b_MO_layJoys 73 = .ok (.invokevirtual 375, 3) := dc_182 (by decide +kernel)
theorem d_MO_layJoys_76 : decode b_MO_layJoys 76 = .ok (.iastore, 1) := dc_79 (by decide +kernel)
theorem d_MO_layJoys_77 : decode b_MO_layJoys 77 = .ok (.iinc 2 1, 3) := dc_132 (by decide +kernel)
theorem d_MO_layJoys_80 : decode b_MO_layJoys 80 = .ok (.goto (-29), 3) := dc_167 (by decide +kernel)
theorem d_MO_layJoys_83 : decode b_MO_layJoys 83 = .ok (.iinc 1 1, 3) := dc_132 (by decide +kernel)
theorem d_MO_layJoys_86 : decode b_MO_layJoys 86 = .ok (.goto (-78), 3) := dc_167 (by decide +kernel)
theorem d_MO_layJoys_89 : decode b_MO_layJoys 89 = .ok (.return_, 1) := dc_177 (by decide +kernel)
def t_MO_layJoys_L51  (bk8 : Mem → Int → Option (Mem)) : Nat → Mem → Int → Int → Option (Mem)
  | 0, _, _, _ => none
  | fu + 1, M, v1_, v2_ => (if (M.1 193 2) ≤ v2_ then (bk8 M (w32 (v1_ + 1))) else (obind (t_MO_joyOf M 1 v2_) fun q12 => (qguard (0 ≤ (w32 ((w32 (4 * v1_)) + v2_)) ∧ (w32 ((w32 (4 * v1_)) + v2_)) < 1024) (qlet (setI (q12.1) 224 (w32 ((w32 (4 * v1_)) + v2_)) (q12.2)) fun M15 => (t_MO_layJoys_L51 bk8 fu M15 v1_ (w32 (v2_ + 1)))))))
def t_MO_layJoys_L18  (bk8 : Mem → Int → Option (Mem)) : Nat → Mem → Int → Int → Option (Mem)
  | 0, _, _, _ => none
  | fu + 1, M, v1_, v2_ => (if (M.1 193 2) ≤ v2_ then (t_MO_layJoys_L51 bk8 FU M v1_ 0) else (qguard (0 ≤ (w32 (4 + v2_)) ∧ (w32 (4 + v2_)) < 92) (qlet (setI M 212 (w32 (4 + v2_)) (q_and (q_shr v1_ (w32 (2 * v2_))) 3)) fun M9 => (t_MO_layJoys_L18 bk8 fu M9 v1_ (w32 (v2_ + 1))))))
def t_MO_layJoys_L8   : Nat → Mem → Int → Option (Mem)
  | 0, _, _ => none
  | fu + 1, M, v1_ => (qlet (t_MO_votes M) fun q3 => (if q3 ≤ v1_ then (some M) else (t_MO_layJoys_L18 (fun a0_ a1_ => t_MO_layJoys_L8 fu a0_ a1_) FU M v1_ 0)))
def t_MO_layJoys (M : Mem)  : Option (Mem) := (obind (t_MO_copies M 1 0) fun q1 => (t_MO_layJoys_L8 FU q1 0))
set_option maxHeartbeats 4000000 in
set_option maxRecDepth 100000 in
theorem k_MO_layJoys_L51 (l : Launch) {p : Program} {e : Env} {s : State} {m : MethodId} {below : List Frame} {meth : Method} {c : Code} {b n : Nat} {C : CT} (hlo : 231 ≤ n)   (F : Cx b p m c b_MO_layJoys 3 s ([.ref (b + 191)] : List Value).toArray "WardFallsModel" C n 231) (hlk : meth.locks = false) (hr : meth.sig.returnType = none) {res : Mem} (bk8 : Mem → Int → Option (Mem)) (hbk8 : ∀ (M : Mem) (v1_ : Int) (hv1_ : InR v1_) (H : Heap) (locs : List Loc) (ls : Array Slot), St b C n M s H locs → lv_has ls 3 [(0, .ref (b + 191)), (1, vI v1_)] → bk8 M v1_ = some res → W p l e (headSpec (wsM y_MO_layJoys b_MO_layJoys 3 (none)) (rmD 5)).room s m ([.ref (b + 191)] : List Value).toArray below meth c H locs 0 0 (MQ below (QV b C n res) ([.ref (b + 191)] : List Value).toArray s 0 0 (frb b)) (F0 m 8 ls [])) : ∀ (fu : Nat) (M : Mem) (v1_ : Int) (hv1_ : InR v1_) (v2_ : Int) (hv2_ : InR v2_) (H : Heap) (locs : List Loc) (ls : Array Slot), St b C n M s H locs → lv_has ls 3 [(0, .ref (b + 191)), (1, vI v1_), (2, vI v2_)] → t_MO_layJoys_L51 bk8 fu M v1_ v2_ = some res → W p l e (headSpec (wsM y_MO_layJoys b_MO_layJoys 3 (none)) (rmD 5)).room s m ([.ref (b + 191)] : List Value).toArray below meth c H locs 0 0 (MQ below (QV b C n res) ([.ref (b + 191)] : List Value).toArray s 0 0 (frb b)) (F0 m 51 ls []) := by
  intro fu
  induction fu with
  | zero => intro M v1_ hv1_ v2_ hv2_ H locs ls hS hl hT; exact absurd hT (by simp [t_MO_layJoys_L51])
  | succ fu ih =>
    intro M v1_ hv1_ v2_ hv2_ H locs ls hS hl hT
    rw [t_MO_layJoys_L51] at hT
    refine lv_iload_n F.hx F.hb d_MO_layJoys_51 rfl (lv_at hl 2 rfl) ?_
    refine lv_aload_n F.hx F.hb d_MO_layJoys_52 rfl (lv_at hl 0 rfl) ?_
    refine r_get (v := .ref (b + 193)) (N := 68) (T := T1) (j := 3) F hS (show 191 < 231 by decide) (show shK 191 = 5 from rfl) (show shN 191 = 68 from rfl) rfl (Nat.le_of_ble_eq_true rfl) ing1 mw_1392 (fv_sg rfl rfl rfl) d_MO_layJoys_53 ?_
    refine r_iconst F.hx F.hb d_MO_layJoys_56 ?_
    refine r_iald F hS (show 193 < 231 by decide) (show shK 193 = 0 from rfl) (show shN 193 = 18 from rfl) (inr_c rfl) (by omega) (by omega) d_MO_layJoys_57 ?_
    have i10 := hS.rng 193 2
    refine r_icmp_ge (tgt := 83) F.hx F.hb hv2_ i10 d_MO_layJoys_58 (by decide) (fun c11 => ?_) (fun c11 => ?_)
    · replace hT := (if_pos c11).symm.trans hT
      refine lv_iinc (v := Int32.ofInt (w32 (v1_ + 1))) (lv' := [(1, vI (w32 (v1_ + 1))), (0, .ref (b + 191)), (2, vI v2_)]) F.hx F.hb d_MO_layJoys_83 hl (k := 1) rfl (q_of_add _ _) (Nat.le_of_ble_eq_true rfl) rfl (fun ls hl => ?_)
      refine lv_goto (tgt := 8) F.hx F.hb d_MO_layJoys_86 (by decide) ?_
      exact hbk8 M (w32 (v1_ + 1)) (inr_w32 _) _ _ _ hS (lv_sub hl [1, 0] rfl) hT
    · replace hT := (if_neg c11).symm.trans hT
      refine lv_aload_n F.hx F.hb d_MO_layJoys_61 rfl (lv_at hl 0 rfl) ?_
      refine r_get (v := .ref (b + 224)) (N := 68) (T := T1) (j := 58) F hS (show 191 < 231 by decide) (show shK 191 = 5 from rfl) (show shN 191 = 68 from rfl) rfl (Nat.le_of_ble_eq_true rfl) ing1 mw_1447 (fv_sg rfl rfl rfl) d_MO_layJoys_62 ?_
      refine r_iconst F.hx F.hb d_MO_layJoys_65 ?_
      refine lv_iload_n F.hx F.hb d_MO_layJoys_66 rfl (lv_at hl 1 rfl) ?_
      refine r_imul F.hx F.hb d_MO_layJoys_67 ?_
      refine lv_iload_n F.hx F.hb d_MO_layJoys_68 rfl (lv_at hl 2 rfl) ?_
      refine r_iadd F.hx F.hb d_MO_layJoys_69 ?_
      refine lv_aload_n F.hx F.hb d_MO_layJoys_70 rfl (lv_at hl 0 rfl) ?_
      refine r_iconst F.hx F.hb d_MO_layJoys_71 ?_
      refine lv_iload_n F.hx F.hb d_MO_layJoys_72 rfl (lv_at hl 2 rfl) ?_
      obtain ⟨q12, hq12, hT⟩ := q_obind hT
      refine r_backI F hS (r_runV (k := 191) (N := 68) (T := T1) (As := [vI 1, vI v2_]) F hS (show 191 < 231 by decide) (show shK 191 = 5 from rfl) rfl (c_MO_joyOf l F.2.2.1 M 1 v2_ (inr_c rfl) hv2_ _ hq12) gs_MO_375 hd_MO_joyOf ⟨Nat.le_of_ble_eq_true rfl, Nat.le_of_ble_eq_true rfl⟩ rfl hl.1 (Nat.le_of_ble_eq_true rfl) ⟨Nat.zero_le _, Nat.zero_le _⟩ rfl d_MO_layJoys_73) (fun H locs hS h13 => ?_)
      obtain ⟨⟨g14a, g14b⟩, hT⟩ := q_guard hT
      refine r_iast F hS (show 224 < 231 by decide) (show shK 224 = 0 from rfl) (show shN 224 = 1024 from rfl) (inr_w32 _) h13 g14a g14b d_MO_layJoys_76 (fun H locs hS => ?_)
      obtain ⟨M15, eM15⟩ : ∃ q, q = (setI (q12.1) 224 (w32 ((w32 (4 * v1_)) + v2_)) (q12.2)) := ⟨_, rfl⟩
      replace hS : St b C n M15 s H locs := by rw [eM15]; exact hS
      replace hT := qlet_eq hT eM15
      refine lv_iinc (v := Int32.ofInt (w32 (v2_ + 1))) (lv' := [(2, vI (w32 (v2_ + 1))), (0, .ref (b + 191)), (1, vI v1_)]) F.hx F.hb d_MO_layJoys_77 hl (k := 2) rfl (q_of_add _ _) (Nat.le_of_ble_eq_true rfl) rfl (fun ls hl => ?_)
      refine lv_goto (tgt := 51) F.hx F.hb d_MO_layJoys_80 (by decide) ?_
      exact ih M15 v1_ hv1_ (w32 (v2_ + 1)) (inr_w32 _) _ _ _ hS (lv_sub hl [1, 2, 0] rfl) hT
set_option maxHeartbeats 4000000 in
set_option maxRecDepth 100000 in
theorem k_MO_layJoys_L18 (l : Launch) {p : Program} {e : Env} {s : State} {m : MethodId} {below : List Frame} {meth : Method} {c : Code} {b n : Nat} {C : CT} (hlo : 231 ≤ n)   (F : Cx b p m c b_MO_layJoys 3 s ([.ref (b + 191)] : List Value).toArray "WardFallsModel" C n 231) (hlk : meth.locks = false) (hr : meth.sig.returnType = none) {res : Mem} (bk8 : Mem → Int → Option (Mem)) (hbk8 : ∀ (M : Mem) (v1_ : Int) (hv1_ : InR v1_) (H : Heap) (locs : List Loc) (ls : Array Slot), St b C n M s H locs → lv_has ls 3 [(0, .ref (b + 191)), (1, vI v1_)] → bk8 M v1_ = some res → W p l e (headSpec (wsM y_MO_layJoys b_MO_layJoys 3 (none)) (rmD 5)).room s m ([.ref (b + 191)] : List Value).toArray below meth c H locs 0 0 (MQ below (QV b C n res) ([.ref (b + 191)] : List Value).toArray s 0 0 (frb b)) (F0 m 8 ls [])) : ∀ (fu : Nat) (M : Mem) (v1_ : Int) (hv1_ : InR v1_) (v2_ : Int) (hv2_ : InR v2_) (H : Heap) (locs : List Loc) (ls : Array Slot), St b C n M s H locs → lv_has ls 3 [(0, .ref (b + 191)), (1, vI v1_), (2, vI v2_)] → t_MO_layJoys_L18 bk8 fu M v1_ v2_ = some res → W p l e (headSpec (wsM y_MO_layJoys b_MO_layJoys 3 (none)) (rmD 5)).room s m ([.ref (b + 191)] : List Value).toArray below meth c H locs 0 0 (MQ below (QV b C n res) ([.ref (b + 191)] : List Value).toArray s 0 0 (frb b)) (F0 m 18 ls []) := by
  intro fu
  induction fu with
  | zero => intro M v1_ hv1_ v2_ hv2_ H locs ls hS hl hT; exact absurd hT (by simp [t_MO_layJoys_L18])
  | succ fu ih =>
    intro M v1_ hv1_ v2_ hv2_ H locs ls hS hl hT
    rw [t_MO_layJoys_L18] at hT
    refine lv_iload_n F.hx F.hb d_MO_layJoys_18 rfl (lv_at hl 2 rfl) ?_
    refine lv_aload_n F.hx F.hb d_MO_layJoys_19 rfl (lv_at hl 0 rfl) ?_
    refine r_get (v := .ref (b + 193)) (N := 68) (T := T1) (j := 3) F hS (show 191 < 231 by decide) (show shK 191 = 5 from rfl) (show shN 191 = 68 from rfl) rfl (Nat.le_of_ble_eq_true rfl) ing1 mw_1392 (fv_sg rfl rfl rfl) d_MO_layJoys_20 ?_
    refine r_iconst F.hx F.hb d_MO_layJoys_23 ?_
    refine r_iald F hS (show 193 < 231 by decide) (show shK 193 = 0 from rfl) (show shN 193 = 18 from rfl) (inr_c rfl) (by omega) (by omega) d_MO_layJoys_24 ?_
    have i6 := hS.rng 193 2
    refine r_icmp_ge (tgt := 49) F.hx F.hb hv2_ i6 d_MO_layJoys_25 (by decide) (fun c7 => ?_) (fun c7 => ?_)
    · replace hT := (if_pos c7).symm.trans hT
      refine r_iconst F.hx F.hb d_MO_layJoys_49 ?_
      refine lv_istore_n (lv' := [(2, vI 0), (0, .ref (b + 191)), (1, vI v1_)]) F.hx F.hb d_MO_layJoys_50 rfl hl (Nat.le_of_ble_eq_true rfl) rfl (fun ls hl => ?_)
      exact k_MO_layJoys_L51 l hlo F hlk hr bk8 hbk8 FU M v1_ hv1_ 0 (inr_c rfl) _ _ _ hS (lv_sub hl [1, 2, 0] rfl) hT
    · replace hT := (if_neg c7).symm.trans hT
      refine lv_aload_n F.hx F.hb d_MO_layJoys_28 rfl (lv_at hl 0 rfl) ?_
      refine r_get (v := .ref (b + 212)) (N := 68) (T := T1) (j := 35) F hS (show 191 < 231 by decide) (show shK 191 = 5 from rfl) (show shN 191 = 68 from rfl) rfl (Nat.le_of_ble_eq_true rfl) ing1 mw_1424 (fv_sg rfl rfl rfl) d_MO_layJoys_29 ?_
      refine r_iconst F.hx F.hb d_MO_layJoys_32 ?_
      refine lv_iload_n F.hx F.hb d_MO_layJoys_33 rfl (lv_at hl 2 rfl) ?_
      refine r_iadd F.hx F.hb d_MO_layJoys_34 ?_
      refine lv_iload_n F.hx F.hb d_MO_layJoys_35 rfl (lv_at hl 1 rfl) ?_
      refine r_iconst F.hx F.hb d_MO_layJoys_36 ?_
      refine lv_iload_n F.hx F.hb d_MO_layJoys_37 rfl (lv_at hl 2 rfl) ?_
      refine r_imul F.hx F.hb d_MO_layJoys_38 ?_
      refine r_ishr F.hx F.hb d_MO_layJoys_39 ?_
      refine r_iconst F.hx F.hb d_MO_layJoys_40 ?_
      refine r_iand F.hx F.hb d_MO_layJoys_41 ?_
      obtain ⟨⟨g8a, g8b⟩, hT⟩ := q_guard hT
      refine r_iast F hS (show 212 < 231 by decide) (show shK 212 = 0 from rfl) (show shN 212 = 92 from rfl) (inr_w32 _) (q_inr_toInt _) g8a g8b d_MO_layJoys_42 (fun H locs hS => ?_)
      obtain ⟨M9, eM9⟩ : ∃ q, q = (setI M 212 (w32 (4 + v2_)) (q_and (q_shr v1_ (w32 (2 * v2_))) 3)) := ⟨_, rfl⟩
      replace hS : St b C n M9 s H locs := by rw [eM9]; exact hS
      replace hT := qlet_eq hT eM9
      refine lv_iinc (v := Int32.ofInt (w32 (v2_ + 1))) (lv' := [(2, vI (w32 (v2_ + 1))), (0, .ref (b + 191)), (1, vI v1_)]) F.hx F.hb d_MO_layJoys_43 hl (k := 2) rfl (q_of_add _ _) (Nat.le_of_ble_eq_true rfl) rfl (fun ls hl => ?_)
      refine lv_goto (tgt := 18) F.hx F.hb d_MO_layJoys_46 (by decide) ?_
      exact ih M9 v1_ hv1_ (w32 (v2_ + 1)) (inr_w32 _) _ _ _ hS (lv_sub hl [1, 2, 0] rfl) hT
set_option maxHeartbeats 4000000 in
set_option maxRecDepth 100000 in
theorem k_MO_layJoys_L8 (l : Launch) {p : Program} {e : Env} {s : State} {m : MethodId} {below : List Frame} {meth : Method} {c : Code} {b n : Nat} {C : CT} (hlo : 231 ≤ n)   (F : Cx b p m c b_MO_layJoys 3 s ([.ref (b + 191)] : List Value).toArray "WardFallsModel" C n 231) (hlk : meth.locks = false) (hr : meth.sig.returnType = none) {res : Mem} : ∀ (fu : Nat) (M : Mem) (v1_ : Int) (hv1_ : InR v1_) (H : Heap) (locs : List Loc) (ls : Array Slot), St b C n M s H locs → lv_has ls 3 [(0, .ref (b + 191)), (1, vI v1_)] → t_MO_layJoys_L8 fu M v1_ = some res → W p l e (headSpec (wsM y_MO_layJoys b_MO_layJoys 3 (none)) (rmD 5)).room s m ([.ref (b + 191)] : List Value).toArray below meth c H locs 0 0 (MQ below (QV b C n res) ([.ref (b + 191)] : List Value).toArray s 0 0 (frb b)) (F0 m 8 ls []) := by
  intro fu
  induction fu with
  | zero => intro M v1_ hv1_ H locs ls hS hl hT; exact absurd hT (by simp [t_MO_layJoys_L8])
  | succ fu ih =>
    intro M v1_ hv1_ H locs ls hS hl hT
    rw [t_MO_layJoys_L8] at hT
    refine lv_iload_n F.hx F.hb d_MO_layJoys_8 rfl (lv_at hl 1 rfl) ?_
    refine lv_aload_n F.hx F.hb d_MO_layJoys_9 rfl (lv_at hl 0 rfl) ?_
    obtain ⟨q3, hq3⟩ : ∃ q, q = (t_MO_votes M) := ⟨_, rfl⟩
    replace hT := qlet_eq hT hq3
    refine r_backI F hS (r_runV (k := 191) (N := 68) (T := T1) (As := []) F hS (show 191 < 231 by decide) (show shK 191 = 5 from rfl) rfl (c_MO_votes l F.2.2.1 M _ hq3.symm) gs_MO_483 hd_MO_votes ⟨Nat.le_of_ble_eq_true rfl, Nat.le_of_ble_eq_true rfl⟩ rfl hl.1 (Nat.le_of_ble_eq_true rfl) ⟨Nat.zero_le _, Nat.zero_le _⟩ rfl d_MO_layJoys_10) (fun H locs hS h4 => ?_)
    refine r_icmp_ge (tgt := 89) F.hx F.hb hv1_ h4 d_MO_layJoys_13 (by decide) (fun c5 => ?_) (fun c5 => ?_)
    · replace hT := (if_pos c5).symm.trans hT
      cases hT
      exact r_vret F hlk hr hS d_MO_layJoys_89
    · replace hT := (if_neg c5).symm.trans hT
      refine r_iconst F.hx F.hb d_MO_layJoys_16 ?_
      refine lv_istore_n (lv' := [(2, vI 0), (0, .ref (b + 191)), (1, vI v1_)]) F.hx F.hb d_MO_layJoys_17 rfl hl (Nat.le_of_ble_eq_true rfl) rfl (fun ls hl => ?_)
      exact k_MO_layJoys_L18 l hlo F hlk hr (fun a0_ a1_ => t_MO_layJoys_L8 fu a0_ a1_) ih FU M v1_ hv1_ 0 (inr_c rfl) _ _ _ hS (lv_sub hl [1, 2, 0] rfl) hT
set_option maxHeartbeats 4000000 in
set_option maxRecDepth 100000 in
theorem c_MO_layJoys (l : Launch) {b n : Nat} {C : CT} (hlo : 231 ≤ n) (M : Mem)   (res : Mem) (hT : t_MO_layJoys M  = some res) : CM l b C n 5 y_MO_layJoys b_MO_layJoys 3 (none) [.ref (b + 191)] M (QV b C n res) := by
  refine CM.of (lo := 231) (ow := "WardFallsModel") (by decide) rfl (Nat.le_of_ble_eq_true rfl) hlo (fun p e s m below meth c F hlk hr hS ls hl => ?_)
  have hl : lv_has ls 3 [(0, .ref (b + 191))] := hl
  unfold t_MO_layJoys at hT
  refine lv_aload_n F.hx F.hb d_MO_layJoys_0 rfl (lv_at hl 0 rfl) ?_
  refine r_iconst F.hx F.hb d_MO_layJoys_1 ?_
  refine r_iconst F.hx F.hb d_MO_layJoys_2 ?_
  obtain ⟨q1, hq1, hT⟩ := q_obind hT
  refine r_backV F hS (r_runV (k := 191) (N := 68) (T := T1) (As := [vI 1, vI 0]) F hS (show 191 < 231 by decide) (show shK 191 = 5 from rfl) rfl (c_MO_copies l F.2.2.1 M 1 0 (inr_c rfl) (inr_c rfl) _ hq1) gs_MO_437 hd_MO_copies ⟨Nat.le_of_ble_eq_true rfl, Nat.le_of_ble_eq_true rfl⟩ rfl hl.1 (Nat.le_of_ble_eq_true rfl) ⟨Nat.zero_le _, Nat.zero_le _⟩ rfl d_MO_layJoys_3) (fun H locs hS => ?_)
  refine r_iconst F.hx F.hb d_MO_layJoys_6 ?_
  refine lv_istore_n (lv' := [(1, vI 0), (0, .ref (b + 191))]) F.hx F.hb d_MO_layJoys_7 rfl hl (Nat.le_of_ble_eq_true rfl) rfl (fun ls hl => ?_)
  exact k_MO_layJoys_L8 l hlo F hlk hr FU q1 0 (inr_c rfl) _ _ _ hS (lv_sub hl [1, 0] rfl) hT
theorem d_MO_with_0 : decode b_MO_with 0 = .ok (.iload_n 0, 1) := dc_26 (by decide +kernel)
theorem d_MO_with_1 : decode b_MO_with 1 = .ok (.iconst 3, 1) := dc_6 (by decide +kernel)
theorem d_MO_with_2 : decode b_MO_with 2 = .ok (.iconst 2, 1) := dc_5 (by decide +kernel)
theorem d_MO_with_3 : decode b_MO_with 3 = .ok (.iload_n 1, 1) := dc_27 (by decide +kernel)
theorem d_MO_with_4 : decode b_MO_with 4 = .ok (.imul, 1) := dc_104 (by decide +kernel)
theorem d_MO_with_5 : decode b_MO_with 5 = .ok (.ishl, 1) := dc_120 (by decide +kernel)
theorem d_MO_with_6 : decode b_MO_with 6 = .ok (.iconst (-1), 1) := dc_2 (by decide +kernel)
theorem d_MO_with_7 : decode b_MO_with 7 = .ok (.ixor, 1) := dc_130 (by decide +kernel)
theorem d_MO_with_8 : decode b_MO_with 8 = .ok (.iand, 1) := dc_126 (by decide +kernel)
theorem d_MO_with_9 : decode b_MO_with 9 = .ok (.iload_n 2, 1) := dc_28 (by decide +kernel)
theorem d_MO_with_10 : decode b_MO_with 10 = .ok (.iconst 2, 1) := dc_5 (by decide +kernel)
theorem d_MO_with_11 : decode b_MO_with 11 = .ok (.iload_n 1, 1) := dc_27 (by decide +kernel)
theorem d_MO_with_12 : decode b_MO_with 12 = .ok (.imul, 1) := dc_104 (by decide +kernel)
theorem d_MO_with_13 : decode b_MO_with 13 = .ok (.ishl, 1) := dc_120 (by decide +kernel)
theorem d_MO_with_14 : decode b_MO_with 14 = .ok (.ior, 1) := dc_128 (by decide +kernel)
theorem d_MO_with_15 : decode b_MO_with 15 = .ok (.ireturn, 1) := dc_172 (by decide +kernel)
def t_MO_with (M : Mem) (x1 : Int) (x2 : Int) (x3 : Int) : Int := (q_or (q_and x1 (q_xor (q_shl 3 (w32 (2 * x2))) (-1))) (q_shl x3 (w32 (2 * x2))))
set_option maxHeartbeats 4000000 in
set_option maxRecDepth 100000 in
theorem c_MO_with (l : Launch) {b n : Nat} {C : CT} (hlo : 231 ≤ n) (M : Mem) (x1 : Int) (x2 : Int) (x3 : Int) (hx1 : InR x1) (hx2 : InR x2) (hx3 : InR x3) (res : Int) (hT : t_MO_with M x1 x2 x3 = res) : CM l b C n 0 y_MO_with b_MO_with 3 (some .int) [vI x1, vI x2, vI x3] M (QI b C n M res) := by
  refine CM.of (lo := 231) (ow := "WardFallsModel") (by decide) rfl (Nat.le_of_ble_eq_true rfl) hlo (fun p e s m below meth c F hlk hr hS ls hl => ?_)
  have hl : lv_has ls 3 [(0, vI x1), (1, vI x2), (2, vI x3)] := hl
  unfold t_MO_with at hT
  refine lv_iload_n F.hx F.hb d_MO_with_0 rfl (lv_at hl 0 rfl) ?_
  refine r_iconst F.hx F.hb d_MO_with_1 ?_
  refine r_iconst F.hx F.hb d_MO_with_2 ?_
  refine lv_iload_n F.hx F.hb d_MO_with_3 rfl (lv_at hl 1 rfl) ?_
  refine r_imul F.hx F.hb d_MO_with_4 ?_
  refine r_ishl F.hx F.hb d_MO_with_5 ?_
  refine r_iconst F.hx F.hb d_MO_with_6 ?_
  refine r_ixor F.hx F.hb d_MO_with_7 ?_
  refine r_iand F.hx F.hb d_MO_with_8 ?_
  refine lv_iload_n F.hx F.hb d_MO_with_9 rfl (lv_at hl 2 rfl) ?_
  refine r_iconst F.hx F.hb d_MO_with_10 ?_
  refine lv_iload_n F.hx F.hb d_MO_with_11 rfl (lv_at hl 1 rfl) ?_
  refine r_imul F.hx F.hb d_MO_with_12 ?_
  refine r_ishl F.hx F.hb d_MO_with_13 ?_
  refine r_ior F.hx F.hb d_MO_with_14 ?_
  subst hT
  exact r_iret F hlk hr rfl hS (q_inr_toInt _) d_MO_with_15
