theorem d_MO_undo_0 : decode b_MO_undo 0 = .ok (.aload_n 0, 1) := dc_42 (by decide +kernel)
theorem d_MO_undo_1 : decode b_MO_undo 1 = .ok (.iconst 0, 1) := dc_3 (by decide +kernel)
theorem d_MO_undo_2 : decode b_MO_undo 2 = .ok (.putfield 145, 3) := dc_181 (by decide +kernel)
theorem d_MO_undo_5 : decode b_MO_undo 5 = .ok (.aload_n 0, 1) := dc_42 (by decide +kernel)
theorem d_MO_undo_6 : decode b_MO_undo 6 = .ok (.getfield 326, 3) := dc_180 (by decide +kernel)
theorem d_MO_undo_9 : decode b_MO_undo 9 = .ok (.ifCond .ne 5, 3) := dc_154 (by decide +kernel)
theorem d_MO_undo_12 : decode b_MO_undo 12 = .ok (.iconst (-1), 1) := dc_2 (by decide +kernel)
theorem d_MO_undo_13 : decode b_MO_undo 13 = .ok (.ireturn, 1) := dc_172 (by decide +kernel)
theorem d_MO_undo_14 : decode b_MO_undo 14 = .ok (.aload_n 0, 1) := dc_42 (by decide +kernel)
theorem d_MO_undo_15 : decode b_MO_undo 15 = .ok (.dup, 1) := dc_89 (by decide +kernel)
theorem d_MO_undo_16 : decode b_MO_undo 16 = .ok (.getfield 326, 3) := dc_180 (by decide +kernel)
theorem d_MO_undo_19 : decode b_MO_undo 19 = .ok (.iconst 1, 1) := dc_4 (by decide +kernel)
theorem d_MO_undo_20 : decode b_MO_undo 20 = .ok (.isub, 1) := dc_100 (by decide +kernel)
theorem d_MO_undo_21 : decode b_MO_undo 21 = .ok (.putfield 326, 3) := dc_181 (by decide +kernel)
theorem d_MO_undo_24 : decode b_MO_undo 24 = .ok (.aload_n 0, 1) := dc_42 (by decide +kernel)
theorem d_MO_undo_25 : decode b_MO_undo 25 = .ok (.iconst 0, 1) := dc_3 (by decide +kernel)
theorem d_MO_undo_26 : decode b_MO_undo 26 = .ok (.iconst 3, 1) := dc_6 (by decide +kernel)
theorem d_MO_undo_27 : decode b_MO_undo 27 = .ok (.aload_n 0, 1) := dc_42 (by decide +kernel)
theorem d_MO_undo_28 : decode b_MO_undo 28 = .ok (.getfield 326, 3) := dc_180 (by decide +kernel)
theorem d_MO_undo_31 : decode b_MO_undo 31 = .ok (.iadd, 1) := dc_96 (by decide +kernel)
theorem d_MO_undo_32 : decode b_MO_undo 32 = .ok (.invokevirtual 437, 3) := dc_182 (by decide +kernel)
theorem d_MO_undo_35 : decode b_MO_undo 35 = .ok (.aload_n 0, 1) := dc_42 (by decide +kernel)
theorem d_MO_undo_36 : decode b_MO_undo 36 = .ok (.getfield 326, 3) := dc_180 (by decide +kernel)
theorem d_MO_undo_39 : decode b_MO_undo 39 = .ok (.ireturn, 1) := dc_172 (by decide +kernel)
def t_MO_undo (M : Mem)  : Option (Mem × Int) := (qlet (setI M 191 0 0) fun M1 => (if (M1.1 191 43) = 0 then (some (M1, (-1))) else (qlet (setI M1 191 43 (w32 ((M1.1 191 43) - 1))) fun M5 => (obind (t_MO_copies M5 0 (w32 (3 + (M5.1 191 43)))) fun q7 => (some (q7, (q7.1 191 43)))))))
set_option maxHeartbeats 4000000 in
set_option maxRecDepth 100000 in
theorem c_MO_undo (l : Launch) {b n : Nat} {C : CT} (hlo : 231 ≤ n) (M : Mem)   (res : Mem × Int) (hT : t_MO_undo M  = some res) : CM l b C n 1 y_MO_undo b_MO_undo 1 (some .int) [.ref (b + 191)] M (QI b C n res.1 res.2) := by
  refine CM.of (lo := 231) (ow := "WardFallsModel") (by decide) rfl (Nat.le_of_ble_eq_true rfl) hlo (fun p e s m below meth c F hlk hr hS ls hl => ?_)
  have hl : lv_has ls 1 [(0, .ref (b + 191))] := hl
  unfold t_MO_undo at hT
  refine lv_aload_n F.hx F.hb d_MO_undo_0 rfl (lv_at hl 0 rfl) ?_
  refine r_iconst F.hx F.hb d_MO_undo_1 ?_
  refine r_putI (N := 68) (T := T1) (j := 0) F hS (show 191 < 231 by decide) (show shK 191 = 5 from rfl) (show shN 191 = 68 from rfl) rfl (Nat.le_of_ble_eq_true rfl) ing1 tyok1 nm1 rfl rfl rfl rfl rfl rfl mw_1389 (inr_c rfl) d_MO_undo_2 (fun H locs hS => ?_)
  obtain ⟨M1, eM1⟩ : ∃ q, q = (setI M 191 0 0) := ⟨_, rfl⟩
  replace hS : St b C n M1 s H locs := by rw [eM1]; exact hS
  replace hT := qlet_eq hT eM1
  refine lv_aload_n F.hx F.hb d_MO_undo_5 rfl (lv_at hl 0 rfl) ?_
  refine r_get (v := vI (M1.1 191 43)) (N := 68) (T := T1) (j := 43) F hS (show 191 < 231 by decide) (show shK 191 = 5 from rfl) (show shN 191 = 68 from rfl) rfl (Nat.le_of_ble_eq_true rfl) ing1 mw_1432 (fv_int rfl) d_MO_undo_6 ?_
  have i2 := hS.rng 191 43
  refine r_if_ne (tgt := 14) F.hx F.hb i2 d_MO_undo_9 (by decide) (fun c3 => ?_) (fun c3 => ?_)
  · replace hT := (if_neg c3).symm.trans hT
    refine lv_aload_n F.hx F.hb d_MO_undo_14 rfl (lv_at hl 0 rfl) ?_
    refine lv_dup F.hx F.hb d_MO_undo_15 rfl ?_
    refine r_get (v := vI (M1.1 191 43)) (N := 68) (T := T1) (j := 43) F hS (show 191 < 231 by decide) (show shK 191 = 5 from rfl) (show shN 191 = 68 from rfl) rfl (Nat.le_of_ble_eq_true rfl) ing1 mw_1432 (fv_int rfl) d_MO_undo_16 ?_
    have i4 := hS.rng 191 43
    refine r_iconst F.hx F.hb d_MO_undo_19 ?_
    refine r_isub F.hx F.hb d_MO_undo_20 ?_
    refine r_putI (N := 68) (T := T1) (j := 43) F hS (show 191 < 231 by decide) (show shK 191 = 5 from rfl) (show shN 191 = 68 from rfl) rfl (Nat.le_of_ble_eq_true rfl) ing1 tyok1 nm1 rfl rfl rfl rfl rfl rfl mw_1432 (inr_w32 _) d_MO_undo_21 (fun H locs hS => ?_)
    obtain ⟨M5, eM5⟩ : ∃ q, q = (setI M1 191 43 (w32 ((M1.1 191 43) - 1))) := ⟨_, rfl⟩
    replace hS : St b C n M5 s H locs := by rw [eM5]; exact hS
    replace hT := qlet_eq hT eM5
    refine lv_aload_n F.hx F.hb d_MO_undo_24 rfl (lv_at hl 0 rfl) ?_
    refine r_iconst F.hx F.hb d_MO_undo_25 ?_
    refine r_iconst F.hx F.hb d_MO_undo_26 ?_
    refine lv_aload_n F.hx F.hb d_MO_undo_27 rfl (lv_at hl 0 rfl) ?_
    refine r_get (v := vI (M5.1 191 43)) (N := 68) (T := T1) (j := 43) F hS (show 191 < 231 by decide) (show shK 191 = 5 from rfl) (show shN 191 = 68 from rfl) rfl (Nat.le_of_ble_eq_true rfl) ing1 mw_1432 (fv_int rfl) d_MO_undo_28 ?_
    have i6 := hS.rng 191 43
    refine r_iadd F.hx F.hb d_MO_undo_31 ?_
    obtain ⟨q7, hq7, hT⟩ := q_obind hT
    refine r_backV F hS (r_runV (k := 191) (N := 68) (T := T1) (As := [vI 0, vI (w32 (3 + (M5.1 191 43)))]) F hS (show 191 < 231 by decide) (show shK 191 = 5 from rfl) rfl (c_MO_copies l F.2.2.1 M5 0 (w32 (3 + (M5.1 191 43))) (inr_c rfl) (inr_w32 _) _ hq7) gs_MO_437 hd_MO_copies ⟨Nat.le_of_ble_eq_true rfl, Nat.le_of_ble_eq_true rfl⟩ rfl hl.1 (Nat.le_of_ble_eq_true rfl) ⟨Nat.zero_le _, Nat.zero_le _⟩ rfl d_MO_undo_32) (fun H locs hS => ?_)
    refine lv_aload_n F.hx F.hb d_MO_undo_35 rfl (lv_at hl 0 rfl) ?_
    refine r_get (v := vI (q7.1 191 43)) (N := 68) (T := T1) (j := 43) F hS (show 191 < 231 by decide) (show shK 191 = 5 from rfl) (show shN 191 = 68 from rfl) rfl (Nat.le_of_ble_eq_true rfl) ing1 mw_1432 (fv_int rfl) d_MO_undo_36 ?_
    have i9 := hS.rng 191 43
    cases hT
    exact r_iret F hlk hr rfl hS i9 d_MO_undo_39
  · replace hT := (if_pos c3).symm.trans hT
    refine r_iconst F.hx F.hb d_MO_undo_12 ?_
    cases hT
    exact r_iret F hlk hr rfl hS (inr_c rfl) d_MO_undo_13
theorem d_MO_keep_0 : decode b_MO_keep 0 = .ok (.aload_n 0, 1) := dc_42 (by decide +kernel)
theorem d_MO_keep_1 : decode b_MO_keep 1 = .ok (.iconst 0, 1) := dc_3 (by decide +kernel)
theorem d_MO_keep_2 : decode b_MO_keep 2 = .ok (.putfield 145, 3) := dc_181 (by decide +kernel)
theorem d_MO_keep_5 : decode b_MO_keep 5 = .ok (.aload_n 0, 1) := dc_42 (by decide +kernel)
theorem d_MO_keep_6 : decode b_MO_keep 6 = .ok (.iconst 2, 1) := dc_5 (by decide +kernel)
theorem d_MO_keep_7 : decode b_MO_keep 7 = .ok (.iconst 0, 1) := dc_3 (by decide +kernel)
theorem d_MO_keep_8 : decode b_MO_keep 8 = .ok (.invokevirtual 437, 3) := dc_182 (by decide +kernel)
theorem d_MO_keep_11 : decode b_MO_keep 11 = .ok (.aload_n 0, 1) := dc_42 (by decide +kernel)
theorem d_MO_keep_12 : decode b_MO_keep 12 = .ok (.iconst 2, 1) := dc_5 (by decide +kernel)
theorem d_MO_keep_13 : decode b_MO_keep 13 = .ok (.iconst 0, 1) := dc_3 (by decide +kernel)
theorem d_MO_keep_14 : decode b_MO_keep 14 = .ok (.invokevirtual 520, 3) := dc_182 (by decide +kernel)
theorem d_MO_keep_17 : decode b_MO_keep 17 = .ok (.aload_n 0, 1) := dc_42 (by decide +kernel)
theorem d_MO_keep_18 : decode b_MO_keep 18 = .ok (.iconst 1, 1) := dc_4 (by decide +kernel)
theorem d_MO_keep_19 : decode b_MO_keep 19 = .ok (.putfield 322, 3) := dc_181 (by decide +kernel)
theorem d_MO_keep_22 : decode b_MO_keep 22 = .ok (.aload_n 0, 1) := dc_42 (by decide +kernel)
theorem d_MO_keep_23 : decode b_MO_keep 23 = .ok (.getfield 60, 3) := dc_180 (by decide +kernel)
theorem d_MO_keep_26 : decode b_MO_keep 26 = .ok (.iconst 0, 1) := dc_3 (by decide +kernel)
theorem d_MO_keep_27 : decode b_MO_keep 27 = .ok (.iaload, 1) := dc_46 (by decide +kernel)
theorem d_MO_keep_28 : decode b_MO_keep 28 = .ok (.ireturn, 1) := dc_172 (by decide +kernel)
def t_MO_keep (M : Mem)  : Option (Mem × Int) := (qlet (setI M 191 0 0) fun M1 => (obind (t_MO_copies M1 2 0) fun q2 => (obind (t_MO_copiesLog q2 2 0) fun q4 => (qlet (setI q4 191 42 1) fun M6 => (some (M6, (M6.1 207 0)))))))
set_option maxHeartbeats 4000000 in
set_option maxRecDepth 100000 in
theorem c_MO_keep (l : Launch) {b n : Nat} {C : CT} (hlo : 231 ≤ n) (M : Mem)   (res : Mem × Int) (hT : t_MO_keep M  = some res) : CM l b C n 1 y_MO_keep b_MO_keep 1 (some .int) [.ref (b + 191)] M (QI b C n res.1 res.2) := by
  refine CM.of (lo := 231) (ow := "WardFallsModel") (by decide) rfl (Nat.le_of_ble_eq_true rfl) hlo (fun p e s m below meth c F hlk hr hS ls hl => ?_)
  have hl : lv_has ls 1 [(0, .ref (b + 191))] := hl
  unfold t_MO_keep at hT
  refine lv_aload_n F.hx F.hb d_MO_keep_0 rfl (lv_at hl 0 rfl) ?_
  refine r_iconst F.hx F.hb d_MO_keep_1 ?_
  refine r_putI (N := 68) (T := T1) (j := 0) F hS (show 191 < 231 by decide) (show shK 191 = 5 from rfl) (show shN 191 = 68 from rfl) rfl (Nat.le_of_ble_eq_true rfl) ing1 tyok1 nm1 rfl rfl rfl rfl rfl rfl mw_1389 (inr_c rfl) d_MO_keep_2 (fun H locs hS => ?_)
  obtain ⟨M1, eM1⟩ : ∃ q, q = (setI M 191 0 0) := ⟨_, rfl⟩
  replace hS : St b C n M1 s H locs := by rw [eM1]; exact hS
  replace hT := qlet_eq hT eM1
  refine lv_aload_n F.hx F.hb d_MO_keep_5 rfl (lv_at hl 0 rfl) ?_
  refine r_iconst F.hx F.hb d_MO_keep_6 ?_
  refine r_iconst F.hx F.hb d_MO_keep_7 ?_
  obtain ⟨q2, hq2, hT⟩ := q_obind hT
  refine r_backV F hS (r_runV (k := 191) (N := 68) (T := T1) (As := [vI 2, vI 0]) F hS (show 191 < 231 by decide) (show shK 191 = 5 from rfl) rfl (c_MO_copies l F.2.2.1 M1 2 0 (inr_c rfl) (inr_c rfl) _ hq2) gs_MO_437 hd_MO_copies ⟨Nat.le_of_ble_eq_true rfl, Nat.le_of_ble_eq_true rfl⟩ rfl hl.1 (Nat.le_of_ble_eq_true rfl) ⟨Nat.zero_le _, Nat.zero_le _⟩ rfl d_MO_keep_8) (fun H locs hS => ?_)
  refine lv_aload_n F.hx F.hb d_MO_keep_11 rfl (lv_at hl 0 rfl) ?_
  refine r_iconst F.hx F.hb d_MO_keep_12 ?_
  refine r_iconst F.hx F.hb d_MO_keep_13 ?_
  obtain ⟨q4, hq4, hT⟩ := q_obind hT
  refine r_backV F hS (r_runV (k := 191) (N := 68) (T := T1) (As := [vI 2, vI 0]) F hS (show 191 < 231 by decide) (show shK 191 = 5 from rfl) rfl (c_MO_copiesLog l F.2.2.1 q2 2 0 (inr_c rfl) (inr_c rfl) _ hq4) gs_MO_520 hd_MO_copiesLog ⟨Nat.le_of_ble_eq_true rfl, Nat.le_of_ble_eq_true rfl⟩ rfl hl.1 (Nat.le_of_ble_eq_true rfl) ⟨Nat.zero_le _, Nat.zero_le _⟩ rfl d_MO_keep_14) (fun H locs hS => ?_)
  refine lv_aload_n F.hx F.hb d_MO_keep_17 rfl (lv_at hl 0 rfl) ?_
  refine r_iconst F.hx F.hb d_MO_keep_18 ?_
  refine r_putI (N := 68) (T := T1) (j := 42) F hS (show 191 < 231 by decide) (show shK 191 = 5 from rfl) (show shN 191 = 68 from rfl) rfl (Nat.le_of_ble_eq_true rfl) ing1 tyok1 nm1 rfl rfl (nar_z (Or.inr rfl)) (fit_z (Or.inr rfl)) rfl rfl mw_1431 (inr_c rfl) d_MO_keep_19 (fun H locs hS => ?_)
  obtain ⟨M6, eM6⟩ : ∃ q, q = (setI q4 191 42 1) := ⟨_, rfl⟩
  replace hS : St b C n M6 s H locs := by rw [eM6]; exact hS
  replace hT := qlet_eq hT eM6
  refine lv_aload_n F.hx F.hb d_MO_keep_22 rfl (lv_at hl 0 rfl) ?_
  refine r_get (v := .ref (b + 207)) (N := 68) (T := T1) (j := 30) F hS (show 191 < 231 by decide) (show shK 191 = 5 from rfl) (show shN 191 = 68 from rfl) rfl (Nat.le_of_ble_eq_true rfl) ing1 mw_1419 (fv_sg rfl rfl rfl) d_MO_keep_23 ?_
  refine r_iconst F.hx F.hb d_MO_keep_26 ?_
  refine r_iald F hS (show 207 < 231 by decide) (show shK 207 = 0 from rfl) (show shN 207 = 23 from rfl) (inr_c rfl) (by omega) (by omega) d_MO_keep_27 ?_
  have i7 := hS.rng 207 0
  cases hT
  exact r_iret F hlk hr rfl hS i7 d_MO_keep_28
theorem d_MO_back_0 : decode b_MO_back 0 = .ok (.aload_n 0, 1) := dc_42 (by decide +kernel)
theorem d_MO_back_1 : decode b_MO_back 1 = .ok (.iconst 0, 1) := dc_3 (by decide +kernel)
theorem d_MO_back_2 : decode b_MO_back 2 = .ok (.putfield 145, 3) := dc_181 (by decide +kernel)
theorem d_MO_back_5 : decode b_MO_back 5 = .ok (.aload_n 0, 1) := dc_42 (by decide +kernel)
theorem d_MO_back_6 : decode b_MO_back 6 = .ok (.getfield 322, 3) := dc_180 (by decide +kernel)
theorem d_MO_back_9 : decode b_MO_back 9 = .ok (.ifCond .ne 5, 3) := dc_154 (by decide +kernel)
theorem d_MO_back_12 : decode b_MO_back 12 = .ok (.iconst (-1), 1) := dc_2 (by decide +kernel)
theorem d_MO_back_13 : decode b_MO_back 13 = .ok (.ireturn, 1) := dc_172 (by decide +kernel)
theorem d_MO_back_14 : decode b_MO_back 14 = .ok (.aload_n 0, 1) := dc_42 (by decide +kernel)
theorem d_MO_back_15 : decode b_MO_back 15 = .ok (.iconst 0, 1) := dc_3 (by decide +kernel)
theorem d_MO_back_16 : decode b_MO_back 16 = .ok (.iconst 2, 1) := dc_5 (by decide +kernel)
theorem d_MO_back_17 : decode b_MO_back 17 = .ok (.invokevirtual 437, 3) := dc_182 (by decide +kernel)
theorem d_MO_back_20 : decode b_MO_back 20 = .ok (.aload_n 0, 1) := dc_42 (by decide +kernel)
theorem d_MO_back_21 : decode b_MO_back 21 = .ok (.iconst 0, 1) := dc_3 (by decide +kernel)
theorem d_MO_back_22 : decode b_MO_back 22 = .ok (.iconst 2, 1) := dc_5 (by decide +kernel)
theorem d_MO_back_23 : decode b_MO_back 23 = .ok (.invokevirtual 520, 3) := dc_182 (by decide +kernel)
theorem d_MO_back_26 : decode b_MO_back 26 = .ok (.aload_n 0, 1) := dc_42 (by decide +kernel)
theorem d_MO_back_27 : decode b_MO_back 27 = .ok (.iconst 0, 1) := dc_3 (by decide +kernel)
theorem d_MO_back_28 : decode b_MO_back 28 = .ok (.putfield 326, 3) := dc_181 (by decide +kernel)
theorem d_MO_back_31 : decode b_MO_back 31 = .ok (.aload_n 0, 1) := dc_42 (by decide +kernel)
theorem d_MO_back_32 : decode b_MO_back 32 = .ok (.getfield 60, 3) := dc_180 (by decide +kernel)
theorem d_MO_back_35 : decode b_MO_back 35 = .ok (.iconst 0, 1) := dc_3 (by decide +kernel)
theorem d_MO_back_36 : decode b_MO_back 36 = .ok (.iaload, 1) := dc_46 (by decide +kernel)
theorem d_MO_back_37 : decode b_MO_back 37 = .ok (.ireturn, 1) := dc_172 (by decide +kernel)
def t_MO_back (M : Mem)  : Option (Mem × Int) := (qlet (setI M 191 0 0) fun M1 => (if (M1.1 191 42) = 0 then (some (M1, (-1))) else (obind (t_MO_copies M1 0 2) fun q4 => (obind (t_MO_copiesLog q4 0 2) fun q6 => (qlet (setI q6 191 43 0) fun M8 => (some (M8, (M8.1 207 0))))))))
set_option maxHeartbeats 4000000 in
set_option maxRecDepth 100000 in
theorem c_MO_back (l : Launch) {b n : Nat} {C : CT} (hlo : 231 ≤ n) (M : Mem)   (res : Mem × Int) (hT : t_MO_back M  = some res) : CM l b C n 1 y_MO_back b_MO_back 1 (some .int) [.ref (b + 191)] M (QI b C n res.1 res.2) := by
  refine CM.of (lo := 231) (ow := "WardFallsModel") (by decide) rfl (Nat.le_of_ble_eq_true rfl) hlo (fun p e s m below meth c F hlk hr hS ls hl => ?_)
  have hl : lv_has ls 1 [(0, .ref (b + 191))] := hl
  unfold t_MO_back at hT
  refine lv_aload_n F.hx F.hb d_MO_back_0 rfl (lv_at hl 0 rfl) ?_
  refine r_iconst F.hx F.hb d_MO_back_1 ?_
  refine r_putI (N := 68) (T := T1) (j := 0) F hS (show 191 < 231 by decide) (show shK 191 = 5 from rfl) (show shN 191 = 68 from rfl) rfl (Nat.le_of_ble_eq_true rfl) ing1 tyok1 nm1 rfl rfl rfl rfl rfl rfl mw_1389 (inr_c rfl) d_MO_back_2 (fun H locs hS => ?_)
  obtain ⟨M1, eM1⟩ : ∃ q, q = (setI M 191 0 0) := ⟨_, rfl⟩
  replace hS : St b C n M1 s H locs := by rw [eM1]; exact hS
  replace hT := qlet_eq hT eM1
  refine lv_aload_n F.hx F.hb d_MO_back_5 rfl (lv_at hl 0 rfl) ?_
  refine r_get (v := vI (M1.1 191 42)) (N := 68) (T := T1) (j := 42) F hS (show 191 < 231 by decide) (show shK 191 = 5 from rfl) (show shN 191 = 68 from rfl) rfl (Nat.le_of_ble_eq_true rfl) ing1 mw_1431 (fv_int rfl) d_MO_back_6 ?_
  have i2 := hS.rng 191 42
  refine r_if_ne (tgt := 14) F.hx F.hb i2 d_MO_back_9 (by decide) (fun c3 => ?_) (fun c3 => ?_)
  · replace hT := (if_neg c3).symm.trans hT
    refine lv_aload_n F.hx F.hb d_MO_back_14 rfl (lv_at hl 0 rfl) ?_
    refine r_iconst F.hx F.hb d_MO_back_15 ?_
    refine r_iconst F.hx F.hb d_MO_back_16 ?_
    obtain ⟨q4, hq4, hT⟩ := q_obind hT
    refine r_backV F hS (r_runV (k := 191) (N := 68) (T := T1) (As := [vI 0, vI 2]) F hS (show 191 < 231 by decide) (show shK 191 = 5 from rfl) rfl (c_MO_copies l F.2.2.1 M1 0 2 (inr_c rfl) (inr_c rfl) _ hq4) gs_MO_437 hd_MO_copies ⟨Nat.le_of_ble_eq_true rfl, Nat.le_of_ble_eq_true rfl⟩ rfl hl.1 (Nat.le_of_ble_eq_true rfl) ⟨Nat.zero_le _, Nat.zero_le _⟩ rfl d_MO_back_17) (fun H locs hS => ?_)
    refine lv_aload_n F.hx F.hb d_MO_back_20 rfl (lv_at hl 0 rfl) ?_
    refine r_iconst F.hx F.hb d_MO_back_21 ?_
    refine r_iconst F.hx F.hb d_MO_back_22 ?_
    obtain ⟨q6, hq6, hT⟩ := q_obind hT
    refine r_backV F hS (r_runV (k := 191) (N := 68) (T := T1) (As := [vI 0, vI 2]) F hS (show 191 < 231 by decide) (show shK 191 = 5 from rfl) rfl (c_MO_copiesLog l F.2.2.1 q4 0 2 (inr_c rfl) (inr_c rfl) _ hq6) gs_MO_520 hd_MO_copiesLog ⟨Nat.le_of_ble_eq_true rfl, Nat.le_of_ble_eq_true rfl⟩ rfl hl.1 (Nat.le_of_ble_eq_true rfl) ⟨Nat.zero_le _, Nat.zero_le _⟩ rfl d_MO_back_23) (fun H locs hS => ?_)
    refine lv_aload_n F.hx F.hb d_MO_back_26 rfl (lv_at hl 0 rfl) ?_
    refine r_iconst F.hx F.hb d_MO_back_27 ?_
    refine r_putI (N := 68) (T := T1) (j := 43) F hS (show 191 < 231 by decide) (show shK 191 = 5 from rfl) (show shN 191 = 68 from rfl) rfl (Nat.le_of_ble_eq_true rfl) ing1 tyok1 nm1 rfl rfl rfl rfl rfl rfl mw_1432 (inr_c rfl) d_MO_back_28 (fun H locs hS => ?_)
    obtain ⟨M8, eM8⟩ : ∃ q, q = (setI q6 191 43 0) := ⟨_, rfl⟩
    replace hS : St b C n M8 s H locs := by rw [eM8]; exact hS
    replace hT := qlet_eq hT eM8
    refine lv_aload_n F.hx F.hb d_MO_back_31 rfl (lv_at hl 0 rfl) ?_
    refine r_get (v := .ref (b + 207)) (N := 68) (T := T1) (j := 30) F hS (show 191 < 231 by decide) (show shK 191 = 5 from rfl) (show shN 191 = 68 from rfl) rfl (Nat.le_of_ble_eq_true rfl) ing1 mw_1419 (fv_sg rfl rfl rfl) d_MO_back_32 ?_
    refine r_iconst F.hx F.hb d_MO_back_35 ?_
    refine r_iald F hS (show 207 < 231 by decide) (show shK 207 = 0 from rfl) (show shN 207 = 23 from rfl) (inr_c rfl) (by omega) (by omega) d_MO_back_36 ?_
    have i9 := hS.rng 207 0
    cases hT
    exact r_iret F hlk hr rfl hS i9 d_MO_back_37
  · replace hT := (if_pos c3).symm.trans hT
    refine r_iconst F.hx F.hb d_MO_back_12 ?_
    cases hT
    exact r_iret F hlk hr rfl hS (inr_c rfl) d_MO_back_13
theorem wn_MO_count_0 : ∀ i, i < 8 → bA b_MO_count (0 + i) = wB [42, 3, 181, 0, 145, 3, 61, 27] i := wB_of (by decide +kernel)
theorem d_MO_count_0 : decode b_MO_count 0 = .ok (.aload_n 0, 1) := dc_42 (q0_win (r := 0) wn_MO_count_0 (by decide +kernel))
theorem d_MO_count_1 : decode b_MO_count 1 = .ok (.iconst 0, 1) := dc_3 (q0_win (r := 1) wn_MO_count_0 (by decide +kernel))
theorem d_MO_count_2 : decode b_MO_count 2 = .ok (.putfield 145, 3) := dc_181 (qU2_win (r := 2) wn_MO_count_0 (by decide +kernel))
theorem d_MO_count_5 : decode b_MO_count 5 = .ok (.iconst 0, 1) := dc_3 (q0_win (r := 5) wn_MO_count_0 (by decide +kernel))
theorem d_MO_count_6 : decode b_MO_count 6 = .ok (.istore_n 2, 1) := dc_61 (q0_win (r := 6) wn_MO_count_0 (by decide +kernel))
theorem d_MO_count_7 : decode b_MO_count 7 = .ok (.iload_n 1, 1) := dc_27 (q0_win (r := 7) wn_MO_count_0 (by decide +kernel))
theorem d_MO_count_8 : decode b_MO_count 8 = .ok (.tableswitch 198 0 12 #[68, 75, 82, 89, 97, 105, 112, 119, 124, 129, 134, 144, 154], 68) := by decide +kernel
theorem wn_MO_count_76 : ∀ i, i < 96 → bA b_MO_count (76 + i) = wB [42, 180, 0, 13, 3, 46, 172, 42, 180, 0, 13, 4, 46, 172, 42, 180, 0, 13, 5, 46, 172, 42, 180, 0, 13, 16, 6, 46, 172, 42, 180, 0, 13, 16, 8, 46, 172, 42, 180, 0, 60, 3, 46, 172, 42, 180, 0, 63, 3, 46, 172, 42, 180, 1, 63, 172, 42, 182, 1, 245, 172, 42, 180, 1, 70, 172, 42, 180, 0, 73, 3, 47, 184, 1, 196, 172, 42, 180, 0, 69, 3, 47, 184, 1, 196, 172, 3, 62, 29, 42, 180, 0, 13, 16, 6, 46] i := wB_of (by decide +kernel)
theorem d_MO_count_76 : decode b_MO_count 76 = .ok (.aload_n 0, 1) := dc_42 (q0_win (r := 0) wn_MO_count_76 (by decide +kernel))
theorem d_MO_count_77 : decode b_MO_count 77 = .ok (.getfield 13, 3) := dc_180 (qU2_win (r := 1) wn_MO_count_76 (by decide +kernel))
theorem d_MO_count_80 : decode b_MO_count 80 = .ok (.iconst 0, 1) := dc_3 (q0_win (r := 4) wn_MO_count_76 (by decide +kernel))
theorem d_MO_count_81 : decode b_MO_count 81 = .ok (.iaload, 1) := dc_46 (q0_win (r := 5) wn_MO_count_76 (by decide +kernel))
theorem d_MO_count_82 : decode b_MO_count 82 = .ok (.ireturn, 1) := dc_172 (q0_win (r := 6) wn_MO_count_76 (by decide +kernel))
theorem d_MO_count_83 : decode b_MO_count 83 = .ok (.aload_n 0, 1) := dc_42 (q0_win (r := 7) wn_MO_count_76 (by decide +kernel))
theorem d_MO_count_84 : decode b_MO_count 84 = .ok (.getfield 13, 3) := dc_180 (qU2_win (r := 8) wn_MO_count_76 (by decide +kernel))
theorem d_MO_count_87 : decode b_MO_count 87 = .ok (.iconst 1, 1) := dc_4 (q0_win (r := 11) wn_MO_count_76 (by decide +kernel))
theorem d_MO_count_88 : decode b_MO_count 88 = .ok (.iaload, 1) := dc_46 (q0_win (r := 12) wn_MO_count_76 (by decide +kernel))
theorem d_MO_count_89 : decode b_MO_count 89 = .ok (.ireturn, 1) := dc_172 (q0_win (r := 13) wn_MO_count_76 (by decide +kernel))
theorem d_MO_count_90 : decode b_MO_count 90 = .ok (.aload_n 0, 1) := dc_42 (q0_win (r := 14) wn_MO_count_76 (by decide +kernel))
theorem d_MO_count_91 : decode b_MO_count 91 = .ok (.getfield 13, 3) := dc_180 (qU2_win (r := 15) wn_MO_count_76 (by decide +kernel))
theorem d_MO_count_94 : decode b_MO_count 94 = .ok (.iconst 2, 1) := dc_5 (q0_win (r := 18) wn_MO_count_76 (by decide +kernel))
theorem d_MO_count_95 : decode b_MO_count 95 = .ok (.iaload, 1) := dc_46 (q0_win (r := 19) wn_MO_count_76 (by decide +kernel))
theorem d_MO_count_96 : decode b_MO_count 96 = .ok (.ireturn, 1) := dc_172 (q0_win (r := 20) wn_MO_count_76 (by decide +kernel))
theorem d_MO_count_97 : decode b_MO_count 97 = .ok (.aload_n 0, 1) := dc_42 (q0_win (r := 21) wn_MO_count_76 (by decide +kernel))
theorem d_MO_count_98 : decode b_MO_count 98 = .ok (.getfield 13, 3) := dc_180 (qU2_win (r := 22) wn_MO_count_76 (by decide +kernel))
theorem d_MO_count_101 : decode b_MO_count 101 = .ok (.bipush 6, 2) := dc_16 (qS1_win (r := 25) wn_MO_count_76 (by decide +kernel))
theorem d_MO_count_103 : decode b_MO_count 103 = .ok (.iaload, 1) := dc_46 (q0_win (r := 27) wn_MO_count_76 (by decide +kernel))
theorem d_MO_count_104 : decode b_MO_count 104 = .ok (.ireturn, 1) := dc_172 (q0_win (r := 28) wn_MO_count_76 (by decide +kernel))
theorem d_MO_count_105 : decode b_MO_count 105 = .ok (.aload_n 0, 1) := dc_42 (q0_win (r := 29) wn_MO_count_76 (by decide +kernel))
theorem d_MO_count_106 : decode b_MO_count 106 = .ok (.getfield 13, 3) := dc_180 (qU2_win (r := 30) wn_MO_count_76 (by decide +kernel))
theorem d_MO_count_109 : decode b_MO_count 109 = .ok (.bipush 8, 2) := dc_16 (qS1_win (r := 33) wn_MO_count_76 (by decide +kernel))
theorem d_MO_count_111 : decode b_MO_count 111 = .ok (.iaload, 1) := dc_46 (q0_win (r := 35) wn_MO_count_76 (by decide +kernel))
theorem d_MO_count_112 : decode b_MO_count 112 = .ok (.ireturn, 1) := dc_172 (q0_win (r := 36) wn_MO_count_76 (by decide +kernel))
theorem d_MO_count_113 : decode b_MO_count 113 = .ok (.aload_n 0, 1) := dc_42 (q0_win (r := 37) wn_MO_count_76 (by decide +kernel))
theorem d_MO_count_114 : decode b_MO_count 114 = .ok (.getfield 60, 3) := dc_180 (qU2_win (r := 38) wn_MO_count_76 (by decide +kernel))
theorem d_MO_count_117 : decode b_MO_count 117 = .ok (.iconst 0, 1) := dc_3 (q0_win (r := 41) wn_MO_count_76 (by decide +kernel))
theorem d_MO_count_118 : decode b_MO_count 118 = .ok (.iaload, 1) := dc_46 (q0_win (r := 42) wn_MO_count_76 (by decide +kernel))
theorem d_MO_count_119 : decode b_MO_count 119 = .ok (.ireturn, 1) := dc_172 (q0_win (r := 43) wn_MO_count_76 (by decide +kernel))
theorem d_MO_count_120 : decode b_MO_count 120 = .ok (.aload_n 0, 1) := dc_42 (q0_win (r := 44) wn_MO_count_76 (by decide +kernel))
theorem d_MO_count_121 : decode b_MO_count 121 = .ok (.getfield 63, 3) := dc_180 (qU2_win (r := 45) wn_MO_count_76 (by decide +kernel))
theorem d_MO_count_124 : decode b_MO_count 124 = .ok (.iconst 0, 1) := dc_3 (q0_win (r := 48) wn_MO_count_76 (by decide +kernel))
theorem d_MO_count_125 : decode b_MO_count 125 = .ok (.iaload, 1) := dc_46 (q0_win (r := 49) wn_MO_count_76 (by decide +kernel))
theorem d_MO_count_126 : decode b_MO_count 126 = .ok (.ireturn, 1) := dc_172 (q0_win (r := 50) wn_MO_count_76 (by decide +kernel))
theorem d_MO_count_127 : decode b_MO_count 127 = .ok (.aload_n 0, 1) := dc_42 (q0_win (r := 51) wn_MO_count_76 (by decide +kernel))
theorem d_MO_count_128 : decode b_MO_count 128 = .ok (.getfield 319, 3) := dc_180 (qU2_win (r := 52) wn_MO_count_76 (by decide +kernel))
theorem d_MO_count_131 : decode b_MO_count 131 = .ok (.ireturn, 1) := dc_172 (q0_win (r := 55) wn_MO_count_76 (by decide +kernel))
theorem d_MO_count_132 : decode b_MO_count 132 = .ok (.aload_n 0, 1) := dc_42 (q0_win (r := 56) wn_MO_count_76 (by decide +kernel))
theorem d_MO_count_133 : decode b_MO_count 133 = .ok (.invokevirtual 501, 3) := dc_182 (qU2_win (r := 57) wn_MO_count_76 (by decide +kernel))
theorem d_MO_count_136 : decode b_MO_count 136 = .ok (.ireturn, 1) := dc_172 (q0_win (r := 60) wn_MO_count_76 (by decide +kernel))
theorem d_MO_count_137 : decode b_MO_count 137 = .ok (.aload_n 0, 1) := dc_42 (q0_win (r := 61) wn_MO_count_76 (by decide +kernel))
theorem d_MO_count_138 : decode b_MO_count 138 = .ok (.getfield 326, 3) := dc_180 (qU2_win (r := 62) wn_MO_count_76 (by decide +kernel))
theorem d_MO_count_141 : decode b_MO_count 141 = .ok (.ireturn, 1) := dc_172 (q0_win (r := 65) wn_MO_count_76 (by decide +kernel))
theorem d_MO_count_142 : decode b_MO_count 142 = .ok (.aload_n 0, 1) := dc_42 (q0_win (r := 66) wn_MO_count_76 (by decide +kernel))
theorem d_MO_count_143 : decode b_MO_count 143 = .ok (.getfield 73, 3) := dc_180 (qU2_win (r := 67) wn_MO_count_76 (by decide +kernel))
theorem d_MO_count_146 : decode b_MO_count 146 = .ok (.iconst 0, 1) := dc_3 (q0_win (r := 70) wn_MO_count_76 (by decide +kernel))
theorem d_MO_count_147 : decode b_MO_count 147 = .ok (.laload, 1) := dc_47 (q0_win (r := 71) wn_MO_count_76 (by decide +kernel))
theorem d_MO_count_148 : decode b_MO_count 148 = .ok (.invokestatic 452, 3) := dc_184 (qU2_win (r := 72) wn_MO_count_76 (by decide +kernel))
theorem d_MO_count_151 : decode b_MO_count 151 = .ok (.ireturn, 1) := dc_172 (q0_win (r := 75) wn_MO_count_76 (by decide +kernel))
theorem d_MO_count_152 : decode b_MO_count 152 = .ok (.aload_n 0, 1) := dc_42 (q0_win (r := 76) wn_MO_count_76 (by decide +kernel))
theorem d_MO_count_153 : decode b_MO_count 153 = .ok (.getfield 69, 3) := dc_180 (qU2_win (r := 77) wn_MO_count_76 (by decide +kernel))
theorem d_MO_count_156 : decode b_MO_count 156 = .ok (.iconst 0, 1) := dc_3 (q0_win (r := 80) wn_MO_count_76 (by decide +kernel))
theorem d_MO_count_157 : decode b_MO_count 157 = .ok (.laload, 1) := dc_47 (q0_win (r := 81) wn_MO_count_76 (by decide +kernel))
theorem d_MO_count_158 : decode b_MO_count 158 = .ok (.invokestatic 452, 3) := dc_184 (qU2_win (r := 82) wn_MO_count_76 (by decide +kernel))
theorem d_MO_count_161 : decode b_MO_count 161 = .ok (.ireturn, 1) := dc_172 (q0_win (r := 85) wn_MO_count_76 (by decide +kernel))
theorem d_MO_count_162 : decode b_MO_count 162 = .ok (.iconst 0, 1) := dc_3 (q0_win (r := 86) wn_MO_count_76 (by decide +kernel))
theorem d_MO_count_163 : decode b_MO_count 163 = .ok (.istore_n 3, 1) := dc_62 (q0_win (r := 87) wn_MO_count_76 (by decide +kernel))
theorem d_MO_count_164 : decode b_MO_count 164 = .ok (.iload_n 3, 1) := dc_29 (q0_win (r := 88) wn_MO_count_76 (by decide +kernel))
theorem d_MO_count_165 : decode b_MO_count 165 = .ok (.aload_n 0, 1) := dc_42 (q0_win (r := 89) wn_MO_count_76 (by decide +kernel))
theorem d_MO_count_166 : decode b_MO_count 166 = .ok (.getfield 13, 3) := dc_180 (qU2_win (r := 90) wn_MO_count_76 (by decide +kernel))
theorem d_MO_count_169 : decode b_MO_count 169 = .ok (.bipush 6, 2) := dc_16 (qS1_win (r := 93) wn_MO_count_76 (by decide +kernel))
theorem d_MO_count_171 : decode b_MO_count 171 = .ok (.iaload, 1) := dc_46 (q0_win (r := 95) wn_MO_count_76 (by decide +kernel))
theorem wn_MO_count_172 : ∀ i, i < 36 → bA b_MO_count (172 + i) = wB [162, 0, 32, 28, 42, 3, 42, 180, 0, 79, 29, 46, 182, 1, 94, 2, 160, 0, 7, 3, 167, 0, 4, 4, 96, 61, 132, 3, 1, 167, 255, 219, 28, 172, 2, 172] i := wB_of (by decide +kernel)
theorem d_MO_count_172 : decode b_MO_count 172 = .ok (.if_icmp .ge 32, 3) := dc_162 (qS2_win (r := 0) wn_MO_count_172 (by decide +kernel))
theorem d_MO_count_175 : decode b_MO_count 175 = .ok (.iload_n 2, 1) := dc_28 (q0_win (r := 3) wn_MO_count_172 (by decide +kernel))
theorem d_MO_count_176 : decode b_MO_count 176 = .ok (.aload_n 0, 1) := dc_42 (q0_win (r := 4) wn_MO_count_172 (by decide +kernel))
theorem d_MO_count_177 : decode b_MO_count 177 = .ok (.iconst 0, 1) := dc_3 (q0_win (r := 5) wn_MO_count_172 (by decide +kernel))
theorem d_MO_count_178 : decode b_MO_count 178 = .ok (.aload_n 0, 1) := dc_42 (q0_win (r := 6) wn_MO_count_172 (by decide +kernel))
theorem d_MO_count_179 : decode b_MO_count 179 = .ok (.getfield 79, 3) := dc_180 (qU2_win (r := 7) wn_MO_count_172 (by decide +kernel))
theorem d_MO_count_182 : decode b_MO_count 182 = .ok (.iload_n 3, 1) := dc_29 (q0_win (r := 10) wn_MO_count_172 (by decide +kernel))
theorem d_MO_count_183 : decode b_MO_count 183 = .ok (.iaload, 1) := dc_46 (q0_win (r := 11) wn_MO_count_172 (by decide +kernel))
theorem d_MO_count_184 : decode b_MO_count 184 = .ok (.invokevirtual 350, 3) := dc_182 (qU2_win (r := 12) wn_MO_count_172 (by decide +kernel))
theorem d_MO_count_187 : decode b_MO_count 187 = .ok (.iconst (-1), 1) := dc_2 (q0_win (r := 15) wn_MO_count_172 (by decide +kernel))
theorem d_MO_count_188 : decode b_MO_count 188 = .ok (.if_icmp .ne 7, 3) := dc_160 (qS2_win (r := 16) wn_MO_count_172 (by decide +kernel))
theorem d_MO_count_191 : decode b_MO_count 191 = .ok (.iconst 0, 1) := dc_3 (q0_win (r := 19) wn_MO_count_172 (by decide +kernel))
theorem d_MO_count_192 : decode b_MO_count 192 = .ok (.goto 4, 3) := dc_167 (qS2_win (r := 20) wn_MO_count_172 (by decide +kernel))
theorem d_MO_count_195 : decode b_MO_count 195 = .ok (.iconst 1, 1) := dc_4 (q0_win (r := 23) wn_MO_count_172 (by decide +kernel))
theorem d_MO_count_196 : decode b_MO_count 196 = .ok (.iadd, 1) := dc_96 (q0_win (r := 24) wn_MO_count_172 (by decide +kernel))
theorem d_MO_count_197 : decode b_MO_count 197 = .ok (.istore_n 2, 1) := dc_61 (q0_win (r := 25) wn_MO_count_172 (by decide +kernel))
theorem d_MO_count_198 : decode b_MO_count 198 = .ok (.iinc 3 1, 3) := dc_132 (qI_win (r := 26) wn_MO_count_172 (by decide +kernel))
theorem d_MO_count_201 : decode b_MO_count 201 = .ok (.goto (-37), 3) := dc_167 (qS2_win (r := 29) wn_MO_count_172 (by decide +kernel))
theorem d_MO_count_204 : decode b_MO_count 204 = .ok (.iload_n 2, 1) := dc_28 (q0_win (r := 32) wn_MO_count_172 (by decide +kernel))
theorem d_MO_count_205 : decode b_MO_count 205 = .ok (.ireturn, 1) := dc_172 (q0_win (r := 33) wn_MO_count_172 (by decide +kernel))
theorem d_MO_count_206 : decode b_MO_count 206 = .ok (.iconst (-1), 1) := dc_2 (q0_win (r := 34) wn_MO_count_172 (by decide +kernel))
theorem d_MO_count_207 : decode b_MO_count 207 = .ok (.ireturn, 1) := dc_172 (q0_win (r := 35) wn_MO_count_172 (by decide +kernel))
def t_MO_count_L196 (x1 : Int) (bk164 : Mem → Int → Int → Option (Mem × Int)) (M : Mem) (v1_ : Int) (v2_ : Int) (v3_ : Int) : Option (Mem × Int) := (bk164 M (w32 (v2_ + v3_)) (w32 (v1_ + 1)))
def t_MO_count_L164 (x1 : Int)  : Nat → Mem → Int → Int → Option (Mem × Int)
  | 0, _, _, _ => none
  | fu + 1, M, v1_, v2_ => (if (M.1 193 6) ≤ v2_ then (some (M, v1_)) else (qguard (0 ≤ v2_ ∧ v2_ < 184) (obind (t_MO_nextOf M 0 (M.1 213 v2_)) fun q34 => (if q34 = (-1) then (t_MO_count_L196 x1 (fun a0_ a1_ a2_ => t_MO_count_L164 x1 fu a0_ a1_ a2_) M v2_ v1_ 0) else (t_MO_count_L196 x1 (fun a0_ a1_ a2_ => t_MO_count_L164 x1 fu a0_ a1_ a2_) M v2_ v1_ 1)))))
def t_MO_count (M : Mem) (x1 : Int) : Option (Mem × Int) := (qlet (setI M 191 0 0) fun M1 => (if x1 = 0 then (some (M1, (M1.1 193 0))) else (if x1 = 1 then (some (M1, (M1.1 193 1))) else (if x1 = 2 then (some (M1, (M1.1 193 2))) else (if x1 = 3 then (some (M1, (M1.1 193 6))) else (if x1 = 4 then (some (M1, (M1.1 193 8))) else (if x1 = 5 then (some (M1, (M1.1 207 0))) else (if x1 = 6 then (some (M1, (M1.1 208 0))) else (if x1 = 7 then (some (M1, (M1.1 191 60))) else (if x1 = 8 then (qlet (t_MO_knownMany M1) fun q19 => (some (M1, q19))) else (if x1 = 9 then (some (M1, (M1.1 191 43))) else (if x1 = 10 then (obind (t_MO_bitsOf M1 (M1.2 211 0)) fun q24 => (some (M1, q24))) else (if x1 = 11 then (obind (t_MO_bitsOf M1 (M1.2 210 0)) fun q27 => (some (M1, q27))) else (if x1 = 12 then (t_MO_count_L164 x1 FU M1 0 0) else (some (M1, (-1)))))))))))))))))
set_option maxHeartbeats 4000000 in
set_option maxRecDepth 100000 in
theorem k_MO_count_L196 (l : Launch) {p : Program} {e : Env} {s : State} {m : MethodId} {below : List Frame} {meth : Method} {c : Code} {b n : Nat} {C : CT} (hlo : 231 ≤ n) (x1 : Int) (hx1 : InR x1) (F : Cx b p m c b_MO_count 4 s ([.ref (b + 191), vI x1] : List Value).toArray "WardFallsModel" C n 231) (hlk : meth.locks = false) (hr : meth.sig.returnType = some .int) {res : Mem × Int} (bk164 : Mem → Int → Int → Option (Mem × Int)) (hbk164 : ∀ (M : Mem) (v1_ : Int) (hv1_ : InR v1_) (v2_ : Int) (hv2_ : InR v2_) (H : Heap) (locs : List Loc) (ls : Array Slot), St b C n M s H locs → lv_has ls 4 [(0, .ref (b + 191)), (2, vI v1_), (3, vI v2_)] → bk164 M v1_ v2_ = some res → W p l e (headSpec (wsM y_MO_count b_MO_count 4 (some .int)) (rmD 2)).room s m ([.ref (b + 191), vI x1] : List Value).toArray below meth c H locs 0 0 (MQ below (QI b C n res.1 res.2) ([.ref (b + 191), vI x1] : List Value).toArray s 0 0 (frb b)) (F0 m 164 ls [])) (M : Mem) (v1_ : Int) (hv1_ : InR v1_) (v2_ : Int) (hv2_ : InR v2_) (v3_ : Int) (hv3_ : v3_ = 0 ∨ v3_ = 1) (H : Heap) (locs : List Loc) (ls : Array Slot) (hS : St b C n M s H locs) (hl : lv_has ls 4 [(0, .ref (b + 191)), (3, vI v1_)]) (hT : t_MO_count_L196 x1 bk164 M v1_ v2_ v3_ = some res) : W p l e (headSpec (wsM y_MO_count b_MO_count 4 (some .int)) (rmD 2)).room s m ([.ref (b + 191), vI x1] : List Value).toArray below meth c H locs 0 0 (MQ below (QI b C n res.1 res.2) ([.ref (b + 191), vI x1] : List Value).toArray s 0 0 (frb b)) (F0 m 196 ls [vI v3_, vI v2_]) := by
  unfold t_MO_count_L196 at hT
  refine r_iadd F.hx F.hb d_MO_count_196 ?_
  refine lv_istore_n (lv' := [(2, vI (w32 (v2_ + v3_))), (0, .ref (b + 191)), (3, vI v1_)]) F.hx F.hb d_MO_count_197 rfl hl (Nat.le_of_ble_eq_true rfl) rfl (fun ls hl => ?_)
  refine lv_iinc (v := Int32.ofInt (w32 (v1_ + 1))) (lv' := [(3, vI (w32 (v1_ + 1))), (2, vI (w32 (v2_ + v3_))), (0, .ref (b + 191))]) F.hx F.hb d_MO_count_198 hl (k := 2) rfl (q_of_add _ _) (Nat.le_of_ble_eq_true rfl) rfl (fun ls hl => ?_)
  refine lv_goto (tgt := 164) F.hx F.hb d_MO_count_201 (by decide) ?_
  exact hbk164 M (w32 (v2_ + v3_)) (inr_w32 _) (w32 (v1_ + 1)) (inr_w32 _) _ _ _ hS (lv_sub hl [2, 1, 0] rfl) hT
set_option maxHeartbeats 4000000 in
set_option maxRecDepth 100000 in
theorem k_MO_count_L164 (l : Launch) {p : Program} {e : Env} {s : State} {m : MethodId} {below : List Frame} {meth : Method} {c : Code} {b n : Nat} {C : CT} (hlo : 231 ≤ n) (x1 : Int) (hx1 : InR x1) (F : Cx b p m c b_MO_count 4 s ([.ref (b + 191), vI x1] : List Value).toArray "WardFallsModel" C n 231) (hlk : meth.locks = false) (hr : meth.sig.returnType = some .int) {res : Mem × Int} : ∀ (fu : Nat) (M : Mem) (v1_ : Int) (hv1_ : InR v1_) (v2_ : Int) (hv2_ : InR v2_) (H : Heap) (locs : List Loc) (ls : Array Slot), St b C n M s H locs → lv_has ls 4 [(0, .ref (b + 191)), (2, vI v1_), (3, vI v2_)] → t_MO_count_L164 x1 fu M v1_ v2_ = some res → W p l e (headSpec (wsM y_MO_count b_MO_count 4 (some .int)) (rmD 2)).room s m ([.ref (b + 191), vI x1] : List Value).toArray below meth c H locs 0 0 (MQ below (QI b C n res.1 res.2) ([.ref (b + 191), vI x1] : List Value).toArray s 0 0 (frb b)) (F0 m 164 ls []) := by
  intro fu
  induction fu with
  | zero => intro M v1_ hv1_ v2_ hv2_ H locs ls hS hl hT; exact absurd hT (by simp [t_MO_count_L164])
  | succ fu ih =>
    intro M v1_ hv1_ v2_ hv2_ H locs ls hS hl hT
    rw [t_MO_count_L164] at hT
    refine lv_iload_n F.hx F.hb d_MO_count_164 rfl (lv_at hl 2 rfl) ?_
    refine lv_aload_n F.hx F.hb d_MO_count_165 rfl (lv_at hl 0 rfl) ?_
    refine r_get (v := .ref (b + 193)) (N := 68) (T := T1) (j := 3) F hS (show 191 < 231 by decide) (show shK 191 = 5 from rfl) (show shN 191 = 68 from rfl) rfl (Nat.le_of_ble_eq_true rfl) ing1 mw_1392 (fv_sg rfl rfl rfl) d_MO_count_166 ?_
    refine r_bipush F.hx F.hb d_MO_count_169 rfl ?_
    refine r_iald F hS (show 193 < 231 by decide) (show shK 193 = 0 from rfl) (show shN 193 = 18 from rfl) (inr_c rfl) (by omega) (by omega) d_MO_count_171 ?_
    have i30 := hS.rng 193 6
    refine r_icmp_ge (tgt := 204) F.hx F.hb hv2_ i30 d_MO_count_172 (by decide) (fun c31 => ?_) (fun c31 => ?_)
    · replace hT := (if_pos c31).symm.trans hT
      refine lv_iload_n F.hx F.hb d_MO_count_204 rfl (lv_at hl 1 rfl) ?_
      cases hT
      exact r_iret F hlk hr rfl hS hv1_ d_MO_count_205
    · replace hT := (if_neg c31).symm.trans hT
      refine lv_iload_n F.hx F.hb d_MO_count_175 rfl (lv_at hl 1 rfl) ?_
      refine lv_aload_n F.hx F.hb d_MO_count_176 rfl (lv_at hl 0 rfl) ?_
      refine r_iconst F.hx F.hb d_MO_count_177 ?_
      refine lv_aload_n F.hx F.hb d_MO_count_178 rfl (lv_at hl 0 rfl) ?_
      refine r_get (v := .ref (b + 213)) (N := 68) (T := T1) (j := 36) F hS (show 191 < 231 by decide) (show shK 191 = 5 from rfl) (show shN 191 = 68 from rfl) rfl (Nat.le_of_ble_eq_true rfl) ing1 mw_1425 (fv_sg rfl rfl rfl) d_MO_count_179 ?_
      refine lv_iload_n F.hx F.hb d_MO_count_182 rfl (lv_at hl 2 rfl) ?_
      obtain ⟨⟨g32a, g32b⟩, hT⟩ := q_guard hT
      refine r_iald F hS (show 213 < 231 by decide) (show shK 213 = 0 from rfl) (show shN 213 = 184 from rfl) hv2_ g32a g32b d_MO_count_183 ?_
      have i33 := hS.rng 213 v2_
      obtain ⟨q34, hq34, hT⟩ := q_obind hT
      refine r_backI F hS (r_runV (k := 191) (N := 68) (T := T1) (As := [vI 0, vI (M.1 213 v2_)]) F hS (show 191 < 231 by decide) (show shK 191 = 5 from rfl) rfl (c_MO_nextOf l F.2.2.1 M 0 (M.1 213 v2_) (inr_c rfl) i33 _ hq34) gs_MO_350 hd_MO_nextOf ⟨Nat.le_of_ble_eq_true rfl, Nat.le_of_ble_eq_true rfl⟩ rfl hl.1 (Nat.le_of_ble_eq_true rfl) ⟨Nat.zero_le _, Nat.zero_le _⟩ rfl d_MO_count_184) (fun H locs hS h35 => ?_)
      refine r_iconst F.hx F.hb d_MO_count_187 ?_
      refine r_icmp_ne (tgt := 195) F.hx F.hb h35 (inr_c rfl) d_MO_count_188 (by decide) (fun c36 => ?_) (fun c36 => ?_)
      · replace hT := (if_neg c36).symm.trans hT
        refine r_iconst F.hx F.hb d_MO_count_195 ?_
        exact k_MO_count_L196 l hlo x1 hx1 F hlk hr (fun a0_ a1_ a2_ => t_MO_count_L164 x1 fu a0_ a1_ a2_) ih M v2_ hv2_ v1_ hv1_ 1 (Or.inr rfl) _ _ _ hS (lv_sub hl [0, 2] rfl) hT
      · replace hT := (if_pos c36).symm.trans hT
        refine r_iconst F.hx F.hb d_MO_count_191 ?_
        refine lv_goto (tgt := 196) F.hx F.hb d_MO_count_192 (by decide) ?_
        exact k_MO_count_L196 l hlo x1 hx1 F hlk hr (fun a0_ a1_ a2_ => t_MO_count_L164 x1 fu a0_ a1_ a2_) ih M v2_ hv2_ v1_ hv1_ 0 (Or.inl rfl) _ _ _ hS (lv_sub hl [0, 2] rfl) hT
set_option maxHeartbeats 4000000 in
set_option maxRecDepth 100000 in
theorem c_MO_count (l : Launch) {b n : Nat} {C : CT} (hlo : 231 ≤ n) (M : Mem) (x1 : Int) (hx1 : InR x1) (res : Mem × Int) (hT : t_MO_count M x1 = some res) : CM l b C n 2 y_MO_count b_MO_count 4 (some .int) [.ref (b + 191), vI x1] M (QI b C n res.1 res.2) := by
  refine CM.of (lo := 231) (ow := "WardFallsModel") (by decide) rfl (Nat.le_of_ble_eq_true rfl) hlo (fun p e s m below meth c F hlk hr hS ls hl => ?_)
  have hl : lv_has ls 4 [(0, .ref (b + 191)), (1, vI x1)] := hl
  unfold t_MO_count at hT
  refine lv_aload_n F.hx F.hb d_MO_count_0 rfl (lv_at hl 0 rfl) ?_
  refine r_iconst F.hx F.hb d_MO_count_1 ?_
  refine r_putI (N := 68) (T := T1) (j := 0) F hS (show 191 < 231 by decide) (show shK 191 = 5 from rfl) (show shN 191 = 68 from rfl) rfl (Nat.le_of_ble_eq_true rfl) ing1 tyok1 nm1 rfl rfl rfl rfl rfl rfl mw_1389 (inr_c rfl) d_MO_count_2 (fun H locs hS => ?_)
  obtain ⟨M1, eM1⟩ : ∃ q, q = (setI M 191 0 0) := ⟨_, rfl⟩
  replace hS : St b C n M1 s H locs := by rw [eM1]; exact hS
  replace hT := qlet_eq hT eM1
  refine r_iconst F.hx F.hb d_MO_count_5 ?_
  refine lv_istore_n (lv' := [(2, vI 0), (0, .ref (b + 191)), (1, vI x1)]) F.hx F.hb d_MO_count_6 rfl hl (Nat.le_of_ble_eq_true rfl) rfl (fun ls hl => ?_)
  refine lv_iload_n F.hx F.hb d_MO_count_7 rfl (lv_at hl 2 rfl) ?_
  rcases q_ite hT with ⟨c2, hT⟩ | ⟨c2, hT⟩
  · refine r_tableIn (i := 0) (tgt := 76) F.hx F.hb hx1 c2 d_MO_count_8 (by decide) (by decide) rfl (by decide) ?_
    refine lv_aload_n F.hx F.hb d_MO_count_76 rfl (lv_at hl 1 rfl) ?_
    refine r_get (v := .ref (b + 193)) (N := 68) (T := T1) (j := 3) F hS (show 191 < 231 by decide) (show shK 191 = 5 from rfl) (show shN 191 = 68 from rfl) rfl (Nat.le_of_ble_eq_true rfl) ing1 mw_1392 (fv_sg rfl rfl rfl) d_MO_count_77 ?_
    refine r_iconst F.hx F.hb d_MO_count_80 ?_
    refine r_iald F hS (show 193 < 231 by decide) (show shK 193 = 0 from rfl) (show shN 193 = 18 from rfl) (inr_c rfl) (by omega) (by omega) d_MO_count_81 ?_
    have i3 := hS.rng 193 0
    cases hT
    exact r_iret F hlk hr rfl hS i3 d_MO_count_82
  ·
    rcases q_ite hT with ⟨c4, hT⟩ | ⟨c4, hT⟩
    · refine r_tableIn (i := 1) (tgt := 83) F.hx F.hb hx1 c4 d_MO_count_8 (by decide) (by decide) rfl (by decide) ?_
      refine lv_aload_n F.hx F.hb d_MO_count_83 rfl (lv_at hl 1 rfl) ?_
      refine r_get (v := .ref (b + 193)) (N := 68) (T := T1) (j := 3) F hS (show 191 < 231 by decide) (show shK 191 = 5 from rfl) (show shN 191 = 68 from rfl) rfl (Nat.le_of_ble_eq_true rfl) ing1 mw_1392 (fv_sg rfl rfl rfl) d_MO_count_84 ?_
      refine r_iconst F.hx F.hb d_MO_count_87 ?_
      refine r_iald F hS (show 193 < 231 by decide) (show shK 193 = 0 from rfl) (show shN 193 = 18 from rfl) (inr_c rfl) (by omega) (by omega) d_MO_count_88 ?_
      have i5 := hS.rng 193 1
      cases hT
      exact r_iret F hlk hr rfl hS i5 d_MO_count_89
    ·
      rcases q_ite hT with ⟨c6, hT⟩ | ⟨c6, hT⟩
      · refine r_tableIn (i := 2) (tgt := 90) F.hx F.hb hx1 c6 d_MO_count_8 (by decide) (by decide) rfl (by decide) ?_
        refine lv_aload_n F.hx F.hb d_MO_count_90 rfl (lv_at hl 1 rfl) ?_
        refine r_get (v := .ref (b + 193)) (N := 68) (T := T1) (j := 3) F hS (show 191 < 231 by decide) (show shK 191 = 5 from rfl) (show shN 191 = 68 from rfl) rfl (Nat.le_of_ble_eq_true rfl) ing1 mw_1392 (fv_sg rfl rfl rfl) d_MO_count_91 ?_
        refine r_iconst F.hx F.hb d_MO_count_94 ?_
        refine r_iald F hS (show 193 < 231 by decide) (show shK 193 = 0 from rfl) (show shN 193 = 18 from rfl) (inr_c rfl) (by omega) (by omega) d_MO_count_95 ?_
        have i7 := hS.rng 193 2
        cases hT
        exact r_iret F hlk hr rfl hS i7 d_MO_count_96
      ·
        rcases q_ite hT with ⟨c8, hT⟩ | ⟨c8, hT⟩
        · refine r_tableIn (i := 3) (tgt := 97) F.hx F.hb hx1 c8 d_MO_count_8 (by decide) (by decide) rfl (by decide) ?_
          refine lv_aload_n F.hx F.hb d_MO_count_97 rfl (lv_at hl 1 rfl) ?_
          refine r_get (v := .ref (b + 193)) (N := 68) (T := T1) (j := 3) F hS (show 191 < 231 by decide) (show shK 191 = 5 from rfl) (show shN 191 = 68 from rfl) rfl (Nat.le_of_ble_eq_true rfl) ing1 mw_1392 (fv_sg rfl rfl rfl) d_MO_count_98 ?_
          refine r_bipush F.hx F.hb d_MO_count_101 rfl ?_
          refine r_iald F hS (show 193 < 231 by decide) (show shK 193 = 0 from rfl) (show shN 193 = 18 from rfl) (inr_c rfl) (by omega) (by omega) d_MO_count_103 ?_
          have i9 := hS.rng 193 6
          cases hT
          exact r_iret F hlk hr rfl hS i9 d_MO_count_104
        ·
          rcases q_ite hT with ⟨c10, hT⟩ | ⟨c10, hT⟩
          · refine r_tableIn (i := 4) (tgt := 105) F.hx F.hb hx1 c10 d_MO_count_8 (by decide) (by decide) rfl (by decide) ?_
            refine lv_aload_n F.hx F.hb d_MO_count_105 rfl (lv_at hl 1 rfl) ?_
            refine r_get (v := .ref (b + 193)) (N := 68) (T := T1) (j := 3) F hS (show 191 < 231 by decide) (show shK 191 = 5 from rfl) (show shN 191 = 68 from rfl) rfl (Nat.le_of_ble_eq_true rfl) ing1 mw_1392 (fv_sg rfl rfl rfl) d_MO_count_106 ?_
            refine r_bipush F.hx F.hb d_MO_count_109 rfl ?_
            refine r_iald F hS (show 193 < 231 by decide) (show shK 193 = 0 from rfl) (show shN 193 = 18 from rfl) (inr_c rfl) (by omega) (by omega) d_MO_count_111 ?_
            have i11 := hS.rng 193 8
            cases hT
            exact r_iret F hlk hr rfl hS i11 d_MO_count_112
          ·
            rcases q_ite hT with ⟨c12, hT⟩ | ⟨c12, hT⟩
            · refine r_tableIn (i := 5) (tgt := 113) F.hx F.hb hx1 c12 d_MO_count_8 (by decide) (by decide) rfl (by decide) ?_
              refine lv_aload_n F.hx F.hb d_MO_count_113 rfl (lv_at hl 1 rfl) ?_
              refine r_get (v := .ref (b + 207)) (N := 68) (T := T1) (j := 30) F hS (show 191 < 231 by decide) (show shK 191 = 5 from rfl) (show shN 191 = 68 from rfl) rfl (Nat.le_of_ble_eq_true rfl) ing1 mw_1419 (fv_sg rfl rfl rfl) d_MO_count_114 ?_
              refine r_iconst F.hx F.hb d_MO_count_117 ?_
              refine r_iald F hS (show 207 < 231 by decide) (show shK 207 = 0 from rfl) (show shN 207 = 23 from rfl) (inr_c rfl) (by omega) (by omega) d_MO_count_118 ?_
              have i13 := hS.rng 207 0
              cases hT
              exact r_iret F hlk hr rfl hS i13 d_MO_count_119
            ·
              rcases q_ite hT with ⟨c14, hT⟩ | ⟨c14, hT⟩
              · refine r_tableIn (i := 6) (tgt := 120) F.hx F.hb hx1 c14 d_MO_count_8 (by decide) (by decide) rfl (by decide) ?_
                refine lv_aload_n F.hx F.hb d_MO_count_120 rfl (lv_at hl 1 rfl) ?_
                refine r_get (v := .ref (b + 208)) (N := 68) (T := T1) (j := 31) F hS (show 191 < 231 by decide) (show shK 191 = 5 from rfl) (show shN 191 = 68 from rfl) rfl (Nat.le_of_ble_eq_true rfl) ing1 mw_1420 (fv_sg rfl rfl rfl) d_MO_count_121 ?_
                refine r_iconst F.hx F.hb d_MO_count_124 ?_
                refine r_iald F hS (show 208 < 231 by decide) (show shK 208 = 0 from rfl) (show shN 208 = 23 from rfl) (inr_c rfl) (by omega) (by omega) d_MO_count_125 ?_
                have i15 := hS.rng 208 0
                cases hT
                exact r_iret F hlk hr rfl hS i15 d_MO_count_126
              ·
                rcases q_ite hT with ⟨c16, hT⟩ | ⟨c16, hT⟩
                · refine r_tableIn (i := 7) (tgt := 127) F.hx F.hb hx1 c16 d_MO_count_8 (by decide) (by decide) rfl (by decide) ?_
                  refine lv_aload_n F.hx F.hb d_MO_count_127 rfl (lv_at hl 1 rfl) ?_
                  refine r_get (v := vI (M1.1 191 60)) (N := 68) (T := T1) (j := 60) F hS (show 191 < 231 by decide) (show shK 191 = 5 from rfl) (show shN 191 = 68 from rfl) rfl (Nat.le_of_ble_eq_true rfl) ing1 mw_1449 (fv_int rfl) d_MO_count_128 ?_
                  have i17 := hS.rng 191 60
                  cases hT
                  exact r_iret F hlk hr rfl hS i17 d_MO_count_131
                ·
                  rcases q_ite hT with ⟨c18, hT⟩ | ⟨c18, hT⟩
                  · refine r_tableIn (i := 8) (tgt := 132) F.hx F.hb hx1 c18 d_MO_count_8 (by decide) (by decide) rfl (by decide) ?_
                    refine lv_aload_n F.hx F.hb d_MO_count_132 rfl (lv_at hl 1 rfl) ?_
                    obtain ⟨q19, hq19⟩ : ∃ q, q = (t_MO_knownMany M1) := ⟨_, rfl⟩
                    replace hT := qlet_eq hT hq19
                    refine r_backI F hS (r_runV (k := 191) (N := 68) (T := T1) (As := []) F hS (show 191 < 231 by decide) (show shK 191 = 5 from rfl) rfl (c_MO_knownMany l F.2.2.1 M1 _ hq19.symm) gs_MO_501 hd_MO_knownMany ⟨Nat.le_of_ble_eq_true rfl, Nat.le_of_ble_eq_true rfl⟩ rfl hl.1 (Nat.le_of_ble_eq_true rfl) ⟨Nat.zero_le _, Nat.zero_le _⟩ rfl d_MO_count_133) (fun H locs hS h20 => ?_)
                    cases hT
                    exact r_iret F hlk hr rfl hS h20 d_MO_count_136
                  ·
                    rcases q_ite hT with ⟨c21, hT⟩ | ⟨c21, hT⟩
                    · refine r_tableIn (i := 9) (tgt := 137) F.hx F.hb hx1 c21 d_MO_count_8 (by decide) (by decide) rfl (by decide) ?_
                      refine lv_aload_n F.hx F.hb d_MO_count_137 rfl (lv_at hl 1 rfl) ?_
                      refine r_get (v := vI (M1.1 191 43)) (N := 68) (T := T1) (j := 43) F hS (show 191 < 231 by decide) (show shK 191 = 5 from rfl) (show shN 191 = 68 from rfl) rfl (Nat.le_of_ble_eq_true rfl) ing1 mw_1432 (fv_int rfl) d_MO_count_138 ?_
                      have i22 := hS.rng 191 43
                      cases hT
                      exact r_iret F hlk hr rfl hS i22 d_MO_count_141
                    ·
                      rcases q_ite hT with ⟨c23, hT⟩ | ⟨c23, hT⟩
                      · refine r_tableIn (i := 10) (tgt := 142) F.hx F.hb hx1 c23 d_MO_count_8 (by decide) (by decide) rfl (by decide) ?_
                        refine lv_aload_n F.hx F.hb d_MO_count_142 rfl (lv_at hl 1 rfl) ?_
                        refine r_get (v := .ref (b + 211)) (N := 68) (T := T1) (j := 34) F hS (show 191 < 231 by decide) (show shK 191 = 5 from rfl) (show shN 191 = 68 from rfl) rfl (Nat.le_of_ble_eq_true rfl) ing1 mw_1423 (fv_sg rfl rfl rfl) d_MO_count_143 ?_
                        refine r_iconst F.hx F.hb d_MO_count_146 ?_
                        refine r_lald F hS (show 211 < 231 by decide) (show shK 211 = 2 from rfl) (show shN 211 = 23 from rfl) (inr_c rfl) (by omega) (by omega) d_MO_count_147 ?_
                        obtain ⟨q24, hq24, hT⟩ := q_obind hT
                        refine r_backI F hS (r_runS (As := [.long (M1.2 211 0)]) F hS (c_MO_bitsOf l F.2.2.1 M1 (M1.2 211 0) _ hq24) gs_MO_452 hd_MO_bitsOf ⟨Nat.le_of_ble_eq_true rfl, Nat.le_of_ble_eq_true rfl⟩ rfl hl.1 (Nat.le_of_ble_eq_true rfl) ⟨Nat.zero_le _, Nat.zero_le _⟩ rfl d_MO_count_148) (fun H locs hS h25 => ?_)
                        cases hT
                        exact r_iret F hlk hr rfl hS h25 d_MO_count_151
                      ·
                        rcases q_ite hT with ⟨c26, hT⟩ | ⟨c26, hT⟩
                        · refine r_tableIn (i := 11) (tgt := 152) F.hx F.hb hx1 c26 d_MO_count_8 (by decide) (by decide) rfl (by decide) ?_
                          refine lv_aload_n F.hx F.hb d_MO_count_152 rfl (lv_at hl 1 rfl) ?_
                          refine r_get (v := .ref (b + 210)) (N := 68) (T := T1) (j := 33) F hS (show 191 < 231 by decide) (show shK 191 = 5 from rfl) (show shN 191 = 68 from rfl) rfl (Nat.le_of_ble_eq_true rfl) ing1 mw_1422 (fv_sg rfl rfl rfl) d_MO_count_153 ?_
                          refine r_iconst F.hx F.hb d_MO_count_156 ?_
                          refine r_lald F hS (show 210 < 231 by decide) (show shK 210 = 2 from rfl) (show shN 210 = 23 from rfl) (inr_c rfl) (by omega) (by omega) d_MO_count_157 ?_
                          obtain ⟨q27, hq27, hT⟩ := q_obind hT
                          refine r_backI F hS (r_runS (As := [.long (M1.2 210 0)]) F hS (c_MO_bitsOf l F.2.2.1 M1 (M1.2 210 0) _ hq27) gs_MO_452 hd_MO_bitsOf ⟨Nat.le_of_ble_eq_true rfl, Nat.le_of_ble_eq_true rfl⟩ rfl hl.1 (Nat.le_of_ble_eq_true rfl) ⟨Nat.zero_le _, Nat.zero_le _⟩ rfl d_MO_count_158) (fun H locs hS h28 => ?_)
                          cases hT
                          exact r_iret F hlk hr rfl hS h28 d_MO_count_161
                        ·
                          rcases q_ite hT with ⟨c29, hT⟩ | ⟨c29, hT⟩
                          · refine r_tableIn (i := 12) (tgt := 162) F.hx F.hb hx1 c29 d_MO_count_8 (by decide) (by decide) rfl (by decide) ?_
                            refine r_iconst F.hx F.hb d_MO_count_162 ?_
                            refine lv_istore_n (lv' := [(3, vI 0), (2, vI 0), (0, .ref (b + 191)), (1, vI x1)]) F.hx F.hb d_MO_count_163 rfl hl (Nat.le_of_ble_eq_true rfl) rfl (fun ls hl => ?_)
                            exact k_MO_count_L164 l hlo x1 hx1 F hlk hr FU M1 0 (inr_c rfl) 0 (inr_c rfl) _ _ _ hS (lv_sub hl [2, 1, 0] rfl) hT
                          ·
                            refine r_tableOut (tgt := 206) F.hx F.hb hx1 (by omega) d_MO_count_8 (by decide) ?_
                            refine r_iconst F.hx F.hb d_MO_count_206 ?_
                            cases hT
                            exact r_iret F hlk hr rfl hS (inr_c rfl) d_MO_count_207
