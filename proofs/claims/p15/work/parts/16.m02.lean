theorem d_Reader_begin_0 : decode b_Reader_begin 0 = .ok (.aload_n 0, 1) := dc_42 (by decide +kernel)
theorem d_Reader_begin_1 : decode b_Reader_begin 1 = .ok (.aload_n 1, 1) := dc_43 (by decide +kernel)
theorem d_Reader_begin_2 : decode b_Reader_begin 2 = .ok (.putfield 60, 3) := dc_181 (by decide +kernel)
theorem d_Reader_begin_5 : decode b_Reader_begin 5 = .ok (.aload_n 0, 1) := dc_42 (by decide +kernel)
theorem d_Reader_begin_6 : decode b_Reader_begin 6 = .ok (.iconst 0, 1) := dc_3 (by decide +kernel)
theorem d_Reader_begin_7 : decode b_Reader_begin 7 = .ok (.putfield 64, 3) := dc_181 (by decide +kernel)
theorem d_Reader_begin_10 : decode b_Reader_begin 10 = .ok (.aload_n 0, 1) := dc_42 (by decide +kernel)
theorem d_Reader_begin_11 : decode b_Reader_begin 11 = .ok (.iconst 0, 1) := dc_3 (by decide +kernel)
theorem d_Reader_begin_12 : decode b_Reader_begin 12 = .ok (.putfield 67, 3) := dc_181 (by decide +kernel)
theorem d_Reader_begin_15 : decode b_Reader_begin 15 = .ok (.aload_n 0, 1) := dc_42 (by decide +kernel)
theorem d_Reader_begin_16 : decode b_Reader_begin 16 = .ok (.iconst 0, 1) := dc_3 (by decide +kernel)
theorem d_Reader_begin_17 : decode b_Reader_begin 17 = .ok (.putfield 71, 3) := dc_181 (by decide +kernel)
theorem d_Reader_begin_20 : decode b_Reader_begin 20 = .ok (.aload_n 0, 1) := dc_42 (by decide +kernel)
theorem d_Reader_begin_21 : decode b_Reader_begin 21 = .ok (.iconst 0, 1) := dc_3 (by decide +kernel)
theorem d_Reader_begin_22 : decode b_Reader_begin 22 = .ok (.putfield 74, 3) := dc_181 (by decide +kernel)
theorem d_Reader_begin_25 : decode b_Reader_begin 25 = .ok (.aload_n 0, 1) := dc_42 (by decide +kernel)
theorem d_Reader_begin_26 : decode b_Reader_begin 26 = .ok (.iconst (-1), 1) := dc_2 (by decide +kernel)
theorem d_Reader_begin_27 : decode b_Reader_begin 27 = .ok (.putfield 77, 3) := dc_181 (by decide +kernel)
theorem d_Reader_begin_30 : decode b_Reader_begin 30 = .ok (.aload_n 0, 1) := dc_42 (by decide +kernel)
theorem d_Reader_begin_31 : decode b_Reader_begin 31 = .ok (.iconst (-1), 1) := dc_2 (by decide +kernel)
theorem d_Reader_begin_32 : decode b_Reader_begin 32 = .ok (.putfield 44, 3) := dc_181 (by decide +kernel)
theorem d_Reader_begin_35 : decode b_Reader_begin 35 = .ok (.aload_n 0, 1) := dc_42 (by decide +kernel)
theorem d_Reader_begin_36 : decode b_Reader_begin 36 = .ok (.iconst 0, 1) := dc_3 (by decide +kernel)
theorem d_Reader_begin_37 : decode b_Reader_begin 37 = .ok (.invokevirtual 80, 3) := dc_182 (by decide +kernel)
theorem d_Reader_begin_40 : decode b_Reader_begin 40 = .ok (.return_, 1) := dc_177 (by decide +kernel)
def t_Reader_begin (M : Mem)  : Option (Mem) := (qlet (setI M 46 0 (42 : Nat)) fun M1 => (qlet (setI M1 46 6 0) fun M2 => (qlet (setI M2 46 7 0) fun M3 => (qlet (setI M3 46 8 0) fun M4 => (qlet (setI M4 46 9 0) fun M5 => (qlet (setI M5 46 10 (-1)) fun M6 => (qlet (setI M6 46 4 (-1)) fun M7 => (obind (t_Reader_goTo M7 0) fun q8 => (some q8)))))))))
set_option maxHeartbeats 4000000 in
set_option maxRecDepth 100000 in
theorem c_Reader_begin (l : Launch) {b n : Nat} {C : CT} (hlo : 191 ≤ n) (M : Mem)   (res : Mem) (hT : t_Reader_begin M  = some res) : CM l b C n 2 y_Reader_begin b_Reader_begin 2 (none) [.ref (b + 46), .ref (b + 42)] M (QV b C n res) := by
  refine CM.of (lo := 191) (ow := "WardFalls$Reader") (by decide) rfl (Nat.le_of_ble_eq_true rfl) hlo (fun p e s m below meth c F hlk hr hS ls hl => ?_)
  have hl : lv_has ls 2 [(0, .ref (b + 46)), (1, .ref (b + 42))] := hl
  unfold t_Reader_begin at hT
  refine lv_aload_n F.hx F.hb d_Reader_begin_0 rfl (lv_at hl 0 rfl) ?_
  refine lv_aload_n F.hx F.hb d_Reader_begin_1 rfl (lv_at hl 1 rfl) ?_
  refine r_putTok F hS mw_230 d_Reader_begin_2 (fun H locs hS => ?_)
  obtain ⟨M1, eM1⟩ : ∃ q, q = (setI M 46 0 (42 : Nat)) := ⟨_, rfl⟩
  replace hS : St b C n M1 s H locs := by rw [eM1]; exact hS
  replace hT := qlet_eq hT eM1
  refine lv_aload_n F.hx F.hb d_Reader_begin_5 rfl (lv_at hl 0 rfl) ?_
  refine r_iconst F.hx F.hb d_Reader_begin_6 ?_
  refine r_putI (N := 11) (T := T8) (j := 6) F hS (show 46 < 191 by decide) (show shK 46 = 12 from rfl) (show shN 46 = 11 from rfl) rfl (Nat.le_of_ble_eq_true rfl) ing8 tyok8 nm8 rfl rfl rfl rfl rfl rfl mw_236 (inr_c rfl) d_Reader_begin_7 (fun H locs hS => ?_)
  obtain ⟨M2, eM2⟩ : ∃ q, q = (setI M1 46 6 0) := ⟨_, rfl⟩
  replace hS : St b C n M2 s H locs := by rw [eM2]; exact hS
  replace hT := qlet_eq hT eM2
  refine lv_aload_n F.hx F.hb d_Reader_begin_10 rfl (lv_at hl 0 rfl) ?_
  refine r_iconst F.hx F.hb d_Reader_begin_11 ?_
  refine r_putI (N := 11) (T := T8) (j := 7) F hS (show 46 < 191 by decide) (show shK 46 = 12 from rfl) (show shN 46 = 11 from rfl) rfl (Nat.le_of_ble_eq_true rfl) ing8 tyok8 nm8 rfl rfl (nar_z (Or.inl rfl)) (fit_z (Or.inl rfl)) rfl rfl mw_237 (inr_c rfl) d_Reader_begin_12 (fun H locs hS => ?_)
  obtain ⟨M3, eM3⟩ : ∃ q, q = (setI M2 46 7 0) := ⟨_, rfl⟩
  replace hS : St b C n M3 s H locs := by rw [eM3]; exact hS
  replace hT := qlet_eq hT eM3
  refine lv_aload_n F.hx F.hb d_Reader_begin_15 rfl (lv_at hl 0 rfl) ?_
  refine r_iconst F.hx F.hb d_Reader_begin_16 ?_
  refine r_putI (N := 11) (T := T8) (j := 8) F hS (show 46 < 191 by decide) (show shK 46 = 12 from rfl) (show shN 46 = 11 from rfl) rfl (Nat.le_of_ble_eq_true rfl) ing8 tyok8 nm8 rfl rfl (nar_z (Or.inl rfl)) (fit_z (Or.inl rfl)) rfl rfl mw_238 (inr_c rfl) d_Reader_begin_17 (fun H locs hS => ?_)
  obtain ⟨M4, eM4⟩ : ∃ q, q = (setI M3 46 8 0) := ⟨_, rfl⟩
  replace hS : St b C n M4 s H locs := by rw [eM4]; exact hS
  replace hT := qlet_eq hT eM4
  refine lv_aload_n F.hx F.hb d_Reader_begin_20 rfl (lv_at hl 0 rfl) ?_
  refine r_iconst F.hx F.hb d_Reader_begin_21 ?_
  refine r_putI (N := 11) (T := T8) (j := 9) F hS (show 46 < 191 by decide) (show shK 46 = 12 from rfl) (show shN 46 = 11 from rfl) rfl (Nat.le_of_ble_eq_true rfl) ing8 tyok8 nm8 rfl rfl rfl rfl rfl rfl mw_239 (inr_c rfl) d_Reader_begin_22 (fun H locs hS => ?_)
  obtain ⟨M5, eM5⟩ : ∃ q, q = (setI M4 46 9 0) := ⟨_, rfl⟩
  replace hS : St b C n M5 s H locs := by rw [eM5]; exact hS
  replace hT := qlet_eq hT eM5
  refine lv_aload_n F.hx F.hb d_Reader_begin_25 rfl (lv_at hl 0 rfl) ?_
  refine r_iconst F.hx F.hb d_Reader_begin_26 ?_
  refine r_putI (N := 11) (T := T8) (j := 10) F hS (show 46 < 191 by decide) (show shK 46 = 12 from rfl) (show shN 46 = 11 from rfl) rfl (Nat.le_of_ble_eq_true rfl) ing8 tyok8 nm8 rfl rfl rfl rfl rfl rfl mw_241 (inr_c rfl) d_Reader_begin_27 (fun H locs hS => ?_)
  obtain ⟨M6, eM6⟩ : ∃ q, q = (setI M5 46 10 (-1)) := ⟨_, rfl⟩
  replace hS : St b C n M6 s H locs := by rw [eM6]; exact hS
  replace hT := qlet_eq hT eM6
  refine lv_aload_n F.hx F.hb d_Reader_begin_30 rfl (lv_at hl 0 rfl) ?_
  refine r_iconst F.hx F.hb d_Reader_begin_31 ?_
  refine r_putI (N := 11) (T := T8) (j := 4) F hS (show 46 < 191 by decide) (show shK 46 = 12 from rfl) (show shN 46 = 11 from rfl) rfl (Nat.le_of_ble_eq_true rfl) ing8 tyok8 nm8 rfl rfl rfl rfl rfl rfl mw_234 (inr_c rfl) d_Reader_begin_32 (fun H locs hS => ?_)
  obtain ⟨M7, eM7⟩ : ∃ q, q = (setI M6 46 4 (-1)) := ⟨_, rfl⟩
  replace hS : St b C n M7 s H locs := by rw [eM7]; exact hS
  replace hT := qlet_eq hT eM7
  refine lv_aload_n F.hx F.hb d_Reader_begin_35 rfl (lv_at hl 0 rfl) ?_
  refine r_iconst F.hx F.hb d_Reader_begin_36 ?_
  obtain ⟨q8, hq8, hT⟩ := q_obind hT
  refine r_backV F hS (r_runV (k := 46) (N := 11) (T := T8) (As := [vI 0]) F hS (show 46 < 191 by decide) (show shK 46 = 12 from rfl) rfl (c_Reader_goTo l F.2.2.1 M7 0 (inr_c rfl) _ hq8) gs_Reader_80 hd_Reader_goTo ⟨Nat.le_of_ble_eq_true rfl, Nat.le_of_ble_eq_true rfl⟩ rfl hl.1 (Nat.le_of_ble_eq_true rfl) ⟨Nat.zero_le _, Nat.zero_le _⟩ rfl d_Reader_begin_37) (fun H locs hS => ?_)
  cases hT
  exact r_vret F hlk hr hS d_Reader_begin_40
theorem d_Reader_refuse_0 : decode b_Reader_refuse 0 = .ok (.aload_n 0, 1) := dc_42 (by decide +kernel)
theorem d_Reader_refuse_1 : decode b_Reader_refuse 1 = .ok (.iload_n 1, 1) := dc_27 (by decide +kernel)
theorem d_Reader_refuse_2 : decode b_Reader_refuse 2 = .ok (.putfield 74, 3) := dc_181 (by decide +kernel)
theorem d_Reader_refuse_5 : decode b_Reader_refuse 5 = .ok (.aload_n 0, 1) := dc_42 (by decide +kernel)
theorem d_Reader_refuse_6 : decode b_Reader_refuse 6 = .ok (.iload_n 2, 1) := dc_28 (by decide +kernel)
theorem d_Reader_refuse_7 : decode b_Reader_refuse 7 = .ok (.putfield 77, 3) := dc_181 (by decide +kernel)
theorem d_Reader_refuse_10 : decode b_Reader_refuse 10 = .ok (.iconst 0, 1) := dc_3 (by decide +kernel)
theorem d_Reader_refuse_11 : decode b_Reader_refuse 11 = .ok (.ireturn, 1) := dc_172 (by decide +kernel)
def t_Reader_refuse (M : Mem) (x1 : Int) (x2 : Int) : Mem × Int := (qlet (setI M 46 9 x1) fun M1 => (qlet (setI M1 46 10 x2) fun M2 => (M2, 0)))
set_option maxHeartbeats 4000000 in
set_option maxRecDepth 100000 in
theorem c_Reader_refuse (l : Launch) {b n : Nat} {C : CT} (hlo : 191 ≤ n) (M : Mem) (x1 : Int) (x2 : Int) (hx1 : InR x1) (hx2 : InR x2) (res : Mem × Int) (hT : t_Reader_refuse M x1 x2 = res) : CM l b C n 0 y_Reader_refuse b_Reader_refuse 3 (some .boolean) [.ref (b + 46), vI x1, vI x2] M (QZ b C n res.1 res.2) := by
  refine CM.of (lo := 191) (ow := "WardFalls$Reader") (by decide) rfl (Nat.le_of_ble_eq_true rfl) hlo (fun p e s m below meth c F hlk hr hS ls hl => ?_)
  have hl : lv_has ls 3 [(0, .ref (b + 46)), (1, vI x1), (2, vI x2)] := hl
  unfold t_Reader_refuse at hT
  refine lv_aload_n F.hx F.hb d_Reader_refuse_0 rfl (lv_at hl 0 rfl) ?_
  refine lv_iload_n F.hx F.hb d_Reader_refuse_1 rfl (lv_at hl 1 rfl) ?_
  refine r_putI (N := 11) (T := T8) (j := 9) F hS (show 46 < 191 by decide) (show shK 46 = 12 from rfl) (show shN 46 = 11 from rfl) rfl (Nat.le_of_ble_eq_true rfl) ing8 tyok8 nm8 rfl rfl rfl rfl rfl rfl mw_239 hx1 d_Reader_refuse_2 (fun H locs hS => ?_)
  obtain ⟨M1, eM1⟩ : ∃ q, q = (setI M 46 9 x1) := ⟨_, rfl⟩
  replace hS : St b C n M1 s H locs := by rw [eM1]; exact hS
  replace hT := qlet_eq hT eM1
  refine lv_aload_n F.hx F.hb d_Reader_refuse_5 rfl (lv_at hl 0 rfl) ?_
  refine lv_iload_n F.hx F.hb d_Reader_refuse_6 rfl (lv_at hl 2 rfl) ?_
  refine r_putI (N := 11) (T := T8) (j := 10) F hS (show 46 < 191 by decide) (show shK 46 = 12 from rfl) (show shN 46 = 11 from rfl) rfl (Nat.le_of_ble_eq_true rfl) ing8 tyok8 nm8 rfl rfl rfl rfl rfl rfl mw_241 hx2 d_Reader_refuse_7 (fun H locs hS => ?_)
  obtain ⟨M2, eM2⟩ : ∃ q, q = (setI M1 46 10 x2) := ⟨_, rfl⟩
  replace hS : St b C n M2 s H locs := by rw [eM2]; exact hS
  replace hT := qlet_eq hT eM2
  refine r_iconst F.hx F.hb d_Reader_refuse_10 ?_
  subst hT
  exact r_zret F hlk hr hS (Or.inl rfl) d_Reader_refuse_11
theorem d_Reader_take_0 : decode b_Reader_take 0 = .ok (.aload_n 0, 1) := dc_42 (by decide +kernel)
theorem d_Reader_take_1 : decode b_Reader_take 1 = .ok (.getfield 15, 3) := dc_180 (by decide +kernel)
theorem d_Reader_take_4 : decode b_Reader_take 4 = .ok (.iload_n 1, 1) := dc_27 (by decide +kernel)
theorem d_Reader_take_5 : decode b_Reader_take 5 = .ok (.if_icmp .eq 13, 3) := dc_159 (by decide +kernel)
theorem d_Reader_take_8 : decode b_Reader_take 8 = .ok (.aload_n 0, 1) := dc_42 (by decide +kernel)
theorem d_Reader_take_9 : decode b_Reader_take 9 = .ok (.iconst 1, 1) := dc_4 (by decide +kernel)
theorem d_Reader_take_10 : decode b_Reader_take 10 = .ok (.aload_n 0, 1) := dc_42 (by decide +kernel)
theorem d_Reader_take_11 : decode b_Reader_take 11 = .ok (.getfield 44, 3) := dc_180 (by decide +kernel)
theorem d_Reader_take_14 : decode b_Reader_take 14 = .ok (.invokevirtual 47, 3) := dc_182 (by decide +kernel)
theorem d_Reader_take_17 : decode b_Reader_take 17 = .ok (.ireturn, 1) := dc_172 (by decide +kernel)
theorem d_Reader_take_18 : decode b_Reader_take 18 = .ok (.aload_n 0, 1) := dc_42 (by decide +kernel)
theorem d_Reader_take_19 : decode b_Reader_take 19 = .ok (.aload_n 0, 1) := dc_42 (by decide +kernel)
theorem d_Reader_take_20 : decode b_Reader_take 20 = .ok (.getfield 94, 3) := dc_180 (by decide +kernel)
theorem d_Reader_take_23 : decode b_Reader_take 23 = .ok (.iconst 1, 1) := dc_4 (by decide +kernel)
theorem d_Reader_take_24 : decode b_Reader_take 24 = .ok (.iadd, 1) := dc_96 (by decide +kernel)
theorem d_Reader_take_25 : decode b_Reader_take 25 = .ok (.invokevirtual 80, 3) := dc_182 (by decide +kernel)
theorem d_Reader_take_28 : decode b_Reader_take 28 = .ok (.iconst 1, 1) := dc_4 (by decide +kernel)
theorem d_Reader_take_29 : decode b_Reader_take 29 = .ok (.ireturn, 1) := dc_172 (by decide +kernel)
def t_Reader_take (M : Mem) (x1 : Int) : Option (Mem × Int) := (if (M.1 46 2) = x1 then (obind (t_Reader_goTo M (w32 ((M.1 46 1) + 1))) fun q4 => (some (q4, 1))) else (qlet (t_Reader_refuse M 1 (M.1 46 4)) fun q7 => (some ((q7.1), (q7.2)))))
set_option maxHeartbeats 4000000 in
set_option maxRecDepth 100000 in
theorem c_Reader_take (l : Launch) {b n : Nat} {C : CT} (hlo : 191 ≤ n) (M : Mem) (x1 : Int) (hx1 : InR x1) (res : Mem × Int) (hT : t_Reader_take M x1 = some res) : CM l b C n 2 y_Reader_take b_Reader_take 2 (some .boolean) [.ref (b + 46), vI x1] M (QZ b C n res.1 res.2) := by
  refine CM.of (lo := 191) (ow := "WardFalls$Reader") (by decide) rfl (Nat.le_of_ble_eq_true rfl) hlo (fun p e s m below meth c F hlk hr hS ls hl => ?_)
  have hl : lv_has ls 2 [(0, .ref (b + 46)), (1, vI x1)] := hl
  unfold t_Reader_take at hT
  refine lv_aload_n F.hx F.hb d_Reader_take_0 rfl (lv_at hl 0 rfl) ?_
  refine r_get (v := vI (M.1 46 2)) (N := 11) (T := T8) (j := 2) F hS (show 46 < 191 by decide) (show shK 46 = 12 from rfl) (show shN 46 = 11 from rfl) rfl (Nat.le_of_ble_eq_true rfl) ing8 mw_232 (fv_int rfl) d_Reader_take_1 ?_
  have i1 := hS.rng 46 2
  refine lv_iload_n F.hx F.hb d_Reader_take_4 rfl (lv_at hl 1 rfl) ?_
  refine r_icmp_eq (tgt := 18) F.hx F.hb i1 hx1 d_Reader_take_5 (by decide) (fun c2 => ?_) (fun c2 => ?_)
  · replace hT := (if_pos c2).symm.trans hT
    refine lv_aload_n F.hx F.hb d_Reader_take_18 rfl (lv_at hl 0 rfl) ?_
    refine lv_aload_n F.hx F.hb d_Reader_take_19 rfl (lv_at hl 0 rfl) ?_
    refine r_get (v := vI (M.1 46 1)) (N := 11) (T := T8) (j := 1) F hS (show 46 < 191 by decide) (show shK 46 = 12 from rfl) (show shN 46 = 11 from rfl) rfl (Nat.le_of_ble_eq_true rfl) ing8 mw_231 (fv_int rfl) d_Reader_take_20 ?_
    have i3 := hS.rng 46 1
    refine r_iconst F.hx F.hb d_Reader_take_23 ?_
    refine r_iadd F.hx F.hb d_Reader_take_24 ?_
    obtain ⟨q4, hq4, hT⟩ := q_obind hT
    refine r_backV F hS (r_runV (k := 46) (N := 11) (T := T8) (As := [vI (w32 ((M.1 46 1) + 1))]) F hS (show 46 < 191 by decide) (show shK 46 = 12 from rfl) rfl (c_Reader_goTo l F.2.2.1 M (w32 ((M.1 46 1) + 1)) (inr_w32 _) _ hq4) gs_Reader_80 hd_Reader_goTo ⟨Nat.le_of_ble_eq_true rfl, Nat.le_of_ble_eq_true rfl⟩ rfl hl.1 (Nat.le_of_ble_eq_true rfl) ⟨Nat.zero_le _, Nat.zero_le _⟩ rfl d_Reader_take_25) (fun H locs hS => ?_)
    refine r_iconst F.hx F.hb d_Reader_take_28 ?_
    cases hT
    exact r_zret F hlk hr hS (Or.inr rfl) d_Reader_take_29
  · replace hT := (if_neg c2).symm.trans hT
    refine lv_aload_n F.hx F.hb d_Reader_take_8 rfl (lv_at hl 0 rfl) ?_
    refine r_iconst F.hx F.hb d_Reader_take_9 ?_
    refine lv_aload_n F.hx F.hb d_Reader_take_10 rfl (lv_at hl 0 rfl) ?_
    refine r_get (v := vI (M.1 46 4)) (N := 11) (T := T8) (j := 4) F hS (show 46 < 191 by decide) (show shK 46 = 12 from rfl) (show shN 46 = 11 from rfl) rfl (Nat.le_of_ble_eq_true rfl) ing8 mw_234 (fv_int rfl) d_Reader_take_11 ?_
    have i6 := hS.rng 46 4
    obtain ⟨q7, hq7⟩ : ∃ q, q = (t_Reader_refuse M 1 (M.1 46 4)) := ⟨_, rfl⟩
    replace hT := qlet_eq hT hq7
    refine r_backZ F hS (r_runV (k := 46) (N := 11) (T := T8) (As := [vI 1, vI (M.1 46 4)]) F hS (show 46 < 191 by decide) (show shK 46 = 12 from rfl) rfl (c_Reader_refuse l F.2.2.1 M 1 (M.1 46 4) (inr_c rfl) i6 _ hq7.symm) gs_Reader_47 hd_Reader_refuse ⟨Nat.le_of_ble_eq_true rfl, Nat.le_of_ble_eq_true rfl⟩ rfl hl.1 (Nat.le_of_ble_eq_true rfl) ⟨Nat.zero_le _, Nat.zero_le _⟩ rfl d_Reader_take_14) (fun H locs hS h8 => ?_)
    cases hT
    exact r_zret F hlk hr hS h8 d_Reader_take_17
theorem d_Reader_takeNumber_0 : decode b_Reader_takeNumber 0 = .ok (.aload_n 0, 1) := dc_42 (by decide +kernel)
theorem d_Reader_takeNumber_1 : decode b_Reader_takeNumber 1 = .ok (.getfield 131, 3) := dc_180 (by decide +kernel)
theorem d_Reader_takeNumber_4 : decode b_Reader_takeNumber 4 = .ok (.istore_n 3, 1) := dc_62 (by decide +kernel)
theorem d_Reader_takeNumber_5 : decode b_Reader_takeNumber 5 = .ok (.aload_n 0, 1) := dc_42 (by decide +kernel)
theorem d_Reader_takeNumber_6 : decode b_Reader_takeNumber 6 = .ok (.getfield 15, 3) := dc_180 (by decide +kernel)
theorem d_Reader_takeNumber_9 : decode b_Reader_takeNumber 9 = .ok (.bipush 31, 2) := dc_16 (by decide +kernel)
theorem d_Reader_takeNumber_11 : decode b_Reader_takeNumber 11 = .ok (.if_icmp .ne 25, 3) := dc_160 (by decide +kernel)
theorem d_Reader_takeNumber_14 : decode b_Reader_takeNumber 14 = .ok (.iload_n 3, 1) := dc_29 (by decide +kernel)
theorem d_Reader_takeNumber_15 : decode b_Reader_takeNumber 15 = .ok (.iload_n 1, 1) := dc_27 (by decide +kernel)
theorem d_Reader_takeNumber_16 : decode b_Reader_takeNumber 16 = .ok (.if_icmp .lt 8, 3) := dc_161 (by decide +kernel)
theorem d_Reader_takeNumber_19 : decode b_Reader_takeNumber 19 = .ok (.iload_n 3, 1) := dc_29 (by decide +kernel)
theorem d_Reader_takeNumber_20 : decode b_Reader_takeNumber 20 = .ok (.iload_n 2, 1) := dc_28 (by decide +kernel)
theorem d_Reader_takeNumber_21 : decode b_Reader_takeNumber 21 = .ok (.if_icmp .le 15, 3) := dc_164 (by decide +kernel)
theorem d_Reader_takeNumber_24 : decode b_Reader_takeNumber 24 = .ok (.aload_n 0, 1) := dc_42 (by decide +kernel)
theorem d_Reader_takeNumber_25 : decode b_Reader_takeNumber 25 = .ok (.iconst 2, 1) := dc_5 (by decide +kernel)
theorem d_Reader_takeNumber_26 : decode b_Reader_takeNumber 26 = .ok (.aload_n 0, 1) := dc_42 (by decide +kernel)
theorem d_Reader_takeNumber_27 : decode b_Reader_takeNumber 27 = .ok (.getfield 44, 3) := dc_180 (by decide +kernel)
theorem d_Reader_takeNumber_30 : decode b_Reader_takeNumber 30 = .ok (.invokevirtual 47, 3) := dc_182 (by decide +kernel)
theorem d_Reader_takeNumber_33 : decode b_Reader_takeNumber 33 = .ok (.pop, 1) := dc_87 (by decide +kernel)
theorem d_Reader_takeNumber_34 : decode b_Reader_takeNumber 34 = .ok (.iconst (-1), 1) := dc_2 (by decide +kernel)
theorem d_Reader_takeNumber_35 : decode b_Reader_takeNumber 35 = .ok (.ireturn, 1) := dc_172 (by decide +kernel)
theorem d_Reader_takeNumber_36 : decode b_Reader_takeNumber 36 = .ok (.aload_n 0, 1) := dc_42 (by decide +kernel)
theorem d_Reader_takeNumber_37 : decode b_Reader_takeNumber 37 = .ok (.bipush 31, 2) := dc_16 (by decide +kernel)
theorem d_Reader_takeNumber_39 : decode b_Reader_takeNumber 39 = .ok (.invokevirtual 51, 3) := dc_182 (by decide +kernel)
theorem d_Reader_takeNumber_42 : decode b_Reader_takeNumber 42 = .ok (.ifCond .eq 7, 3) := dc_153 (by decide +kernel)
theorem d_Reader_takeNumber_45 : decode b_Reader_takeNumber 45 = .ok (.iload_n 3, 1) := dc_29 (by decide +kernel)
theorem d_Reader_takeNumber_46 : decode b_Reader_takeNumber 46 = .ok (.goto 4, 3) := dc_167 (by decide +kernel)
theorem d_Reader_takeNumber_49 : decode b_Reader_takeNumber 49 = .ok (.iconst (-1), 1) := dc_2 (by decide +kernel)
theorem d_Reader_takeNumber_50 : decode b_Reader_takeNumber 50 = .ok (.ireturn, 1) := dc_172 (by decide +kernel)
def t_Reader_takeNumber_L24 (x1 : Int) (x2 : Int)  (M : Mem)  : Option (Mem × Int) := (qlet (t_Reader_refuse M 2 (M.1 46 4)) fun q10 => (some ((q10.1), (-1))))
def t_Reader_takeNumber_L36 (x1 : Int) (x2 : Int)  (M : Mem) (v1_ : Int) : Option (Mem × Int) := (obind (t_Reader_take M 31) fun q6 => (if (q6.2) = 0 then (some ((q6.1), (-1))) else (some ((q6.1), v1_))))
def t_Reader_takeNumber (M : Mem) (x1 : Int) (x2 : Int) : Option (Mem × Int) := (if (M.1 46 2) = 31 then (if (M.1 46 3) < x1 then (t_Reader_takeNumber_L24 x1 x2 M) else (if (M.1 46 3) ≤ x2 then (t_Reader_takeNumber_L36 x1 x2 M (M.1 46 3)) else (t_Reader_takeNumber_L24 x1 x2 M))) else (t_Reader_takeNumber_L36 x1 x2 M (M.1 46 3)))
set_option maxHeartbeats 4000000 in
set_option maxRecDepth 100000 in
theorem k_Reader_takeNumber_L24 (l : Launch) {p : Program} {e : Env} {s : State} {m : MethodId} {below : List Frame} {meth : Method} {c : Code} {b n : Nat} {C : CT} (hlo : 191 ≤ n) (x1 : Int) (x2 : Int) (hx1 : InR x1) (hx2 : InR x2) (F : Cx b p m c b_Reader_takeNumber 4 s ([.ref (b + 46), vI x1, vI x2] : List Value).toArray "WardFalls$Reader" C n 191) (hlk : meth.locks = false) (hr : meth.sig.returnType = some .int) {res : Mem × Int} (M : Mem)  (H : Heap) (locs : List Loc) (ls : Array Slot) (hS : St b C n M s H locs) (hl : lv_has ls 4 [(0, .ref (b + 46))]) (hT : t_Reader_takeNumber_L24 x1 x2 M = some res) : W p l e (headSpec (wsM y_Reader_takeNumber b_Reader_takeNumber 4 (some .int)) (rmD 3)).room s m ([.ref (b + 46), vI x1, vI x2] : List Value).toArray below meth c H locs 0 0 (MQ below (QI b C n res.1 res.2) ([.ref (b + 46), vI x1, vI x2] : List Value).toArray s 0 0 (frb b)) (F0 m 24 ls []) := by
  unfold t_Reader_takeNumber_L24 at hT
  refine lv_aload_n F.hx F.hb d_Reader_takeNumber_24 rfl (lv_at hl 0 rfl) ?_
  refine r_iconst F.hx F.hb d_Reader_takeNumber_25 ?_
  refine lv_aload_n F.hx F.hb d_Reader_takeNumber_26 rfl (lv_at hl 0 rfl) ?_
  refine r_get (v := vI (M.1 46 4)) (N := 11) (T := T8) (j := 4) F hS (show 46 < 191 by decide) (show shK 46 = 12 from rfl) (show shN 46 = 11 from rfl) rfl (Nat.le_of_ble_eq_true rfl) ing8 mw_234 (fv_int rfl) d_Reader_takeNumber_27 ?_
  have i9 := hS.rng 46 4
  obtain ⟨q10, hq10⟩ : ∃ q, q = (t_Reader_refuse M 2 (M.1 46 4)) := ⟨_, rfl⟩
  replace hT := qlet_eq hT hq10
  refine r_backZ F hS (r_runV (k := 46) (N := 11) (T := T8) (As := [vI 2, vI (M.1 46 4)]) F hS (show 46 < 191 by decide) (show shK 46 = 12 from rfl) rfl (c_Reader_refuse l F.2.2.1 M 2 (M.1 46 4) (inr_c rfl) i9 _ hq10.symm) gs_Reader_47 hd_Reader_refuse ⟨Nat.le_of_ble_eq_true rfl, Nat.le_of_ble_eq_true rfl⟩ rfl hl.1 (Nat.le_of_ble_eq_true rfl) ⟨Nat.zero_le _, Nat.zero_le _⟩ rfl d_Reader_takeNumber_30) (fun H locs hS h11 => ?_)
  refine lv_pop F.hx F.hb d_Reader_takeNumber_33 rfl ?_
  refine r_iconst F.hx F.hb d_Reader_takeNumber_34 ?_
  cases hT
  exact r_iret F hlk hr rfl hS (inr_c rfl) d_Reader_takeNumber_35
set_option maxHeartbeats 4000000 in
set_option maxRecDepth 100000 in
theorem k_Reader_takeNumber_L36 (l : Launch) {p : Program} {e : Env} {s : State} {m : MethodId} {below : List Frame} {meth : Method} {c : Code} {b n : Nat} {C : CT} (hlo : 191 ≤ n) (x1 : Int) (x2 : Int) (hx1 : InR x1) (hx2 : InR x2) (F : Cx b p m c b_Reader_takeNumber 4 s ([.ref (b + 46), vI x1, vI x2] : List Value).toArray "WardFalls$Reader" C n 191) (hlk : meth.locks = false) (hr : meth.sig.returnType = some .int) {res : Mem × Int} (M : Mem) (v1_ : Int) (hv1_ : InR v1_) (H : Heap) (locs : List Loc) (ls : Array Slot) (hS : St b C n M s H locs) (hl : lv_has ls 4 [(0, .ref (b + 46)), (3, vI v1_)]) (hT : t_Reader_takeNumber_L36 x1 x2 M v1_ = some res) : W p l e (headSpec (wsM y_Reader_takeNumber b_Reader_takeNumber 4 (some .int)) (rmD 3)).room s m ([.ref (b + 46), vI x1, vI x2] : List Value).toArray below meth c H locs 0 0 (MQ below (QI b C n res.1 res.2) ([.ref (b + 46), vI x1, vI x2] : List Value).toArray s 0 0 (frb b)) (F0 m 36 ls []) := by
  unfold t_Reader_takeNumber_L36 at hT
  refine lv_aload_n F.hx F.hb d_Reader_takeNumber_36 rfl (lv_at hl 0 rfl) ?_
  refine r_bipush F.hx F.hb d_Reader_takeNumber_37 rfl ?_
  obtain ⟨q6, hq6, hT⟩ := q_obind hT
  refine r_backZ F hS (r_runV (k := 46) (N := 11) (T := T8) (As := [vI 31]) F hS (show 46 < 191 by decide) (show shK 46 = 12 from rfl) rfl (c_Reader_take l F.2.2.1 M 31 (inr_c rfl) _ hq6) gs_Reader_51 hd_Reader_take ⟨Nat.le_of_ble_eq_true rfl, Nat.le_of_ble_eq_true rfl⟩ rfl hl.1 (Nat.le_of_ble_eq_true rfl) ⟨Nat.zero_le _, Nat.zero_le _⟩ rfl d_Reader_takeNumber_39) (fun H locs hS h7 => ?_)
  refine r_if_eq (tgt := 49) F.hx F.hb (inr_z h7) d_Reader_takeNumber_42 (by decide) (fun c8 => ?_) (fun c8 => ?_)
  · replace hT := (if_pos c8).symm.trans hT
    refine r_iconst F.hx F.hb d_Reader_takeNumber_49 ?_
    cases hT
    exact r_iret F hlk hr rfl hS (inr_c rfl) d_Reader_takeNumber_50
  · replace hT := (if_neg c8).symm.trans hT
    refine lv_iload_n F.hx F.hb d_Reader_takeNumber_45 rfl (lv_at hl 1 rfl) ?_
    refine lv_goto (tgt := 50) F.hx F.hb d_Reader_takeNumber_46 (by decide) ?_
    cases hT
    exact r_iret F hlk hr rfl hS hv1_ d_Reader_takeNumber_50
set_option maxHeartbeats 4000000 in
set_option maxRecDepth 100000 in
theorem c_Reader_takeNumber (l : Launch) {b n : Nat} {C : CT} (hlo : 191 ≤ n) (M : Mem) (x1 : Int) (x2 : Int) (hx1 : InR x1) (hx2 : InR x2) (res : Mem × Int) (hT : t_Reader_takeNumber M x1 x2 = some res) : CM l b C n 3 y_Reader_takeNumber b_Reader_takeNumber 4 (some .int) [.ref (b + 46), vI x1, vI x2] M (QI b C n res.1 res.2) := by
  refine CM.of (lo := 191) (ow := "WardFalls$Reader") (by decide) rfl (Nat.le_of_ble_eq_true rfl) hlo (fun p e s m below meth c F hlk hr hS ls hl => ?_)
  have hl : lv_has ls 4 [(0, .ref (b + 46)), (1, vI x1), (2, vI x2)] := hl
  unfold t_Reader_takeNumber at hT
  refine lv_aload_n F.hx F.hb d_Reader_takeNumber_0 rfl (lv_at hl 0 rfl) ?_
  refine r_get (v := vI (M.1 46 3)) (N := 11) (T := T8) (j := 3) F hS (show 46 < 191 by decide) (show shK 46 = 12 from rfl) (show shN 46 = 11 from rfl) rfl (Nat.le_of_ble_eq_true rfl) ing8 mw_233 (fv_int rfl) d_Reader_takeNumber_1 ?_
  have i1 := hS.rng 46 3
  refine lv_istore_n (lv' := [(3, vI (M.1 46 3)), (0, .ref (b + 46)), (1, vI x1), (2, vI x2)]) F.hx F.hb d_Reader_takeNumber_4 rfl hl (Nat.le_of_ble_eq_true rfl) rfl (fun ls hl => ?_)
  refine lv_aload_n F.hx F.hb d_Reader_takeNumber_5 rfl (lv_at hl 1 rfl) ?_
  refine r_get (v := vI (M.1 46 2)) (N := 11) (T := T8) (j := 2) F hS (show 46 < 191 by decide) (show shK 46 = 12 from rfl) (show shN 46 = 11 from rfl) rfl (Nat.le_of_ble_eq_true rfl) ing8 mw_232 (fv_int rfl) d_Reader_takeNumber_6 ?_
  have i2 := hS.rng 46 2
  refine r_bipush F.hx F.hb d_Reader_takeNumber_9 rfl ?_
  refine r_icmp_ne (tgt := 36) F.hx F.hb i2 (inr_c rfl) d_Reader_takeNumber_11 (by decide) (fun c3 => ?_) (fun c3 => ?_)
  · replace hT := (if_neg c3).symm.trans hT
    exact k_Reader_takeNumber_L36 l hlo x1 x2 hx1 hx2 F hlk hr M (M.1 46 3) i1 _ _ _ hS (lv_sub hl [1, 0] rfl) hT
  · replace hT := (if_pos c3).symm.trans hT
    refine lv_iload_n F.hx F.hb d_Reader_takeNumber_14 rfl (lv_at hl 0 rfl) ?_
    refine lv_iload_n F.hx F.hb d_Reader_takeNumber_15 rfl (lv_at hl 2 rfl) ?_
    refine r_icmp_lt (tgt := 24) F.hx F.hb i1 hx1 d_Reader_takeNumber_16 (by decide) (fun c4 => ?_) (fun c4 => ?_)
    · replace hT := (if_pos c4).symm.trans hT
      exact k_Reader_takeNumber_L24 l hlo x1 x2 hx1 hx2 F hlk hr M _ _ _ hS (lv_sub hl [1] rfl) hT
    · replace hT := (if_neg c4).symm.trans hT
      refine lv_iload_n F.hx F.hb d_Reader_takeNumber_19 rfl (lv_at hl 0 rfl) ?_
      refine lv_iload_n F.hx F.hb d_Reader_takeNumber_20 rfl (lv_at hl 3 rfl) ?_
      refine r_icmp_le (tgt := 36) F.hx F.hb i1 hx2 d_Reader_takeNumber_21 (by decide) (fun c5 => ?_) (fun c5 => ?_)
      · replace hT := (if_pos c5).symm.trans hT
        exact k_Reader_takeNumber_L36 l hlo x1 x2 hx1 hx2 F hlk hr M (M.1 46 3) i1 _ _ _ hS (lv_sub hl [1, 0] rfl) hT
      · replace hT := (if_neg c5).symm.trans hT
        exact k_Reader_takeNumber_L24 l hlo x1 x2 hx1 hx2 F hlk hr M _ _ _ hS (lv_sub hl [1] rfl) hT
theorem d_Reader_readTown_0 : decode b_Reader_readTown 0 = .ok (.aload_n 0, 1) := dc_42 (by decide +kernel)
theorem d_Reader_readTown_1 : decode b_Reader_readTown 1 = .ok (.getfield 67, 3) := dc_180 (by decide +kernel)
theorem d_Reader_readTown_4 : decode b_Reader_readTown 4 = .ok (.ifCond .eq 13, 3) := dc_153 (by decide +kernel)
theorem d_Reader_readTown_7 : decode b_Reader_readTown 7 = .ok (.aload_n 0, 1) := dc_42 (by decide +kernel)
theorem d_Reader_readTown_8 : decode b_Reader_readTown 8 = .ok (.iconst 3, 1) := dc_6 (by decide +kernel)
theorem d_Reader_readTown_9 : decode b_Reader_readTown 9 = .ok (.aload_n 0, 1) := dc_42 (by decide +kernel)
theorem d_Reader_readTown_10 : decode b_Reader_readTown 10 = .ok (.getfield 44, 3) := dc_180 (by decide +kernel)
theorem d_Reader_readTown_13 : decode b_Reader_readTown 13 = .ok (.invokevirtual 47, 3) := dc_182 (by decide +kernel)
theorem d_Reader_readTown_16 : decode b_Reader_readTown 16 = .ok (.ireturn, 1) := dc_172 (by decide +kernel)
theorem d_Reader_readTown_17 : decode b_Reader_readTown 17 = .ok (.aload_n 0, 1) := dc_42 (by decide +kernel)
theorem d_Reader_readTown_18 : decode b_Reader_readTown 18 = .ok (.getfield 64, 3) := dc_180 (by decide +kernel)
theorem d_Reader_readTown_21 : decode b_Reader_readTown 21 = .ok (.ifCond .gt 28, 3) := dc_157 (by decide +kernel)
theorem d_Reader_readTown_24 : decode b_Reader_readTown 24 = .ok (.aload_n 1, 1) := dc_43 (by decide +kernel)
theorem d_Reader_readTown_25 : decode b_Reader_readTown 25 = .ok (.getfield 84, 3) := dc_180 (by decide +kernel)
theorem d_Reader_readTown_28 : decode b_Reader_readTown 28 = .ok (.lconst 0, 1) := dc_9 (by decide +kernel)
theorem d_Reader_readTown_29 : decode b_Reader_readTown 29 = .ok (.lcmp, 1) := dc_148 (by decide +kernel)
theorem d_Reader_readTown_30 : decode b_Reader_readTown 30 = .ok (.ifCond .ne 19, 3) := dc_154 (by decide +kernel)
theorem d_Reader_readTown_33 : decode b_Reader_readTown 33 = .ok (.aload_n 1, 1) := dc_43 (by decide +kernel)
theorem d_Reader_readTown_34 : decode b_Reader_readTown 34 = .ok (.getfield 88, 3) := dc_180 (by decide +kernel)
theorem d_Reader_readTown_37 : decode b_Reader_readTown 37 = .ok (.lconst 0, 1) := dc_9 (by decide +kernel)
theorem d_Reader_readTown_38 : decode b_Reader_readTown 38 = .ok (.lcmp, 1) := dc_148 (by decide +kernel)
theorem d_Reader_readTown_39 : decode b_Reader_readTown 39 = .ok (.ifCond .ne 10, 3) := dc_154 (by decide +kernel)
theorem d_Reader_readTown_42 : decode b_Reader_readTown 42 = .ok (.aload_n 1, 1) := dc_43 (by decide +kernel)
theorem d_Reader_readTown_43 : decode b_Reader_readTown 43 = .ok (.getfield 91, 3) := dc_180 (by decide +kernel)
theorem d_Reader_readTown_46 : decode b_Reader_readTown 46 = .ok (.ifCond .le 13, 3) := dc_158 (by decide +kernel)
theorem d_Reader_readTown_49 : decode b_Reader_readTown 49 = .ok (.aload_n 0, 1) := dc_42 (by decide +kernel)
theorem d_Reader_readTown_50 : decode b_Reader_readTown 50 = .ok (.iconst 4, 1) := dc_7 (by decide +kernel)
theorem d_Reader_readTown_51 : decode b_Reader_readTown 51 = .ok (.aload_n 0, 1) := dc_42 (by decide +kernel)
theorem d_Reader_readTown_52 : decode b_Reader_readTown 52 = .ok (.getfield 44, 3) := dc_180 (by decide +kernel)
theorem d_Reader_readTown_55 : decode b_Reader_readTown 55 = .ok (.invokevirtual 47, 3) := dc_182 (by decide +kernel)
theorem d_Reader_readTown_58 : decode b_Reader_readTown 58 = .ok (.ireturn, 1) := dc_172 (by decide +kernel)
theorem d_Reader_readTown_59 : decode b_Reader_readTown 59 = .ok (.aload_n 0, 1) := dc_42 (by decide +kernel)
theorem d_Reader_readTown_60 : decode b_Reader_readTown 60 = .ok (.iconst 1, 1) := dc_4 (by decide +kernel)
theorem d_Reader_readTown_61 : decode b_Reader_readTown 61 = .ok (.putfield 67, 3) := dc_181 (by decide +kernel)
theorem d_Reader_readTown_64 : decode b_Reader_readTown 64 = .ok (.aload_n 0, 1) := dc_42 (by decide +kernel)
theorem d_Reader_readTown_65 : decode b_Reader_readTown 65 = .ok (.aload_n 0, 1) := dc_42 (by decide +kernel)
theorem d_Reader_readTown_66 : decode b_Reader_readTown 66 = .ok (.getfield 94, 3) := dc_180 (by decide +kernel)
theorem d_Reader_readTown_69 : decode b_Reader_readTown 69 = .ok (.iconst 1, 1) := dc_4 (by decide +kernel)
theorem d_Reader_readTown_70 : decode b_Reader_readTown 70 = .ok (.iadd, 1) := dc_96 (by decide +kernel)
theorem d_Reader_readTown_71 : decode b_Reader_readTown 71 = .ok (.invokevirtual 80, 3) := dc_182 (by decide +kernel)
theorem d_Reader_readTown_74 : decode b_Reader_readTown 74 = .ok (.aload_n 0, 1) := dc_42 (by decide +kernel)
theorem d_Reader_readTown_75 : decode b_Reader_readTown 75 = .ok (.iconst 1, 1) := dc_4 (by decide +kernel)
theorem d_Reader_readTown_76 : decode b_Reader_readTown 76 = .ok (.bipush 8, 2) := dc_16 (by decide +kernel)
theorem d_Reader_readTown_78 : decode b_Reader_readTown 78 = .ok (.invokevirtual 97, 3) := dc_182 (by decide +kernel)
theorem d_Reader_readTown_81 : decode b_Reader_readTown 81 = .ok (.istore_n 2, 1) := dc_61 (by decide +kernel)
theorem d_Reader_readTown_82 : decode b_Reader_readTown 82 = .ok (.iload_n 2, 1) := dc_28 (by decide +kernel)
theorem d_Reader_readTown_83 : decode b_Reader_readTown 83 = .ok (.ifCond .ge 7, 3) := dc_156 (by decide +kernel)
theorem d_Reader_readTown_86 : decode b_Reader_readTown 86 = .ok (.iconst (-1), 1) := dc_2 (by decide +kernel)
theorem d_Reader_readTown_87 : decode b_Reader_readTown 87 = .ok (.goto 10, 3) := dc_167 (by decide +kernel)
theorem d_Reader_readTown_90 : decode b_Reader_readTown 90 = .ok (.aload_n 0, 1) := dc_42 (by decide +kernel)
theorem d_Reader_readTown_91 : decode b_Reader_readTown 91 = .ok (.iconst 1, 1) := dc_4 (by decide +kernel)
theorem d_Reader_readTown_92 : decode b_Reader_readTown 92 = .ok (.bipush 6, 2) := dc_16 (by decide +kernel)
theorem d_Reader_readTown_94 : decode b_Reader_readTown 94 = .ok (.invokevirtual 97, 3) := dc_182 (by decide +kernel)
theorem d_Reader_readTown_97 : decode b_Reader_readTown 97 = .ok (.istore_n 3, 1) := dc_62 (by decide +kernel)
theorem d_Reader_readTown_98 : decode b_Reader_readTown 98 = .ok (.iload_n 3, 1) := dc_29 (by decide +kernel)
theorem d_Reader_readTown_99 : decode b_Reader_readTown 99 = .ok (.ifCond .ge 5, 3) := dc_156 (by decide +kernel)
theorem d_Reader_readTown_102 : decode b_Reader_readTown 102 = .ok (.iconst 0, 1) := dc_3 (by decide +kernel)
theorem d_Reader_readTown_103 : decode b_Reader_readTown 103 = .ok (.ireturn, 1) := dc_172 (by decide +kernel)
theorem d_Reader_readTown_104 : decode b_Reader_readTown 104 = .ok (.aload_n 1, 1) := dc_43 (by decide +kernel)
theorem d_Reader_readTown_105 : decode b_Reader_readTown 105 = .ok (.iload_n 2, 1) := dc_28 (by decide +kernel)
theorem d_Reader_readTown_106 : decode b_Reader_readTown 106 = .ok (.putfield 101, 3) := dc_181 (by decide +kernel)
theorem d_Reader_readTown_109 : decode b_Reader_readTown 109 = .ok (.aload_n 1, 1) := dc_43 (by decide +kernel)
theorem d_Reader_readTown_110 : decode b_Reader_readTown 110 = .ok (.iload_n 3, 1) := dc_29 (by decide +kernel)
theorem d_Reader_readTown_111 : decode b_Reader_readTown 111 = .ok (.putfield 104, 3) := dc_181 (by decide +kernel)
theorem d_Reader_readTown_114 : decode b_Reader_readTown 114 = .ok (.iconst 1, 1) := dc_4 (by decide +kernel)
theorem d_Reader_readTown_115 : decode b_Reader_readTown 115 = .ok (.ireturn, 1) := dc_172 (by decide +kernel)
def t_Reader_readTown_L49 (k1 : Nat)  (M : Mem)  : Option (Mem × Int) := (qlet (t_Reader_refuse M 4 (M.1 46 4)) fun q22 => (some ((q22.1), (q22.2))))
def t_Reader_readTown_L97 (k1 : Nat)  (M : Mem) (v1_ : Int) (v2_ : Int) : Option (Mem × Int) := (if 0 ≤ v2_ then (qlet (setI M k1 11 v1_) fun M25 => (qlet (setI M25 k1 12 v2_) fun M26 => (some (M26, 1)))) else (some (M, 0)))
def t_Reader_readTown (M : Mem) (k1 : Nat) : Option (Mem × Int) := (if (M.1 46 7) = 0 then (if 0 < (M.1 46 6) then (t_Reader_readTown_L49 k1 M) else (if (M.2 k1 18) = 0 then (if (M.2 k1 19) = 0 then (if (M.1 k1 15) ≤ 0 then (qlet (setI M 46 7 1) fun M9 => (obind (t_Reader_goTo M9 (w32 ((M9.1 46 1) + 1))) fun q11 => (obind (t_Reader_takeNumber q11 1 8) fun q13 => (if 0 ≤ (q13.2) then (obind (t_Reader_takeNumber (q13.1) 1 6) fun q16 => (t_Reader_readTown_L97 k1 (q16.1) (q13.2) (q16.2))) else (t_Reader_readTown_L97 k1 (q13.1) (q13.2) (-1)))))) else (t_Reader_readTown_L49 k1 M)) else (t_Reader_readTown_L49 k1 M)) else (t_Reader_readTown_L49 k1 M))) else (qlet (t_Reader_refuse M 3 (M.1 46 4)) fun q19 => (some ((q19.1), (q19.2)))))
set_option maxHeartbeats 4000000 in
set_option maxRecDepth 100000 in
theorem k_Reader_readTown_L49 (l : Launch) {p : Program} {e : Env} {s : State} {m : MethodId} {below : List Frame} {meth : Method} {c : Code} {b n : Nat} {C : CT} (hlo : 191 ≤ n) (k1 : Nat) (hk1 : isTown k1) (F : Cx b p m c b_Reader_readTown 4 s ([.ref (b + 46), .ref (b + k1)] : List Value).toArray "WardFalls$Reader" C n 191) (hlk : meth.locks = false) (hr : meth.sig.returnType = some .boolean) {res : Mem × Int} (M : Mem)  (H : Heap) (locs : List Loc) (ls : Array Slot) (hS : St b C n M s H locs) (hl : lv_has ls 4 [(0, .ref (b + 46))]) (hT : t_Reader_readTown_L49 k1 M = some res) : W p l e (headSpec (wsM y_Reader_readTown b_Reader_readTown 4 (some .boolean)) (rmD 4)).room s m ([.ref (b + 46), .ref (b + k1)] : List Value).toArray below meth c H locs 0 0 (MQ below (QZ b C n res.1 res.2) ([.ref (b + 46), .ref (b + k1)] : List Value).toArray s 0 0 (frb b)) (F0 m 49 ls []) := by
  unfold t_Reader_readTown_L49 at hT
  refine lv_aload_n F.hx F.hb d_Reader_readTown_49 rfl (lv_at hl 0 rfl) ?_
  refine r_iconst F.hx F.hb d_Reader_readTown_50 ?_
  refine lv_aload_n F.hx F.hb d_Reader_readTown_51 rfl (lv_at hl 0 rfl) ?_
  refine r_get (v := vI (M.1 46 4)) (N := 11) (T := T8) (j := 4) F hS (show 46 < 191 by decide) (show shK 46 = 12 from rfl) (show shN 46 = 11 from rfl) rfl (Nat.le_of_ble_eq_true rfl) ing8 mw_234 (fv_int rfl) d_Reader_readTown_52 ?_
  have i21 := hS.rng 46 4
  obtain ⟨q22, hq22⟩ : ∃ q, q = (t_Reader_refuse M 4 (M.1 46 4)) := ⟨_, rfl⟩
  replace hT := qlet_eq hT hq22
  refine r_backZ F hS (r_runV (k := 46) (N := 11) (T := T8) (As := [vI 4, vI (M.1 46 4)]) F hS (show 46 < 191 by decide) (show shK 46 = 12 from rfl) rfl (c_Reader_refuse l F.2.2.1 M 4 (M.1 46 4) (inr_c rfl) i21 _ hq22.symm) gs_Reader_47 hd_Reader_refuse ⟨Nat.le_of_ble_eq_true rfl, Nat.le_of_ble_eq_true rfl⟩ rfl hl.1 (Nat.le_of_ble_eq_true rfl) ⟨Nat.zero_le _, Nat.zero_le _⟩ rfl d_Reader_readTown_55) (fun H locs hS h23 => ?_)
  cases hT
  exact r_zret F hlk hr hS h23 d_Reader_readTown_58
set_option maxHeartbeats 4000000 in
set_option maxRecDepth 100000 in
theorem k_Reader_readTown_L97 (l : Launch) {p : Program} {e : Env} {s : State} {m : MethodId} {below : List Frame} {meth : Method} {c : Code} {b n : Nat} {C : CT} (hlo : 191 ≤ n) (k1 : Nat) (hk1 : isTown k1) (F : Cx b p m c b_Reader_readTown 4 s ([.ref (b + 46), .ref (b + k1)] : List Value).toArray "WardFalls$Reader" C n 191) (hlk : meth.locks = false) (hr : meth.sig.returnType = some .boolean) {res : Mem × Int} (M : Mem) (v1_ : Int) (hv1_ : InR v1_) (v2_ : Int) (hv2_ : InR v2_) (H : Heap) (locs : List Loc) (ls : Array Slot) (hS : St b C n M s H locs) (hl : lv_has ls 4 [(1, .ref (b + k1)), (2, vI v1_)]) (hT : t_Reader_readTown_L97 k1 M v1_ v2_ = some res) : W p l e (headSpec (wsM y_Reader_readTown b_Reader_readTown 4 (some .boolean)) (rmD 4)).room s m ([.ref (b + 46), .ref (b + k1)] : List Value).toArray below meth c H locs 0 0 (MQ below (QZ b C n res.1 res.2) ([.ref (b + 46), .ref (b + k1)] : List Value).toArray s 0 0 (frb b)) (F0 m 97 ls [vI v2_]) := by
  unfold t_Reader_readTown_L97 at hT
  refine lv_istore_n (lv' := [(3, vI v2_), (1, .ref (b + k1)), (2, vI v1_)]) F.hx F.hb d_Reader_readTown_97 rfl hl (Nat.le_of_ble_eq_true rfl) rfl (fun ls hl => ?_)
  refine lv_iload_n F.hx F.hb d_Reader_readTown_98 rfl (lv_at hl 0 rfl) ?_
  refine r_if_ge (tgt := 104) F.hx F.hb hv2_ d_Reader_readTown_99 (by decide) (fun c24 => ?_) (fun c24 => ?_)
  · replace hT := (if_pos c24).symm.trans hT
    refine lv_aload_n F.hx F.hb d_Reader_readTown_104 rfl (lv_at hl 1 rfl) ?_
    refine lv_iload_n F.hx F.hb d_Reader_readTown_105 rfl (lv_at hl 2 rfl) ?_
    refine r_putI (N := 20) (T := T11) (j := 11) F hS (Town_lt hk1) (Town_sh hk1) (Town_N hk1) rfl (Nat.le_of_ble_eq_true rfl) ing11 tyok11 nm11 rfl rfl rfl rfl rfl (Town_dyn hk1 _) mw_122 hv1_ d_Reader_readTown_106 (fun H locs hS => ?_)
    obtain ⟨M25, eM25⟩ : ∃ q, q = (setI M k1 11 v1_) := ⟨_, rfl⟩
    replace hS : St b C n M25 s H locs := by rw [eM25]; exact hS
    replace hT := qlet_eq hT eM25
    refine lv_aload_n F.hx F.hb d_Reader_readTown_109 rfl (lv_at hl 1 rfl) ?_
    refine lv_iload_n F.hx F.hb d_Reader_readTown_110 rfl (lv_at hl 0 rfl) ?_
    refine r_putI (N := 20) (T := T11) (j := 12) F hS (Town_lt hk1) (Town_sh hk1) (Town_N hk1) rfl (Nat.le_of_ble_eq_true rfl) ing11 tyok11 nm11 rfl rfl rfl rfl rfl (Town_dyn hk1 _) mw_125 hv2_ d_Reader_readTown_111 (fun H locs hS => ?_)
    obtain ⟨M26, eM26⟩ : ∃ q, q = (setI M25 k1 12 v2_) := ⟨_, rfl⟩
    replace hS : St b C n M26 s H locs := by rw [eM26]; exact hS
    replace hT := qlet_eq hT eM26
    refine r_iconst F.hx F.hb d_Reader_readTown_114 ?_
    cases hT
    exact r_zret F hlk hr hS (Or.inr rfl) d_Reader_readTown_115
  · replace hT := (if_neg c24).symm.trans hT
    refine r_iconst F.hx F.hb d_Reader_readTown_102 ?_
    cases hT
    exact r_zret F hlk hr hS (Or.inl rfl) d_Reader_readTown_103
set_option maxHeartbeats 4000000 in
set_option maxRecDepth 100000 in
theorem c_Reader_readTown (l : Launch) {b n : Nat} {C : CT} (hlo : 191 ≤ n) (M : Mem) (k1 : Nat) (hk1 : isTown k1) (res : Mem × Int) (hT : t_Reader_readTown M k1 = some res) : CM l b C n 4 y_Reader_readTown b_Reader_readTown 4 (some .boolean) [.ref (b + 46), .ref (b + k1)] M (QZ b C n res.1 res.2) := by
  refine CM.of (lo := 191) (ow := "WardFalls$Reader") (by decide) rfl (Nat.le_of_ble_eq_true rfl) hlo (fun p e s m below meth c F hlk hr hS ls hl => ?_)
  have hl : lv_has ls 4 [(0, .ref (b + 46)), (1, .ref (b + k1))] := hl
  unfold t_Reader_readTown at hT
  refine lv_aload_n F.hx F.hb d_Reader_readTown_0 rfl (lv_at hl 0 rfl) ?_
  refine r_get (v := vI (M.1 46 7)) (N := 11) (T := T8) (j := 7) F hS (show 46 < 191 by decide) (show shK 46 = 12 from rfl) (show shN 46 = 11 from rfl) rfl (Nat.le_of_ble_eq_true rfl) ing8 mw_237 (fv_int rfl) d_Reader_readTown_1 ?_
  have i1 := hS.rng 46 7
  refine r_if_eq (tgt := 17) F.hx F.hb i1 d_Reader_readTown_4 (by decide) (fun c2 => ?_) (fun c2 => ?_)
  · replace hT := (if_pos c2).symm.trans hT
    refine lv_aload_n F.hx F.hb d_Reader_readTown_17 rfl (lv_at hl 0 rfl) ?_
    refine r_get (v := vI (M.1 46 6)) (N := 11) (T := T8) (j := 6) F hS (show 46 < 191 by decide) (show shK 46 = 12 from rfl) (show shN 46 = 11 from rfl) rfl (Nat.le_of_ble_eq_true rfl) ing8 mw_236 (fv_int rfl) d_Reader_readTown_18 ?_
    have i3 := hS.rng 46 6
    refine r_if_gt (tgt := 49) F.hx F.hb i3 d_Reader_readTown_21 (by decide) (fun c4 => ?_) (fun c4 => ?_)
    · replace hT := (if_pos c4).symm.trans hT
      exact k_Reader_readTown_L49 l hlo k1 hk1 F hlk hr M _ _ _ hS (lv_sub hl [0] rfl) hT
    · replace hT := (if_neg c4).symm.trans hT
      refine lv_aload_n F.hx F.hb d_Reader_readTown_24 rfl (lv_at hl 1 rfl) ?_
      refine r_get (v := .long (M.2 k1 18)) (N := 20) (T := T11) (j := 18) F hS (Town_lt hk1) (Town_sh hk1) (Town_N hk1) rfl (Nat.le_of_ble_eq_true rfl) ing11 mw_153 (fv_long rfl) d_Reader_readTown_25 ?_
      refine lv_lconst (v := 0) F.hx F.hb d_Reader_readTown_28 rfl ?_
      refine W.lcmp F.hx F.hb d_Reader_readTown_29 ?_
      refine r_lif_ne (tgt := 49) F.hx F.hb  d_Reader_readTown_30 (by decide) (fun c5 => ?_) (fun c5 => ?_)
      · replace hT := (if_neg c5).symm.trans hT
        exact k_Reader_readTown_L49 l hlo k1 hk1 F hlk hr M _ _ _ hS (lv_sub hl [0] rfl) hT
      · replace hT := (if_pos c5).symm.trans hT
        refine lv_aload_n F.hx F.hb d_Reader_readTown_33 rfl (lv_at hl 1 rfl) ?_
        refine r_get (v := .long (M.2 k1 19)) (N := 20) (T := T11) (j := 19) F hS (Town_lt hk1) (Town_sh hk1) (Town_N hk1) rfl (Nat.le_of_ble_eq_true rfl) ing11 mw_155 (fv_long rfl) d_Reader_readTown_34 ?_
        refine lv_lconst (v := 0) F.hx F.hb d_Reader_readTown_37 rfl ?_
        refine W.lcmp F.hx F.hb d_Reader_readTown_38 ?_
        refine r_lif_ne (tgt := 49) F.hx F.hb  d_Reader_readTown_39 (by decide) (fun c6 => ?_) (fun c6 => ?_)
        · replace hT := (if_neg c6).symm.trans hT
          exact k_Reader_readTown_L49 l hlo k1 hk1 F hlk hr M _ _ _ hS (lv_sub hl [0] rfl) hT
        · replace hT := (if_pos c6).symm.trans hT
          refine lv_aload_n F.hx F.hb d_Reader_readTown_42 rfl (lv_at hl 1 rfl) ?_
          refine r_get (v := vI (M.1 k1 15)) (N := 20) (T := T11) (j := 15) F hS (Town_lt hk1) (Town_sh hk1) (Town_N hk1) rfl (Nat.le_of_ble_eq_true rfl) ing11 mw_142 (fv_int rfl) d_Reader_readTown_43 ?_
          have i7 := hS.rng k1 15
          refine r_if_le (tgt := 59) F.hx F.hb i7 d_Reader_readTown_46 (by decide) (fun c8 => ?_) (fun c8 => ?_)
          · replace hT := (if_pos c8).symm.trans hT
            refine lv_aload_n F.hx F.hb d_Reader_readTown_59 rfl (lv_at hl 0 rfl) ?_
            refine r_iconst F.hx F.hb d_Reader_readTown_60 ?_
            refine r_putI (N := 11) (T := T8) (j := 7) F hS (show 46 < 191 by decide) (show shK 46 = 12 from rfl) (show shN 46 = 11 from rfl) rfl (Nat.le_of_ble_eq_true rfl) ing8 tyok8 nm8 rfl rfl (nar_z (Or.inr rfl)) (fit_z (Or.inr rfl)) rfl rfl mw_237 (inr_c rfl) d_Reader_readTown_61 (fun H locs hS => ?_)
            obtain ⟨M9, eM9⟩ : ∃ q, q = (setI M 46 7 1) := ⟨_, rfl⟩
            replace hS : St b C n M9 s H locs := by rw [eM9]; exact hS
            replace hT := qlet_eq hT eM9
            refine lv_aload_n F.hx F.hb d_Reader_readTown_64 rfl (lv_at hl 0 rfl) ?_
            refine lv_aload_n F.hx F.hb d_Reader_readTown_65 rfl (lv_at hl 0 rfl) ?_
            refine r_get (v := vI (M9.1 46 1)) (N := 11) (T := T8) (j := 1) F hS (show 46 < 191 by decide) (show shK 46 = 12 from rfl) (show shN 46 = 11 from rfl) rfl (Nat.le_of_ble_eq_true rfl) ing8 mw_231 (fv_int rfl) d_Reader_readTown_66 ?_
            have i10 := hS.rng 46 1
            refine r_iconst F.hx F.hb d_Reader_readTown_69 ?_
            refine r_iadd F.hx F.hb d_Reader_readTown_70 ?_
            obtain ⟨q11, hq11, hT⟩ := q_obind hT
            refine r_backV F hS (r_runV (k := 46) (N := 11) (T := T8) (As := [vI (w32 ((M9.1 46 1) + 1))]) F hS (show 46 < 191 by decide) (show shK 46 = 12 from rfl) rfl (c_Reader_goTo l F.2.2.1 M9 (w32 ((M9.1 46 1) + 1)) (inr_w32 _) _ hq11) gs_Reader_80 hd_Reader_goTo ⟨Nat.le_of_ble_eq_true rfl, Nat.le_of_ble_eq_true rfl⟩ rfl hl.1 (Nat.le_of_ble_eq_true rfl) ⟨Nat.zero_le _, Nat.zero_le _⟩ rfl d_Reader_readTown_71) (fun H locs hS => ?_)
            refine lv_aload_n F.hx F.hb d_Reader_readTown_74 rfl (lv_at hl 0 rfl) ?_
            refine r_iconst F.hx F.hb d_Reader_readTown_75 ?_
            refine r_bipush F.hx F.hb d_Reader_readTown_76 rfl ?_
            obtain ⟨q13, hq13, hT⟩ := q_obind hT
            refine r_backI F hS (r_runV (k := 46) (N := 11) (T := T8) (As := [vI 1, vI 8]) F hS (show 46 < 191 by decide) (show shK 46 = 12 from rfl) rfl (c_Reader_takeNumber l F.2.2.1 q11 1 8 (inr_c rfl) (inr_c rfl) _ hq13) gs_Reader_97 hd_Reader_takeNumber ⟨Nat.le_of_ble_eq_true rfl, Nat.le_of_ble_eq_true rfl⟩ rfl hl.1 (Nat.le_of_ble_eq_true rfl) ⟨Nat.zero_le _, Nat.zero_le _⟩ rfl d_Reader_readTown_78) (fun H locs hS h14 => ?_)
            refine lv_istore_n (lv' := [(2, vI (q13.2)), (0, .ref (b + 46)), (1, .ref (b + k1))]) F.hx F.hb d_Reader_readTown_81 rfl hl (Nat.le_of_ble_eq_true rfl) rfl (fun ls hl => ?_)
            refine lv_iload_n F.hx F.hb d_Reader_readTown_82 rfl (lv_at hl 0 rfl) ?_
            refine r_if_ge (tgt := 90) F.hx F.hb h14 d_Reader_readTown_83 (by decide) (fun c15 => ?_) (fun c15 => ?_)
            · replace hT := (if_pos c15).symm.trans hT
              refine lv_aload_n F.hx F.hb d_Reader_readTown_90 rfl (lv_at hl 1 rfl) ?_
              refine r_iconst F.hx F.hb d_Reader_readTown_91 ?_
              refine r_bipush F.hx F.hb d_Reader_readTown_92 rfl ?_
              obtain ⟨q16, hq16, hT⟩ := q_obind hT
              refine r_backI F hS (r_runV (k := 46) (N := 11) (T := T8) (As := [vI 1, vI 6]) F hS (show 46 < 191 by decide) (show shK 46 = 12 from rfl) rfl (c_Reader_takeNumber l F.2.2.1 (q13.1) 1 6 (inr_c rfl) (inr_c rfl) _ hq16) gs_Reader_97 hd_Reader_takeNumber ⟨Nat.le_of_ble_eq_true rfl, Nat.le_of_ble_eq_true rfl⟩ rfl hl.1 (Nat.le_of_ble_eq_true rfl) ⟨Nat.zero_le _, Nat.zero_le _⟩ rfl d_Reader_readTown_94) (fun H locs hS h17 => ?_)
              exact k_Reader_readTown_L97 l hlo k1 hk1 F hlk hr (q16.1) (q13.2) h14 (q16.2) h17 _ _ _ hS (lv_sub hl [2, 0] rfl) hT
            · replace hT := (if_neg c15).symm.trans hT
              refine r_iconst F.hx F.hb d_Reader_readTown_86 ?_
              refine lv_goto (tgt := 97) F.hx F.hb d_Reader_readTown_87 (by decide) ?_
              exact k_Reader_readTown_L97 l hlo k1 hk1 F hlk hr (q13.1) (q13.2) h14 (-1) (inr_c rfl) _ _ _ hS (lv_sub hl [2, 0] rfl) hT
          · replace hT := (if_neg c8).symm.trans hT
            exact k_Reader_readTown_L49 l hlo k1 hk1 F hlk hr M _ _ _ hS (lv_sub hl [0] rfl) hT
  · replace hT := (if_neg c2).symm.trans hT
    refine lv_aload_n F.hx F.hb d_Reader_readTown_7 rfl (lv_at hl 0 rfl) ?_
    refine r_iconst F.hx F.hb d_Reader_readTown_8 ?_
    refine lv_aload_n F.hx F.hb d_Reader_readTown_9 rfl (lv_at hl 0 rfl) ?_
    refine r_get (v := vI (M.1 46 4)) (N := 11) (T := T8) (j := 4) F hS (show 46 < 191 by decide) (show shK 46 = 12 from rfl) (show shN 46 = 11 from rfl) rfl (Nat.le_of_ble_eq_true rfl) ing8 mw_234 (fv_int rfl) d_Reader_readTown_10 ?_
    have i18 := hS.rng 46 4
    obtain ⟨q19, hq19⟩ : ∃ q, q = (t_Reader_refuse M 3 (M.1 46 4)) := ⟨_, rfl⟩
    replace hT := qlet_eq hT hq19
    refine r_backZ F hS (r_runV (k := 46) (N := 11) (T := T8) (As := [vI 3, vI (M.1 46 4)]) F hS (show 46 < 191 by decide) (show shK 46 = 12 from rfl) rfl (c_Reader_refuse l F.2.2.1 M 3 (M.1 46 4) (inr_c rfl) i18 _ hq19.symm) gs_Reader_47 hd_Reader_refuse ⟨Nat.le_of_ble_eq_true rfl, Nat.le_of_ble_eq_true rfl⟩ rfl hl.1 (Nat.le_of_ble_eq_true rfl) ⟨Nat.zero_le _, Nat.zero_le _⟩ rfl d_Reader_readTown_13) (fun H locs hS h20 => ?_)
    cases hT
    exact r_zret F hlk hr hS h20 d_Reader_readTown_16
theorem d_WF_indexOf_0 : decode b_WF_indexOf 0 = .ok (.iconst 0, 1) := dc_3 (by decide +kernel)
theorem d_WF_indexOf_1 : decode b_WF_indexOf 1 = .ok (.istore_n 3, 1) := dc_62 (by decide +kernel)
theorem d_WF_indexOf_2 : decode b_WF_indexOf 2 = .ok (.iload_n 3, 1) := dc_29 (by decide +kernel)
theorem d_WF_indexOf_3 : decode b_WF_indexOf 3 = .ok (.iload_n 1, 1) := dc_27 (by decide +kernel)
theorem d_WF_indexOf_4 : decode b_WF_indexOf 4 = .ok (.if_icmp .ge 24, 3) := dc_162 (by decide +kernel)
theorem d_WF_indexOf_7 : decode b_WF_indexOf 7 = .ok (.iload_n 3, 1) := dc_29 (by decide +kernel)
theorem d_WF_indexOf_8 : decode b_WF_indexOf 8 = .ok (.aload_n 0, 1) := dc_42 (by decide +kernel)
theorem d_WF_indexOf_9 : decode b_WF_indexOf 9 = .ok (.arraylength, 1) := dc_190 (by decide +kernel)
theorem d_WF_indexOf_10 : decode b_WF_indexOf 10 = .ok (.if_icmp .ge 18, 3) := dc_162 (by decide +kernel)
theorem d_WF_indexOf_13 : decode b_WF_indexOf 13 = .ok (.aload_n 0, 1) := dc_42 (by decide +kernel)
theorem d_WF_indexOf_14 : decode b_WF_indexOf 14 = .ok (.iload_n 3, 1) := dc_29 (by decide +kernel)
theorem d_WF_indexOf_15 : decode b_WF_indexOf 15 = .ok (.iaload, 1) := dc_46 (by decide +kernel)
theorem d_WF_indexOf_16 : decode b_WF_indexOf 16 = .ok (.iload_n 2, 1) := dc_28 (by decide +kernel)
theorem d_WF_indexOf_17 : decode b_WF_indexOf 17 = .ok (.if_icmp .ne 5, 3) := dc_160 (by decide +kernel)
theorem d_WF_indexOf_20 : decode b_WF_indexOf 20 = .ok (.iload_n 3, 1) := dc_29 (by decide +kernel)
theorem d_WF_indexOf_21 : decode b_WF_indexOf 21 = .ok (.ireturn, 1) := dc_172 (by decide +kernel)
theorem d_WF_indexOf_22 : decode b_WF_indexOf 22 = .ok (.iinc 3 1, 3) := dc_132 (by decide +kernel)
theorem d_WF_indexOf_25 : decode b_WF_indexOf 25 = .ok (.goto (-23), 3) := dc_167 (by decide +kernel)
theorem d_WF_indexOf_28 : decode b_WF_indexOf 28 = .ok (.iconst (-1), 1) := dc_2 (by decide +kernel)
theorem d_WF_indexOf_29 : decode b_WF_indexOf 29 = .ok (.ireturn, 1) := dc_172 (by decide +kernel)
def t_WF_indexOf_L2 (r1 : Nat) (N1 : Nat) (x2 : Int) (x3 : Int)  : Nat → Mem → Int → Option (Int)
  | 0, _, _ => none
  | fu + 1, M, v3_ => (if x2 ≤ v3_ then (some (-1)) else (if (N1 : Int) ≤ v3_ then (some (-1)) else (qguard (0 ≤ v3_ ∧ v3_ < (N1 : Int)) (if (M.1 r1 v3_) = x3 then (some v3_) else (t_WF_indexOf_L2 r1 N1 x2 x3 fu M (w32 (v3_ + 1)))))))
def t_WF_indexOf (M : Mem) (r1 : Nat) (N1 : Nat) (x2 : Int) (x3 : Int) : Option (Int) := (t_WF_indexOf_L2 r1 N1 x2 x3 FU M 0)
set_option maxHeartbeats 4000000 in
set_option maxRecDepth 100000 in
theorem k_WF_indexOf_L2 (l : Launch) {p : Program} {e : Env} {s : State} {m : MethodId} {below : List Frame} {meth : Method} {c : Code} {b n : Nat} {C : CT} (hlo : 191 ≤ n) (r1 : Nat) (N1 : Nat) (x2 : Int) (x3 : Int) (hr1 : arrP 0 r1 N1 191) (hx2 : InR x2) (hx3 : InR x3) (F : Cx b p m c b_WF_indexOf 4 s ([.ref (b + r1), vI x2, vI x3] : List Value).toArray "WardFalls" C n 191) (hlk : meth.locks = false) (hr : meth.sig.returnType = some .int) {res : Int} : ∀ (fu : Nat) (M : Mem) (v3_ : Int) (hv3_ : InR v3_) (H : Heap) (locs : List Loc) (ls : Array Slot), St b C n M s H locs → lv_has ls 4 [(0, .ref (b + r1)), (1, vI x2), (2, vI x3), (3, vI v3_)] → t_WF_indexOf_L2 r1 N1 x2 x3 fu M v3_ = some res → W p l e (headSpec (wsM y_WF_indexOf b_WF_indexOf 4 (some .int)) (rmD 0)).room s m ([.ref (b + r1), vI x2, vI x3] : List Value).toArray below meth c H locs 0 0 (MQ below (QI b C n M res) ([.ref (b + r1), vI x2, vI x3] : List Value).toArray s 0 0 (frb b)) (F0 m 2 ls []) := by
  intro fu
  induction fu with
  | zero => intro M v3_ hv3_ H locs ls hS hl hT; exact absurd hT (by simp [t_WF_indexOf_L2])
  | succ fu ih =>
    intro M v3_ hv3_ H locs ls hS hl hT
    rw [t_WF_indexOf_L2] at hT
    refine lv_iload_n F.hx F.hb d_WF_indexOf_2 rfl (lv_at hl 3 rfl) ?_
    refine lv_iload_n F.hx F.hb d_WF_indexOf_3 rfl (lv_at hl 1 rfl) ?_
    refine r_icmp_ge (tgt := 28) F.hx F.hb hv3_ hx2 d_WF_indexOf_4 (by decide) (fun c1 => ?_) (fun c1 => ?_)
    · replace hT := (if_pos c1).symm.trans hT
      refine r_iconst F.hx F.hb d_WF_indexOf_28 ?_
      cases hT
      exact r_iret F hlk hr rfl hS (inr_c rfl) d_WF_indexOf_29
    · replace hT := (if_neg c1).symm.trans hT
      refine lv_iload_n F.hx F.hb d_WF_indexOf_7 rfl (lv_at hl 3 rfl) ?_
      refine lv_aload_n F.hx F.hb d_WF_indexOf_8 rfl (lv_at hl 0 rfl) ?_
      refine r_alen F hS hr1.2.2 (by rw [hr1.1]; decide) hr1.2.1 d_WF_indexOf_9 rfl ?_
      refine r_icmp_ge (tgt := 28) F.hx F.hb hv3_ (inr_len hr1) d_WF_indexOf_10 (by decide) (fun c2 => ?_) (fun c2 => ?_)
      · replace hT := (if_pos c2).symm.trans hT
        refine r_iconst F.hx F.hb d_WF_indexOf_28 ?_
        cases hT
        exact r_iret F hlk hr rfl hS (inr_c rfl) d_WF_indexOf_29
      · replace hT := (if_neg c2).symm.trans hT
        refine lv_aload_n F.hx F.hb d_WF_indexOf_13 rfl (lv_at hl 0 rfl) ?_
        refine lv_iload_n F.hx F.hb d_WF_indexOf_14 rfl (lv_at hl 3 rfl) ?_
        obtain ⟨⟨g3a, g3b⟩, hT⟩ := q_guard hT
        refine r_iald F hS hr1.2.2 hr1.1 hr1.2.1 hv3_ g3a g3b d_WF_indexOf_15 ?_
        have i4 := hS.rng r1 v3_
        refine lv_iload_n F.hx F.hb d_WF_indexOf_16 rfl (lv_at hl 2 rfl) ?_
        refine r_icmp_ne (tgt := 22) F.hx F.hb i4 hx3 d_WF_indexOf_17 (by decide) (fun c5 => ?_) (fun c5 => ?_)
        · replace hT := (if_neg c5).symm.trans hT
          refine lv_iinc (v := Int32.ofInt (w32 (v3_ + 1))) (lv' := [(3, vI (w32 (v3_ + 1))), (0, .ref (b + r1)), (1, vI x2), (2, vI x3)]) F.hx F.hb d_WF_indexOf_22 hl (k := 3) rfl (q_of_add _ _) (Nat.le_of_ble_eq_true rfl) rfl (fun ls hl => ?_)
          refine lv_goto (tgt := 2) F.hx F.hb d_WF_indexOf_25 (by decide) ?_
          exact ih M (w32 (v3_ + 1)) (inr_w32 _) _ _ _ hS (lv_sub hl [1, 2, 3, 0] rfl) hT
        · replace hT := (if_pos c5).symm.trans hT
          refine lv_iload_n F.hx F.hb d_WF_indexOf_20 rfl (lv_at hl 3 rfl) ?_
          cases hT
          exact r_iret F hlk hr rfl hS hv3_ d_WF_indexOf_21
set_option maxHeartbeats 4000000 in
set_option maxRecDepth 100000 in
theorem c_WF_indexOf (l : Launch) {b n : Nat} {C : CT} (hlo : 191 ≤ n) (M : Mem) (r1 : Nat) (N1 : Nat) (x2 : Int) (x3 : Int) (hr1 : arrP 0 r1 N1 191) (hx2 : InR x2) (hx3 : InR x3) (res : Int) (hT : t_WF_indexOf M r1 N1 x2 x3 = some res) : CM l b C n 0 y_WF_indexOf b_WF_indexOf 4 (some .int) [.ref (b + r1), vI x2, vI x3] M (QI b C n M res) := by
  refine CM.of (lo := 191) (ow := "WardFalls") (by decide) rfl (Nat.le_of_ble_eq_true rfl) hlo (fun p e s m below meth c F hlk hr hS ls hl => ?_)
  have hl : lv_has ls 4 [(0, .ref (b + r1)), (1, vI x2), (2, vI x3)] := hl
  unfold t_WF_indexOf at hT
  refine r_iconst F.hx F.hb d_WF_indexOf_0 ?_
  refine lv_istore_n (lv' := [(3, vI 0), (0, .ref (b + r1)), (1, vI x2), (2, vI x3)]) F.hx F.hb d_WF_indexOf_1 rfl hl (Nat.le_of_ble_eq_true rfl) rfl (fun ls hl => ?_)
  exact k_WF_indexOf_L2 l hlo r1 N1 x2 x3 hr1 hx2 hx3 F hlk hr FU M 0 (inr_c rfl) _ _ _ hS (lv_sub hl [1, 2, 3, 0] rfl) hT
theorem d_Reader_takeNewName_0 : decode b_Reader_takeNewName 0 = .ok (.aload_n 0, 1) := dc_42 (by decide +kernel)
theorem d_Reader_takeNewName_1 : decode b_Reader_takeNewName 1 = .ok (.getfield 131, 3) := dc_180 (by decide +kernel)
theorem d_Reader_takeNewName_4 : decode b_Reader_takeNewName 4 = .ok (.istore_n 3, 1) := dc_62 (by decide +kernel)
theorem d_Reader_takeNewName_5 : decode b_Reader_takeNewName 5 = .ok (.aload_n 0, 1) := dc_42 (by decide +kernel)
theorem d_Reader_takeNewName_6 : decode b_Reader_takeNewName 6 = .ok (.bipush 30, 2) := dc_16 (by decide +kernel)
theorem d_Reader_takeNewName_8 : decode b_Reader_takeNewName 8 = .ok (.invokevirtual 51, 3) := dc_182 (by decide +kernel)
theorem d_Reader_takeNewName_11 : decode b_Reader_takeNewName 11 = .ok (.ifCond .ne 5, 3) := dc_154 (by decide +kernel)
theorem d_Reader_takeNewName_14 : decode b_Reader_takeNewName 14 = .ok (.iconst (-1), 1) := dc_2 (by decide +kernel)
theorem d_Reader_takeNewName_15 : decode b_Reader_takeNewName 15 = .ok (.ireturn, 1) := dc_172 (by decide +kernel)
theorem d_Reader_takeNewName_16 : decode b_Reader_takeNewName 16 = .ok (.aload_n 1, 1) := dc_43 (by decide +kernel)
theorem d_Reader_takeNewName_17 : decode b_Reader_takeNewName 17 = .ok (.iload_n 2, 1) := dc_28 (by decide +kernel)
theorem d_Reader_takeNewName_18 : decode b_Reader_takeNewName 18 = .ok (.iload_n 3, 1) := dc_29 (by decide +kernel)
theorem d_Reader_takeNewName_19 : decode b_Reader_takeNewName 19 = .ok (.invokestatic 134, 3) := dc_184 (by decide +kernel)
theorem d_Reader_takeNewName_22 : decode b_Reader_takeNewName 22 = .ok (.ifCond .lt 15, 3) := dc_155 (by decide +kernel)
theorem d_Reader_takeNewName_25 : decode b_Reader_takeNewName 25 = .ok (.aload_n 0, 1) := dc_42 (by decide +kernel)
theorem d_Reader_takeNewName_26 : decode b_Reader_takeNewName 26 = .ok (.iconst 3, 1) := dc_6 (by decide +kernel)
theorem d_Reader_takeNewName_27 : decode b_Reader_takeNewName 27 = .ok (.aload_n 0, 1) := dc_42 (by decide +kernel)
theorem d_Reader_takeNewName_28 : decode b_Reader_takeNewName 28 = .ok (.getfield 138, 3) := dc_180 (by decide +kernel)
theorem d_Reader_takeNewName_31 : decode b_Reader_takeNewName 31 = .ok (.invokevirtual 47, 3) := dc_182 (by decide +kernel)
theorem d_Reader_takeNewName_34 : decode b_Reader_takeNewName 34 = .ok (.pop, 1) := dc_87 (by decide +kernel)
theorem d_Reader_takeNewName_35 : decode b_Reader_takeNewName 35 = .ok (.iconst (-1), 1) := dc_2 (by decide +kernel)
theorem d_Reader_takeNewName_36 : decode b_Reader_takeNewName 36 = .ok (.ireturn, 1) := dc_172 (by decide +kernel)
theorem d_Reader_takeNewName_37 : decode b_Reader_takeNewName 37 = .ok (.iload_n 3, 1) := dc_29 (by decide +kernel)
theorem d_Reader_takeNewName_38 : decode b_Reader_takeNewName 38 = .ok (.ireturn, 1) := dc_172 (by decide +kernel)
def t_Reader_takeNewName (M : Mem) (r1 : Nat) (N1 : Nat) (x2 : Int) : Option (Mem × Int) := (obind (t_Reader_take M 30) fun q2 => (if (q2.2) = 0 then (some ((q2.1), (-1))) else (obind (t_WF_indexOf (q2.1) r1 N1 x2 (M.1 46 3)) fun q5 => (if q5 < 0 then (some ((q2.1), (M.1 46 3))) else (qlet (t_Reader_refuse (q2.1) 3 ((q2.1).1 46 5)) fun q9 => (some ((q9.1), (-1))))))))
set_option maxHeartbeats 4000000 in
set_option maxRecDepth 100000 in
theorem c_Reader_takeNewName (l : Launch) {b n : Nat} {C : CT} (hlo : 191 ≤ n) (M : Mem) (r1 : Nat) (N1 : Nat) (x2 : Int) (hr1 : arrP 0 r1 N1 191) (hx2 : InR x2) (res : Mem × Int) (hT : t_Reader_takeNewName M r1 N1 x2 = some res) : CM l b C n 3 y_Reader_takeNewName b_Reader_takeNewName 4 (some .int) [.ref (b + 46), .ref (b + r1), vI x2] M (QI b C n res.1 res.2) := by
  refine CM.of (lo := 191) (ow := "WardFalls$Reader") (by decide) rfl (Nat.le_of_ble_eq_true rfl) hlo (fun p e s m below meth c F hlk hr hS ls hl => ?_)
  have hl : lv_has ls 4 [(0, .ref (b + 46)), (1, .ref (b + r1)), (2, vI x2)] := hl
  unfold t_Reader_takeNewName at hT
  refine lv_aload_n F.hx F.hb d_Reader_takeNewName_0 rfl (lv_at hl 0 rfl) ?_
  refine r_get (v := vI (M.1 46 3)) (N := 11) (T := T8) (j := 3) F hS (show 46 < 191 by decide) (show shK 46 = 12 from rfl) (show shN 46 = 11 from rfl) rfl (Nat.le_of_ble_eq_true rfl) ing8 mw_233 (fv_int rfl) d_Reader_takeNewName_1 ?_
  have i1 := hS.rng 46 3
  refine lv_istore_n (lv' := [(3, vI (M.1 46 3)), (0, .ref (b + 46)), (1, .ref (b + r1)), (2, vI x2)]) F.hx F.hb d_Reader_takeNewName_4 rfl hl (Nat.le_of_ble_eq_true rfl) rfl (fun ls hl => ?_)
  refine lv_aload_n F.hx F.hb d_Reader_takeNewName_5 rfl (lv_at hl 1 rfl) ?_
  refine r_bipush F.hx F.hb d_Reader_takeNewName_6 rfl ?_
  obtain ⟨q2, hq2, hT⟩ := q_obind hT
  refine r_backZ F hS (r_runV (k := 46) (N := 11) (T := T8) (As := [vI 30]) F hS (show 46 < 191 by decide) (show shK 46 = 12 from rfl) rfl (c_Reader_take l F.2.2.1 M 30 (inr_c rfl) _ hq2) gs_Reader_51 hd_Reader_take ⟨Nat.le_of_ble_eq_true rfl, Nat.le_of_ble_eq_true rfl⟩ rfl hl.1 (Nat.le_of_ble_eq_true rfl) ⟨Nat.zero_le _, Nat.zero_le _⟩ rfl d_Reader_takeNewName_8) (fun H locs hS h3 => ?_)
  refine r_if_ne (tgt := 16) F.hx F.hb (inr_z h3) d_Reader_takeNewName_11 (by decide) (fun c4 => ?_) (fun c4 => ?_)
  · replace hT := (if_neg c4).symm.trans hT
    refine lv_aload_n F.hx F.hb d_Reader_takeNewName_16 rfl (lv_at hl 2 rfl) ?_
    refine lv_iload_n F.hx F.hb d_Reader_takeNewName_17 rfl (lv_at hl 3 rfl) ?_
    refine lv_iload_n F.hx F.hb d_Reader_takeNewName_18 rfl (lv_at hl 0 rfl) ?_
    obtain ⟨q5, hq5, hT⟩ := q_obind hT
    refine r_backI F hS (r_runSN (As := [.ref (b + r1), vI x2, vI (M.1 46 3)]) F hS (c_WF_indexOf l F.2.2.1 (q2.1) r1 N1 x2 (M.1 46 3) hr1 hx2 i1 _ hq5) mw_748 mw_747 mw_1 gs_Reader_134 hd_WF_indexOf ⟨Nat.le_of_ble_eq_true rfl, Nat.le_of_ble_eq_true rfl⟩ rfl hl.1 (Nat.le_of_ble_eq_true rfl) ⟨Nat.zero_le _, Nat.zero_le _⟩ rfl d_Reader_takeNewName_19) (fun H locs hS h6 => ?_)
    refine r_if_lt (tgt := 37) F.hx F.hb h6 d_Reader_takeNewName_22 (by decide) (fun c7 => ?_) (fun c7 => ?_)
    · replace hT := (if_pos c7).symm.trans hT
      refine lv_iload_n F.hx F.hb d_Reader_takeNewName_37 rfl (lv_at hl 0 rfl) ?_
      cases hT
      exact r_iret F hlk hr rfl hS i1 d_Reader_takeNewName_38
    · replace hT := (if_neg c7).symm.trans hT
      refine lv_aload_n F.hx F.hb d_Reader_takeNewName_25 rfl (lv_at hl 1 rfl) ?_
      refine r_iconst F.hx F.hb d_Reader_takeNewName_26 ?_
      refine lv_aload_n F.hx F.hb d_Reader_takeNewName_27 rfl (lv_at hl 1 rfl) ?_
      refine r_get (v := vI ((q2.1).1 46 5)) (N := 11) (T := T8) (j := 5) F hS (show 46 < 191 by decide) (show shK 46 = 12 from rfl) (show shN 46 = 11 from rfl) rfl (Nat.le_of_ble_eq_true rfl) ing8 mw_235 (fv_int rfl) d_Reader_takeNewName_28 ?_
      have i8 := hS.rng 46 5
      obtain ⟨q9, hq9⟩ : ∃ q, q = (t_Reader_refuse (q2.1) 3 ((q2.1).1 46 5)) := ⟨_, rfl⟩
      replace hT := qlet_eq hT hq9
      refine r_backZ F hS (r_runV (k := 46) (N := 11) (T := T8) (As := [vI 3, vI ((q2.1).1 46 5)]) F hS (show 46 < 191 by decide) (show shK 46 = 12 from rfl) rfl (c_Reader_refuse l F.2.2.1 (q2.1) 3 ((q2.1).1 46 5) (inr_c rfl) i8 _ hq9.symm) gs_Reader_47 hd_Reader_refuse ⟨Nat.le_of_ble_eq_true rfl, Nat.le_of_ble_eq_true rfl⟩ rfl hl.1 (Nat.le_of_ble_eq_true rfl) ⟨Nat.zero_le _, Nat.zero_le _⟩ rfl d_Reader_takeNewName_31) (fun H locs hS h10 => ?_)
      refine lv_pop F.hx F.hb d_Reader_takeNewName_34 rfl ?_
      refine r_iconst F.hx F.hb d_Reader_takeNewName_35 ?_
      cases hT
      exact r_iret F hlk hr rfl hS (inr_c rfl) d_Reader_takeNewName_36
  · replace hT := (if_pos c4).symm.trans hT
    refine r_iconst F.hx F.hb d_Reader_takeNewName_14 ?_
    cases hT
    exact r_iret F hlk hr rfl hS (inr_c rfl) d_Reader_takeNewName_15
theorem d_WF_isDown_0 : decode b_WF_isDown 0 = .ok (.iload_n 0, 1) := dc_26 (by decide +kernel)
theorem d_WF_isDown_1 : decode b_WF_isDown 1 = .ok (.ifCond .lt 12, 3) := dc_155 (by decide +kernel)
theorem d_WF_isDown_4 : decode b_WF_isDown 4 = .ok (.iload_n 0, 1) := dc_26 (by decide +kernel)
theorem d_WF_isDown_5 : decode b_WF_isDown 5 = .ok (.iconst 4, 1) := dc_7 (by decide +kernel)
theorem d_WF_isDown_6 : decode b_WF_isDown 6 = .ok (.if_icmp .gt 7, 3) := dc_163 (by decide +kernel)
theorem d_WF_isDown_9 : decode b_WF_isDown 9 = .ok (.iconst 1, 1) := dc_4 (by decide +kernel)
theorem d_WF_isDown_10 : decode b_WF_isDown 10 = .ok (.goto 4, 3) := dc_167 (by decide +kernel)
theorem d_WF_isDown_13 : decode b_WF_isDown 13 = .ok (.iconst 0, 1) := dc_3 (by decide +kernel)
theorem d_WF_isDown_14 : decode b_WF_isDown 14 = .ok (.ireturn, 1) := dc_172 (by decide +kernel)
def t_WF_isDown (M : Mem) (x1 : Int) : Int := (if x1 < 0 then 0 else (if 4 < x1 then 0 else 1))
set_option maxHeartbeats 4000000 in
set_option maxRecDepth 100000 in
theorem c_WF_isDown (l : Launch) {b n : Nat} {C : CT} (hlo : 191 ≤ n) (M : Mem) (x1 : Int) (hx1 : InR x1) (res : Int) (hT : t_WF_isDown M x1 = res) : CM l b C n 0 y_WF_isDown b_WF_isDown 1 (some .boolean) [vI x1] M (QZ b C n M res) := by
  refine CM.of (lo := 191) (ow := "WardFalls") (by decide) rfl (Nat.le_of_ble_eq_true rfl) hlo (fun p e s m below meth c F hlk hr hS ls hl => ?_)
  have hl : lv_has ls 1 [(0, vI x1)] := hl
  unfold t_WF_isDown at hT
  refine lv_iload_n F.hx F.hb d_WF_isDown_0 rfl (lv_at hl 0 rfl) ?_
  refine r_if_lt (tgt := 13) F.hx F.hb hx1 d_WF_isDown_1 (by decide) (fun c1 => ?_) (fun c1 => ?_)
  · replace hT := (if_pos c1).symm.trans hT
    refine r_iconst F.hx F.hb d_WF_isDown_13 ?_
    subst hT
    exact r_zret F hlk hr hS (Or.inl rfl) d_WF_isDown_14
  · replace hT := (if_neg c1).symm.trans hT
    refine lv_iload_n F.hx F.hb d_WF_isDown_4 rfl (lv_at hl 0 rfl) ?_
    refine r_iconst F.hx F.hb d_WF_isDown_5 ?_
    refine r_icmp_gt (tgt := 13) F.hx F.hb hx1 (inr_c rfl) d_WF_isDown_6 (by decide) (fun c2 => ?_) (fun c2 => ?_)
    · replace hT := (if_pos c2).symm.trans hT
      refine r_iconst F.hx F.hb d_WF_isDown_13 ?_
      subst hT
      exact r_zret F hlk hr hS (Or.inl rfl) d_WF_isDown_14
    · replace hT := (if_neg c2).symm.trans hT
      refine r_iconst F.hx F.hb d_WF_isDown_9 ?_
      refine lv_goto (tgt := 14) F.hx F.hb d_WF_isDown_10 (by decide) ?_
      subst hT
      exact r_zret F hlk hr hS (Or.inr rfl) d_WF_isDown_14
theorem wn_Reader_readWard_0 : ∀ i, i < 96 → bA b_Reader_readWard (0 + i) = wB [43, 180, 0, 107, 7, 161, 0, 13, 42, 5, 42, 180, 0, 44, 182, 0, 47, 172, 42, 42, 180, 0, 94, 4, 96, 182, 0, 80, 42, 43, 180, 0, 110, 43, 180, 0, 107, 182, 0, 114, 61, 28, 156, 0, 5, 3, 172, 42, 180, 0, 15, 16, 8, 100, 62, 29, 184, 0, 118, 154, 0, 13, 42, 4, 42, 180, 0, 44, 182, 0, 47, 172, 42, 42, 180, 0, 94, 4, 96, 182, 0, 80, 42, 3, 16, 99, 182, 0, 97, 54, 4, 21, 4, 156, 0, 5] i := wB_of (by decide +kernel)
theorem d_Reader_readWard_0 : decode b_Reader_readWard 0 = .ok (.aload_n 1, 1) := dc_43 (q0_win (r := 0) wn_Reader_readWard_0 (by decide +kernel))
theorem d_Reader_readWard_1 : decode b_Reader_readWard 1 = .ok (.getfield 107, 3) := dc_180 (qU2_win (r := 1) wn_Reader_readWard_0 (by decide +kernel))
theorem d_Reader_readWard_4 : decode b_Reader_readWard 4 = .ok (.iconst 4, 1) := dc_7 (q0_win (r := 4) wn_Reader_readWard_0 (by decide +kernel))
theorem d_Reader_readWard_5 : decode b_Reader_readWard 5 = .ok (.if_icmp .lt 13, 3) := dc_161 (qS2_win (r := 5) wn_Reader_readWard_0 (by decide +kernel))
theorem d_Reader_readWard_8 : decode b_Reader_readWard 8 = .ok (.aload_n 0, 1) := dc_42 (q0_win (r := 8) wn_Reader_readWard_0 (by decide +kernel))
theorem d_Reader_readWard_9 : decode b_Reader_readWard 9 = .ok (.iconst 2, 1) := dc_5 (q0_win (r := 9) wn_Reader_readWard_0 (by decide +kernel))
theorem d_Reader_readWard_10 : decode b_Reader_readWard 10 = .ok (.aload_n 0, 1) := dc_42 (q0_win (r := 10) wn_Reader_readWard_0 (by decide +kernel))
theorem d_Reader_readWard_11 : decode b_Reader_readWard 11 = .ok (.getfield 44, 3) := dc_180 (qU2_win (r := 11) wn_Reader_readWard_0 (by decide +kernel))
theorem d_Reader_readWard_14 : decode b_Reader_readWard 14 = .ok (.invokevirtual 47, 3) := dc_182 (qU2_win (r := 14) wn_Reader_readWard_0 (by decide +kernel))
theorem d_Reader_readWard_17 : decode b_Reader_readWard 17 = .ok (.ireturn, 1) := dc_172 (q0_win (r := 17) wn_Reader_readWard_0 (by decide +kernel))
theorem d_Reader_readWard_18 : decode b_Reader_readWard 18 = .ok (.aload_n 0, 1) := dc_42 (q0_win (r := 18) wn_Reader_readWard_0 (by decide +kernel))
theorem d_Reader_readWard_19 : decode b_Reader_readWard 19 = .ok (.aload_n 0, 1) := dc_42 (q0_win (r := 19) wn_Reader_readWard_0 (by decide +kernel))
theorem d_Reader_readWard_20 : decode b_Reader_readWard 20 = .ok (.getfield 94, 3) := dc_180 (qU2_win (r := 20) wn_Reader_readWard_0 (by decide +kernel))
theorem d_Reader_readWard_23 : decode b_Reader_readWard 23 = .ok (.iconst 1, 1) := dc_4 (q0_win (r := 23) wn_Reader_readWard_0 (by decide +kernel))
theorem d_Reader_readWard_24 : decode b_Reader_readWard 24 = .ok (.iadd, 1) := dc_96 (q0_win (r := 24) wn_Reader_readWard_0 (by decide +kernel))
theorem d_Reader_readWard_25 : decode b_Reader_readWard 25 = .ok (.invokevirtual 80, 3) := dc_182 (qU2_win (r := 25) wn_Reader_readWard_0 (by decide +kernel))
theorem d_Reader_readWard_28 : decode b_Reader_readWard 28 = .ok (.aload_n 0, 1) := dc_42 (q0_win (r := 28) wn_Reader_readWard_0 (by decide +kernel))
theorem d_Reader_readWard_29 : decode b_Reader_readWard 29 = .ok (.aload_n 1, 1) := dc_43 (q0_win (r := 29) wn_Reader_readWard_0 (by decide +kernel))
theorem d_Reader_readWard_30 : decode b_Reader_readWard 30 = .ok (.getfield 110, 3) := dc_180 (qU2_win (r := 30) wn_Reader_readWard_0 (by decide +kernel))
theorem d_Reader_readWard_33 : decode b_Reader_readWard 33 = .ok (.aload_n 1, 1) := dc_43 (q0_win (r := 33) wn_Reader_readWard_0 (by decide +kernel))
theorem d_Reader_readWard_34 : decode b_Reader_readWard 34 = .ok (.getfield 107, 3) := dc_180 (qU2_win (r := 34) wn_Reader_readWard_0 (by decide +kernel))
theorem d_Reader_readWard_37 : decode b_Reader_readWard 37 = .ok (.invokevirtual 114, 3) := dc_182 (qU2_win (r := 37) wn_Reader_readWard_0 (by decide +kernel))
theorem d_Reader_readWard_40 : decode b_Reader_readWard 40 = .ok (.istore_n 2, 1) := dc_61 (q0_win (r := 40) wn_Reader_readWard_0 (by decide +kernel))
theorem d_Reader_readWard_41 : decode b_Reader_readWard 41 = .ok (.iload_n 2, 1) := dc_28 (q0_win (r := 41) wn_Reader_readWard_0 (by decide +kernel))
theorem d_Reader_readWard_42 : decode b_Reader_readWard 42 = .ok (.ifCond .ge 5, 3) := dc_156 (qS2_win (r := 42) wn_Reader_readWard_0 (by decide +kernel))
theorem d_Reader_readWard_45 : decode b_Reader_readWard 45 = .ok (.iconst 0, 1) := dc_3 (q0_win (r := 45) wn_Reader_readWard_0 (by decide +kernel))
theorem d_Reader_readWard_46 : decode b_Reader_readWard 46 = .ok (.ireturn, 1) := dc_172 (q0_win (r := 46) wn_Reader_readWard_0 (by decide +kernel))
theorem d_Reader_readWard_47 : decode b_Reader_readWard 47 = .ok (.aload_n 0, 1) := dc_42 (q0_win (r := 47) wn_Reader_readWard_0 (by decide +kernel))
theorem d_Reader_readWard_48 : decode b_Reader_readWard 48 = .ok (.getfield 15, 3) := dc_180 (qU2_win (r := 48) wn_Reader_readWard_0 (by decide +kernel))
theorem d_Reader_readWard_51 : decode b_Reader_readWard 51 = .ok (.bipush 8, 2) := dc_16 (qS1_win (r := 51) wn_Reader_readWard_0 (by decide +kernel))
theorem d_Reader_readWard_53 : decode b_Reader_readWard 53 = .ok (.isub, 1) := dc_100 (q0_win (r := 53) wn_Reader_readWard_0 (by decide +kernel))
theorem d_Reader_readWard_54 : decode b_Reader_readWard 54 = .ok (.istore_n 3, 1) := dc_62 (q0_win (r := 54) wn_Reader_readWard_0 (by decide +kernel))
theorem d_Reader_readWard_55 : decode b_Reader_readWard 55 = .ok (.iload_n 3, 1) := dc_29 (q0_win (r := 55) wn_Reader_readWard_0 (by decide +kernel))
theorem d_Reader_readWard_56 : decode b_Reader_readWard 56 = .ok (.invokestatic 118, 3) := dc_184 (qU2_win (r := 56) wn_Reader_readWard_0 (by decide +kernel))
theorem d_Reader_readWard_59 : decode b_Reader_readWard 59 = .ok (.ifCond .ne 13, 3) := dc_154 (qS2_win (r := 59) wn_Reader_readWard_0 (by decide +kernel))
theorem d_Reader_readWard_62 : decode b_Reader_readWard 62 = .ok (.aload_n 0, 1) := dc_42 (q0_win (r := 62) wn_Reader_readWard_0 (by decide +kernel))
theorem d_Reader_readWard_63 : decode b_Reader_readWard 63 = .ok (.iconst 1, 1) := dc_4 (q0_win (r := 63) wn_Reader_readWard_0 (by decide +kernel))
theorem d_Reader_readWard_64 : decode b_Reader_readWard 64 = .ok (.aload_n 0, 1) := dc_42 (q0_win (r := 64) wn_Reader_readWard_0 (by decide +kernel))
theorem d_Reader_readWard_65 : decode b_Reader_readWard 65 = .ok (.getfield 44, 3) := dc_180 (qU2_win (r := 65) wn_Reader_readWard_0 (by decide +kernel))
theorem d_Reader_readWard_68 : decode b_Reader_readWard 68 = .ok (.invokevirtual 47, 3) := dc_182 (qU2_win (r := 68) wn_Reader_readWard_0 (by decide +kernel))
theorem d_Reader_readWard_71 : decode b_Reader_readWard 71 = .ok (.ireturn, 1) := dc_172 (q0_win (r := 71) wn_Reader_readWard_0 (by decide +kernel))
theorem d_Reader_readWard_72 : decode b_Reader_readWard 72 = .ok (.aload_n 0, 1) := dc_42 (q0_win (r := 72) wn_Reader_readWard_0 (by decide +kernel))
theorem d_Reader_readWard_73 : decode b_Reader_readWard 73 = .ok (.aload_n 0, 1) := dc_42 (q0_win (r := 73) wn_Reader_readWard_0 (by decide +kernel))
theorem d_Reader_readWard_74 : decode b_Reader_readWard 74 = .ok (.getfield 94, 3) := dc_180 (qU2_win (r := 74) wn_Reader_readWard_0 (by decide +kernel))
theorem d_Reader_readWard_77 : decode b_Reader_readWard 77 = .ok (.iconst 1, 1) := dc_4 (q0_win (r := 77) wn_Reader_readWard_0 (by decide +kernel))
theorem d_Reader_readWard_78 : decode b_Reader_readWard 78 = .ok (.iadd, 1) := dc_96 (q0_win (r := 78) wn_Reader_readWard_0 (by decide +kernel))
theorem d_Reader_readWard_79 : decode b_Reader_readWard 79 = .ok (.invokevirtual 80, 3) := dc_182 (qU2_win (r := 79) wn_Reader_readWard_0 (by decide +kernel))
theorem d_Reader_readWard_82 : decode b_Reader_readWard 82 = .ok (.aload_n 0, 1) := dc_42 (q0_win (r := 82) wn_Reader_readWard_0 (by decide +kernel))
theorem d_Reader_readWard_83 : decode b_Reader_readWard 83 = .ok (.iconst 0, 1) := dc_3 (q0_win (r := 83) wn_Reader_readWard_0 (by decide +kernel))
theorem d_Reader_readWard_84 : decode b_Reader_readWard 84 = .ok (.bipush 99, 2) := dc_16 (qS1_win (r := 84) wn_Reader_readWard_0 (by decide +kernel))
theorem d_Reader_readWard_86 : decode b_Reader_readWard 86 = .ok (.invokevirtual 97, 3) := dc_182 (qU2_win (r := 86) wn_Reader_readWard_0 (by decide +kernel))
theorem d_Reader_readWard_89 : decode b_Reader_readWard 89 = .ok (.istore 4, 2) := dc_54 (qU1_win (r := 89) wn_Reader_readWard_0 (by decide +kernel))
theorem d_Reader_readWard_91 : decode b_Reader_readWard 91 = .ok (.iload 4, 2) := dc_21 (qU1_win (r := 91) wn_Reader_readWard_0 (by decide +kernel))
theorem d_Reader_readWard_93 : decode b_Reader_readWard 93 = .ok (.ifCond .ge 5, 3) := dc_156 (qS2_win (r := 93) wn_Reader_readWard_0 (by decide +kernel))
theorem wn_Reader_readWard_96 : ∀ i, i < 51 → bA b_Reader_readWard (96 + i) = wB [3, 172, 43, 180, 0, 110, 43, 180, 0, 107, 28, 184, 0, 121, 43, 180, 0, 125, 43, 180, 0, 107, 29, 184, 0, 121, 43, 180, 0, 128, 43, 180, 0, 107, 21, 4, 184, 0, 121, 43, 89, 180, 0, 107, 4, 96, 181, 0, 107, 4, 172] i := wB_of (by decide +kernel)
theorem d_Reader_readWard_96 : decode b_Reader_readWard 96 = .ok (.iconst 0, 1) := dc_3 (q0_win (r := 0) wn_Reader_readWard_96 (by decide +kernel))
theorem d_Reader_readWard_97 : decode b_Reader_readWard 97 = .ok (.ireturn, 1) := dc_172 (q0_win (r := 1) wn_Reader_readWard_96 (by decide +kernel))
theorem d_Reader_readWard_98 : decode b_Reader_readWard 98 = .ok (.aload_n 1, 1) := dc_43 (q0_win (r := 2) wn_Reader_readWard_96 (by decide +kernel))
theorem d_Reader_readWard_99 : decode b_Reader_readWard 99 = .ok (.getfield 110, 3) := dc_180 (qU2_win (r := 3) wn_Reader_readWard_96 (by decide +kernel))
theorem d_Reader_readWard_102 : decode b_Reader_readWard 102 = .ok (.aload_n 1, 1) := dc_43 (q0_win (r := 6) wn_Reader_readWard_96 (by decide +kernel))
theorem d_Reader_readWard_103 : decode b_Reader_readWard 103 = .ok (.getfield 107, 3) := dc_180 (qU2_win (r := 7) wn_Reader_readWard_96 (by decide +kernel))
theorem d_Reader_readWard_106 : decode b_Reader_readWard 106 = .ok (.iload_n 2, 1) := dc_28 (q0_win (r := 10) wn_Reader_readWard_96 (by decide +kernel))
theorem d_Reader_readWard_107 : decode b_Reader_readWard 107 = .ok (.invokestatic 121, 3) := dc_184 (qU2_win (r := 11) wn_Reader_readWard_96 (by decide +kernel))
theorem d_Reader_readWard_110 : decode b_Reader_readWard 110 = .ok (.aload_n 1, 1) := dc_43 (q0_win (r := 14) wn_Reader_readWard_96 (by decide +kernel))
theorem d_Reader_readWard_111 : decode b_Reader_readWard 111 = .ok (.getfield 125, 3) := dc_180 (qU2_win (r := 15) wn_Reader_readWard_96 (by decide +kernel))
theorem d_Reader_readWard_114 : decode b_Reader_readWard 114 = .ok (.aload_n 1, 1) := dc_43 (q0_win (r := 18) wn_Reader_readWard_96 (by decide +kernel))
theorem d_Reader_readWard_115 : decode b_Reader_readWard 115 = .ok (.getfield 107, 3) := dc_180 (qU2_win (r := 19) wn_Reader_readWard_96 (by decide +kernel))
theorem d_Reader_readWard_118 : decode b_Reader_readWard 118 = .ok (.iload_n 3, 1) := dc_29 (q0_win (r := 22) wn_Reader_readWard_96 (by decide +kernel))
theorem d_Reader_readWard_119 : decode b_Reader_readWard 119 = .ok (.invokestatic 121, 3) := dc_184 (qU2_win (r := 23) wn_Reader_readWard_96 (by decide +kernel))
theorem d_Reader_readWard_122 : decode b_Reader_readWard 122 = .ok (.aload_n 1, 1) := dc_43 (q0_win (r := 26) wn_Reader_readWard_96 (by decide +kernel))
theorem d_Reader_readWard_123 : decode b_Reader_readWard 123 = .ok (.getfield 128, 3) := dc_180 (qU2_win (r := 27) wn_Reader_readWard_96 (by decide +kernel))
theorem d_Reader_readWard_126 : decode b_Reader_readWard 126 = .ok (.aload_n 1, 1) := dc_43 (q0_win (r := 30) wn_Reader_readWard_96 (by decide +kernel))
theorem d_Reader_readWard_127 : decode b_Reader_readWard 127 = .ok (.getfield 107, 3) := dc_180 (qU2_win (r := 31) wn_Reader_readWard_96 (by decide +kernel))
theorem d_Reader_readWard_130 : decode b_Reader_readWard 130 = .ok (.iload 4, 2) := dc_21 (qU1_win (r := 34) wn_Reader_readWard_96 (by decide +kernel))
theorem d_Reader_readWard_132 : decode b_Reader_readWard 132 = .ok (.invokestatic 121, 3) := dc_184 (qU2_win (r := 36) wn_Reader_readWard_96 (by decide +kernel))
theorem d_Reader_readWard_135 : decode b_Reader_readWard 135 = .ok (.aload_n 1, 1) := dc_43 (q0_win (r := 39) wn_Reader_readWard_96 (by decide +kernel))
theorem d_Reader_readWard_136 : decode b_Reader_readWard 136 = .ok (.dup, 1) := dc_89 (q0_win (r := 40) wn_Reader_readWard_96 (by decide +kernel))
theorem d_Reader_readWard_137 : decode b_Reader_readWard 137 = .ok (.getfield 107, 3) := dc_180 (qU2_win (r := 41) wn_Reader_readWard_96 (by decide +kernel))
theorem d_Reader_readWard_140 : decode b_Reader_readWard 140 = .ok (.iconst 1, 1) := dc_4 (q0_win (r := 44) wn_Reader_readWard_96 (by decide +kernel))
theorem d_Reader_readWard_141 : decode b_Reader_readWard 141 = .ok (.iadd, 1) := dc_96 (q0_win (r := 45) wn_Reader_readWard_96 (by decide +kernel))
theorem d_Reader_readWard_142 : decode b_Reader_readWard 142 = .ok (.putfield 107, 3) := dc_181 (qU2_win (r := 46) wn_Reader_readWard_96 (by decide +kernel))
theorem d_Reader_readWard_145 : decode b_Reader_readWard 145 = .ok (.iconst 1, 1) := dc_4 (q0_win (r := 49) wn_Reader_readWard_96 (by decide +kernel))
theorem d_Reader_readWard_146 : decode b_Reader_readWard 146 = .ok (.ireturn, 1) := dc_172 (q0_win (r := 50) wn_Reader_readWard_96 (by decide +kernel))
def t_Reader_readWard (M : Mem) (k1 : Nat) : Option (Mem × Int) := (if (M.1 k1 14) < 4 then (obind (t_Reader_goTo M (w32 ((M.1 46 1) + 1))) fun q4 => (obind (t_Reader_takeNewName q4 (k1 + 1) 4 (q4.1 k1 14)) fun q7 => (if 0 ≤ (q7.2) then (qlet (t_WF_isDown (q7.1) (w32 (((q7.1).1 46 2) - 8))) fun q11 => (if q11 = 0 then (qlet (t_Reader_refuse (q7.1) 1 ((q7.1).1 46 4)) fun q32 => (some ((q32.1), (q32.2)))) else (obind (t_Reader_goTo (q7.1) (w32 (((q7.1).1 46 1) + 1))) fun q15 => (obind (t_Reader_takeNumber q15 0 99) fun q17 => (if 0 ≤ (q17.2) then (qlet (t_WF_put (q17.1) (k1 + 1) 4 ((q17.1).1 k1 14) (q7.2)) fun q21 => (qlet (t_WF_put q21 (k1 + 2) 4 (q21.1 k1 14) (w32 (((q7.1).1 46 2) - 8))) fun q24 => (qlet (t_WF_put q24 (k1 + 3) 4 (q24.1 k1 14) (q17.2)) fun q27 => (qlet (setI q27 k1 14 (w32 ((q27.1 k1 14) + 1))) fun M30 => (some (M30, 1)))))) else (some ((q17.1), 0))))))) else (some ((q7.1), 0))))) else (qlet (t_Reader_refuse M 2 (M.1 46 4)) fun q35 => (some ((q35.1), (q35.2)))))
set_option maxHeartbeats 4000000 in
set_option maxRecDepth 100000 in
theorem c_Reader_readWard (l : Launch) {b n : Nat} {C : CT} (hlo : 191 ≤ n) (M : Mem) (k1 : Nat) (hk1 : isTown k1) (res : Mem × Int) (hT : t_Reader_readWard M k1 = some res) : CM l b C n 4 y_Reader_readWard b_Reader_readWard 5 (some .boolean) [.ref (b + 46), .ref (b + k1)] M (QZ b C n res.1 res.2) := by
  refine CM.of (lo := 191) (ow := "WardFalls$Reader") (by decide) rfl (Nat.le_of_ble_eq_true rfl) hlo (fun p e s m below meth c F hlk hr hS ls hl => ?_)
  have hl : lv_has ls 5 [(0, .ref (b + 46)), (1, .ref (b + k1))] := hl
  unfold t_Reader_readWard at hT
  refine lv_aload_n F.hx F.hb d_Reader_readWard_0 rfl (lv_at hl 1 rfl) ?_
  refine r_get (v := vI (M.1 k1 14)) (N := 20) (T := T11) (j := 14) F hS (Town_lt hk1) (Town_sh hk1) (Town_N hk1) rfl (Nat.le_of_ble_eq_true rfl) ing11 mw_135 (fv_int rfl) d_Reader_readWard_1 ?_
  have i1 := hS.rng k1 14
  refine r_iconst F.hx F.hb d_Reader_readWard_4 ?_
  refine r_icmp_lt (tgt := 18) F.hx F.hb i1 (inr_c rfl) d_Reader_readWard_5 (by decide) (fun c2 => ?_) (fun c2 => ?_)
  · replace hT := (if_pos c2).symm.trans hT
    refine lv_aload_n F.hx F.hb d_Reader_readWard_18 rfl (lv_at hl 0 rfl) ?_
    refine lv_aload_n F.hx F.hb d_Reader_readWard_19 rfl (lv_at hl 0 rfl) ?_
    refine r_get (v := vI (M.1 46 1)) (N := 11) (T := T8) (j := 1) F hS (show 46 < 191 by decide) (show shK 46 = 12 from rfl) (show shN 46 = 11 from rfl) rfl (Nat.le_of_ble_eq_true rfl) ing8 mw_231 (fv_int rfl) d_Reader_readWard_20 ?_
    have i3 := hS.rng 46 1
    refine r_iconst F.hx F.hb d_Reader_readWard_23 ?_
    refine r_iadd F.hx F.hb d_Reader_readWard_24 ?_
    obtain ⟨q4, hq4, hT⟩ := q_obind hT
    refine r_backV F hS (r_runV (k := 46) (N := 11) (T := T8) (As := [vI (w32 ((M.1 46 1) + 1))]) F hS (show 46 < 191 by decide) (show shK 46 = 12 from rfl) rfl (c_Reader_goTo l F.2.2.1 M (w32 ((M.1 46 1) + 1)) (inr_w32 _) _ hq4) gs_Reader_80 hd_Reader_goTo ⟨Nat.le_of_ble_eq_true rfl, Nat.le_of_ble_eq_true rfl⟩ rfl hl.1 (Nat.le_of_ble_eq_true rfl) ⟨Nat.zero_le _, Nat.zero_le _⟩ rfl d_Reader_readWard_25) (fun H locs hS => ?_)
    refine lv_aload_n F.hx F.hb d_Reader_readWard_28 rfl (lv_at hl 0 rfl) ?_
    refine lv_aload_n F.hx F.hb d_Reader_readWard_29 rfl (lv_at hl 1 rfl) ?_
    refine r_get (v := .ref (b + (k1 + 1))) (N := 20) (T := T11) (j := 0) F hS (Town_lt hk1) (Town_sh hk1) (Town_N hk1) rfl (Nat.le_of_ble_eq_true rfl) ing11 mw_89 (Town_g0 hk1 _) d_Reader_readWard_30 ?_
    refine lv_aload_n F.hx F.hb d_Reader_readWard_33 rfl (lv_at hl 1 rfl) ?_
    refine r_get (v := vI (q4.1 k1 14)) (N := 20) (T := T11) (j := 14) F hS (Town_lt hk1) (Town_sh hk1) (Town_N hk1) rfl (Nat.le_of_ble_eq_true rfl) ing11 mw_135 (fv_int rfl) d_Reader_readWard_34 ?_
    have i6 := hS.rng k1 14
    obtain ⟨q7, hq7, hT⟩ := q_obind hT
    refine r_backI F hS (r_runV (k := 46) (N := 11) (T := T8) (As := [.ref (b + (k1 + 1)), vI (q4.1 k1 14)]) F hS (show 46 < 191 by decide) (show shK 46 = 12 from rfl) rfl (c_Reader_takeNewName l F.2.2.1 q4 (k1 + 1) 4 (q4.1 k1 14) (Town_f0 hk1) i6 _ hq7) gs_Reader_114 hd_Reader_takeNewName ⟨Nat.le_of_ble_eq_true rfl, Nat.le_of_ble_eq_true rfl⟩ rfl hl.1 (Nat.le_of_ble_eq_true rfl) ⟨Nat.zero_le _, Nat.zero_le _⟩ rfl d_Reader_readWard_37) (fun H locs hS h8 => ?_)
    refine lv_istore_n (lv' := [(2, vI (q7.2)), (0, .ref (b + 46)), (1, .ref (b + k1))]) F.hx F.hb d_Reader_readWard_40 rfl hl (Nat.le_of_ble_eq_true rfl) rfl (fun ls hl => ?_)
    refine lv_iload_n F.hx F.hb d_Reader_readWard_41 rfl (lv_at hl 0 rfl) ?_
    refine r_if_ge (tgt := 47) F.hx F.hb h8 d_Reader_readWard_42 (by decide) (fun c9 => ?_) (fun c9 => ?_)
    · replace hT := (if_pos c9).symm.trans hT
      refine lv_aload_n F.hx F.hb d_Reader_readWard_47 rfl (lv_at hl 1 rfl) ?_
      refine r_get (v := vI ((q7.1).1 46 2)) (N := 11) (T := T8) (j := 2) F hS (show 46 < 191 by decide) (show shK 46 = 12 from rfl) (show shN 46 = 11 from rfl) rfl (Nat.le_of_ble_eq_true rfl) ing8 mw_232 (fv_int rfl) d_Reader_readWard_48 ?_
      have i10 := hS.rng 46 2
      refine r_bipush F.hx F.hb d_Reader_readWard_51 rfl ?_
      refine r_isub F.hx F.hb d_Reader_readWard_53 ?_
      refine lv_istore_n (lv' := [(3, vI (w32 (((q7.1).1 46 2) - 8))), (2, vI (q7.2)), (0, .ref (b + 46)), (1, .ref (b + k1))]) F.hx F.hb d_Reader_readWard_54 rfl hl (Nat.le_of_ble_eq_true rfl) rfl (fun ls hl => ?_)
      refine lv_iload_n F.hx F.hb d_Reader_readWard_55 rfl (lv_at hl 0 rfl) ?_
      obtain ⟨q11, hq11⟩ : ∃ q, q = (t_WF_isDown (q7.1) (w32 (((q7.1).1 46 2) - 8))) := ⟨_, rfl⟩
      replace hT := qlet_eq hT hq11
      refine r_backZ F hS (r_runSN (As := [vI (w32 (((q7.1).1 46 2) - 8))]) F hS (c_WF_isDown l F.2.2.1 (q7.1) (w32 (((q7.1).1 46 2) - 8)) (inr_w32 _) _ hq11.symm) mw_751 mw_750 mw_1 gs_Reader_118 hd_WF_isDown ⟨Nat.le_of_ble_eq_true rfl, Nat.le_of_ble_eq_true rfl⟩ rfl hl.1 (Nat.le_of_ble_eq_true rfl) ⟨Nat.zero_le _, Nat.zero_le _⟩ rfl d_Reader_readWard_56) (fun H locs hS h12 => ?_)
      refine r_if_ne (tgt := 72) F.hx F.hb (inr_z h12) d_Reader_readWard_59 (by decide) (fun c13 => ?_) (fun c13 => ?_)
      · replace hT := (if_neg c13).symm.trans hT
        refine lv_aload_n F.hx F.hb d_Reader_readWard_72 rfl (lv_at hl 2 rfl) ?_
        refine lv_aload_n F.hx F.hb d_Reader_readWard_73 rfl (lv_at hl 2 rfl) ?_
        refine r_get (v := vI ((q7.1).1 46 1)) (N := 11) (T := T8) (j := 1) F hS (show 46 < 191 by decide) (show shK 46 = 12 from rfl) (show shN 46 = 11 from rfl) rfl (Nat.le_of_ble_eq_true rfl) ing8 mw_231 (fv_int rfl) d_Reader_readWard_74 ?_
        have i14 := hS.rng 46 1
        refine r_iconst F.hx F.hb d_Reader_readWard_77 ?_
        refine r_iadd F.hx F.hb d_Reader_readWard_78 ?_
        obtain ⟨q15, hq15, hT⟩ := q_obind hT
        refine r_backV F hS (r_runV (k := 46) (N := 11) (T := T8) (As := [vI (w32 (((q7.1).1 46 1) + 1))]) F hS (show 46 < 191 by decide) (show shK 46 = 12 from rfl) rfl (c_Reader_goTo l F.2.2.1 (q7.1) (w32 (((q7.1).1 46 1) + 1)) (inr_w32 _) _ hq15) gs_Reader_80 hd_Reader_goTo ⟨Nat.le_of_ble_eq_true rfl, Nat.le_of_ble_eq_true rfl⟩ rfl hl.1 (Nat.le_of_ble_eq_true rfl) ⟨Nat.zero_le _, Nat.zero_le _⟩ rfl d_Reader_readWard_79) (fun H locs hS => ?_)
        refine lv_aload_n F.hx F.hb d_Reader_readWard_82 rfl (lv_at hl 2 rfl) ?_
        refine r_iconst F.hx F.hb d_Reader_readWard_83 ?_
        refine r_bipush F.hx F.hb d_Reader_readWard_84 rfl ?_
        obtain ⟨q17, hq17, hT⟩ := q_obind hT
        refine r_backI F hS (r_runV (k := 46) (N := 11) (T := T8) (As := [vI 0, vI 99]) F hS (show 46 < 191 by decide) (show shK 46 = 12 from rfl) rfl (c_Reader_takeNumber l F.2.2.1 q15 0 99 (inr_c rfl) (inr_c rfl) _ hq17) gs_Reader_97 hd_Reader_takeNumber ⟨Nat.le_of_ble_eq_true rfl, Nat.le_of_ble_eq_true rfl⟩ rfl hl.1 (Nat.le_of_ble_eq_true rfl) ⟨Nat.zero_le _, Nat.zero_le _⟩ rfl d_Reader_readWard_86) (fun H locs hS h18 => ?_)
        refine lv_istore (lv' := [(4, vI (q17.2)), (3, vI (w32 (((q7.1).1 46 2) - 8))), (2, vI (q7.2)), (0, .ref (b + 46)), (1, .ref (b + k1))]) F.hx F.hb d_Reader_readWard_89 hl (Nat.le_of_ble_eq_true rfl) rfl (fun ls hl => ?_)
        refine lv_iload F.hx F.hb d_Reader_readWard_91 (lv_at hl 0 rfl) ?_
        refine r_if_ge (tgt := 98) F.hx F.hb h18 d_Reader_readWard_93 (by decide) (fun c19 => ?_) (fun c19 => ?_)
        · replace hT := (if_pos c19).symm.trans hT
          refine lv_aload_n F.hx F.hb d_Reader_readWard_98 rfl (lv_at hl 4 rfl) ?_
          refine r_get (v := .ref (b + (k1 + 1))) (N := 20) (T := T11) (j := 0) F hS (Town_lt hk1) (Town_sh hk1) (Town_N hk1) rfl (Nat.le_of_ble_eq_true rfl) ing11 mw_89 (Town_g0 hk1 _) d_Reader_readWard_99 ?_
          refine lv_aload_n F.hx F.hb d_Reader_readWard_102 rfl (lv_at hl 4 rfl) ?_
          refine r_get (v := vI ((q17.1).1 k1 14)) (N := 20) (T := T11) (j := 14) F hS (Town_lt hk1) (Town_sh hk1) (Town_N hk1) rfl (Nat.le_of_ble_eq_true rfl) ing11 mw_135 (fv_int rfl) d_Reader_readWard_103 ?_
          have i20 := hS.rng k1 14
          refine lv_iload_n F.hx F.hb d_Reader_readWard_106 rfl (lv_at hl 2 rfl) ?_
          obtain ⟨q21, hq21⟩ : ∃ q, q = (t_WF_put (q17.1) (k1 + 1) 4 ((q17.1).1 k1 14) (q7.2)) := ⟨_, rfl⟩
          replace hT := qlet_eq hT hq21
          refine r_backV F hS (r_runSN (As := [.ref (b + (k1 + 1)), vI ((q17.1).1 k1 14), vI (q7.2)]) F hS (c_WF_put l F.2.2.1 (q17.1) (k1 + 1) 4 ((q17.1).1 k1 14) (q7.2) (Town_f0 hk1) i20 h8 _ hq21.symm) mw_512 mw_511 mw_1 gs_Reader_121 hd_WF_put ⟨Nat.le_of_ble_eq_true rfl, Nat.le_of_ble_eq_true rfl⟩ rfl hl.1 (Nat.le_of_ble_eq_true rfl) ⟨Nat.zero_le _, Nat.zero_le _⟩ rfl d_Reader_readWard_107) (fun H locs hS => ?_)
          refine lv_aload_n F.hx F.hb d_Reader_readWard_110 rfl (lv_at hl 4 rfl) ?_
          refine r_get (v := .ref (b + (k1 + 2))) (N := 20) (T := T11) (j := 1) F hS (Town_lt hk1) (Town_sh hk1) (Town_N hk1) rfl (Nat.le_of_ble_eq_true rfl) ing11 mw_93 (Town_g1 hk1 _) d_Reader_readWard_111 ?_
          refine lv_aload_n F.hx F.hb d_Reader_readWard_114 rfl (lv_at hl 4 rfl) ?_
          refine r_get (v := vI (q21.1 k1 14)) (N := 20) (T := T11) (j := 14) F hS (Town_lt hk1) (Town_sh hk1) (Town_N hk1) rfl (Nat.le_of_ble_eq_true rfl) ing11 mw_135 (fv_int rfl) d_Reader_readWard_115 ?_
          have i23 := hS.rng k1 14
          refine lv_iload_n F.hx F.hb d_Reader_readWard_118 rfl (lv_at hl 1 rfl) ?_
          obtain ⟨q24, hq24⟩ : ∃ q, q = (t_WF_put q21 (k1 + 2) 4 (q21.1 k1 14) (w32 (((q7.1).1 46 2) - 8))) := ⟨_, rfl⟩
          replace hT := qlet_eq hT hq24
          refine r_backV F hS (r_runSN (As := [.ref (b + (k1 + 2)), vI (q21.1 k1 14), vI (w32 (((q7.1).1 46 2) - 8))]) F hS (c_WF_put l F.2.2.1 q21 (k1 + 2) 4 (q21.1 k1 14) (w32 (((q7.1).1 46 2) - 8)) (Town_f1 hk1) i23 (inr_w32 _) _ hq24.symm) mw_512 mw_511 mw_1 gs_Reader_121 hd_WF_put ⟨Nat.le_of_ble_eq_true rfl, Nat.le_of_ble_eq_true rfl⟩ rfl hl.1 (Nat.le_of_ble_eq_true rfl) ⟨Nat.zero_le _, Nat.zero_le _⟩ rfl d_Reader_readWard_119) (fun H locs hS => ?_)
          refine lv_aload_n F.hx F.hb d_Reader_readWard_122 rfl (lv_at hl 4 rfl) ?_
          refine r_get (v := .ref (b + (k1 + 3))) (N := 20) (T := T11) (j := 2) F hS (Town_lt hk1) (Town_sh hk1) (Town_N hk1) rfl (Nat.le_of_ble_eq_true rfl) ing11 mw_96 (Town_g2 hk1 _) d_Reader_readWard_123 ?_
          refine lv_aload_n F.hx F.hb d_Reader_readWard_126 rfl (lv_at hl 4 rfl) ?_
          refine r_get (v := vI (q24.1 k1 14)) (N := 20) (T := T11) (j := 14) F hS (Town_lt hk1) (Town_sh hk1) (Town_N hk1) rfl (Nat.le_of_ble_eq_true rfl) ing11 mw_135 (fv_int rfl) d_Reader_readWard_127 ?_
          have i26 := hS.rng k1 14
          refine lv_iload F.hx F.hb d_Reader_readWard_130 (lv_at hl 0 rfl) ?_
          obtain ⟨q27, hq27⟩ : ∃ q, q = (t_WF_put q24 (k1 + 3) 4 (q24.1 k1 14) (q17.2)) := ⟨_, rfl⟩
          replace hT := qlet_eq hT hq27
          refine r_backV F hS (r_runSN (As := [.ref (b + (k1 + 3)), vI (q24.1 k1 14), vI (q17.2)]) F hS (c_WF_put l F.2.2.1 q24 (k1 + 3) 4 (q24.1 k1 14) (q17.2) (Town_f2 hk1) i26 h18 _ hq27.symm) mw_512 mw_511 mw_1 gs_Reader_121 hd_WF_put ⟨Nat.le_of_ble_eq_true rfl, Nat.le_of_ble_eq_true rfl⟩ rfl hl.1 (Nat.le_of_ble_eq_true rfl) ⟨Nat.zero_le _, Nat.zero_le _⟩ rfl d_Reader_readWard_132) (fun H locs hS => ?_)
          refine lv_aload_n F.hx F.hb d_Reader_readWard_135 rfl (lv_at hl 4 rfl) ?_
          refine lv_dup F.hx F.hb d_Reader_readWard_136 rfl ?_
          refine r_get (v := vI (q27.1 k1 14)) (N := 20) (T := T11) (j := 14) F hS (Town_lt hk1) (Town_sh hk1) (Town_N hk1) rfl (Nat.le_of_ble_eq_true rfl) ing11 mw_135 (fv_int rfl) d_Reader_readWard_137 ?_
          have i29 := hS.rng k1 14
          refine r_iconst F.hx F.hb d_Reader_readWard_140 ?_
          refine r_iadd F.hx F.hb d_Reader_readWard_141 ?_
          refine r_putI (N := 20) (T := T11) (j := 14) F hS (Town_lt hk1) (Town_sh hk1) (Town_N hk1) rfl (Nat.le_of_ble_eq_true rfl) ing11 tyok11 nm11 rfl rfl rfl rfl rfl (Town_dyn hk1 _) mw_135 (inr_w32 _) d_Reader_readWard_142 (fun H locs hS => ?_)
          obtain ⟨M30, eM30⟩ : ∃ q, q = (setI q27 k1 14 (w32 ((q27.1 k1 14) + 1))) := ⟨_, rfl⟩
          replace hS : St b C n M30 s H locs := by rw [eM30]; exact hS
          replace hT := qlet_eq hT eM30
          refine r_iconst F.hx F.hb d_Reader_readWard_145 ?_
          cases hT
          exact r_zret F hlk hr hS (Or.inr rfl) d_Reader_readWard_146
        · replace hT := (if_neg c19).symm.trans hT
          refine r_iconst F.hx F.hb d_Reader_readWard_96 ?_
          cases hT
          exact r_zret F hlk hr hS (Or.inl rfl) d_Reader_readWard_97
      · replace hT := (if_pos c13).symm.trans hT
        refine lv_aload_n F.hx F.hb d_Reader_readWard_62 rfl (lv_at hl 2 rfl) ?_
        refine r_iconst F.hx F.hb d_Reader_readWard_63 ?_
        refine lv_aload_n F.hx F.hb d_Reader_readWard_64 rfl (lv_at hl 2 rfl) ?_
        refine r_get (v := vI ((q7.1).1 46 4)) (N := 11) (T := T8) (j := 4) F hS (show 46 < 191 by decide) (show shK 46 = 12 from rfl) (show shN 46 = 11 from rfl) rfl (Nat.le_of_ble_eq_true rfl) ing8 mw_234 (fv_int rfl) d_Reader_readWard_65 ?_
        have i31 := hS.rng 46 4
        obtain ⟨q32, hq32⟩ : ∃ q, q = (t_Reader_refuse (q7.1) 1 ((q7.1).1 46 4)) := ⟨_, rfl⟩
        replace hT := qlet_eq hT hq32
        refine r_backZ F hS (r_runV (k := 46) (N := 11) (T := T8) (As := [vI 1, vI ((q7.1).1 46 4)]) F hS (show 46 < 191 by decide) (show shK 46 = 12 from rfl) rfl (c_Reader_refuse l F.2.2.1 (q7.1) 1 ((q7.1).1 46 4) (inr_c rfl) i31 _ hq32.symm) gs_Reader_47 hd_Reader_refuse ⟨Nat.le_of_ble_eq_true rfl, Nat.le_of_ble_eq_true rfl⟩ rfl hl.1 (Nat.le_of_ble_eq_true rfl) ⟨Nat.zero_le _, Nat.zero_le _⟩ rfl d_Reader_readWard_68) (fun H locs hS h33 => ?_)
        cases hT
        exact r_zret F hlk hr hS h33 d_Reader_readWard_71
    · replace hT := (if_neg c9).symm.trans hT
      refine r_iconst F.hx F.hb d_Reader_readWard_45 ?_
      cases hT
      exact r_zret F hlk hr hS (Or.inl rfl) d_Reader_readWard_46
  · replace hT := (if_neg c2).symm.trans hT
    refine lv_aload_n F.hx F.hb d_Reader_readWard_8 rfl (lv_at hl 0 rfl) ?_
    refine r_iconst F.hx F.hb d_Reader_readWard_9 ?_
    refine lv_aload_n F.hx F.hb d_Reader_readWard_10 rfl (lv_at hl 0 rfl) ?_
    refine r_get (v := vI (M.1 46 4)) (N := 11) (T := T8) (j := 4) F hS (show 46 < 191 by decide) (show shK 46 = 12 from rfl) (show shN 46 = 11 from rfl) rfl (Nat.le_of_ble_eq_true rfl) ing8 mw_234 (fv_int rfl) d_Reader_readWard_11 ?_
    have i34 := hS.rng 46 4
    obtain ⟨q35, hq35⟩ : ∃ q, q = (t_Reader_refuse M 2 (M.1 46 4)) := ⟨_, rfl⟩
    replace hT := qlet_eq hT hq35
    refine r_backZ F hS (r_runV (k := 46) (N := 11) (T := T8) (As := [vI 2, vI (M.1 46 4)]) F hS (show 46 < 191 by decide) (show shK 46 = 12 from rfl) rfl (c_Reader_refuse l F.2.2.1 M 2 (M.1 46 4) (inr_c rfl) i34 _ hq35.symm) gs_Reader_47 hd_Reader_refuse ⟨Nat.le_of_ble_eq_true rfl, Nat.le_of_ble_eq_true rfl⟩ rfl hl.1 (Nat.le_of_ble_eq_true rfl) ⟨Nat.zero_le _, Nat.zero_le _⟩ rfl d_Reader_readWard_14) (fun H locs hS h36 => ?_)
    cases hT
    exact r_zret F hlk hr hS h36 d_Reader_readWard_17
theorem wn_Reader_readPart_0 : ∀ i, i < 96 → bA b_Reader_readPart (0 + i) = wB [42, 180, 0, 64, 16, 12, 161, 0, 13, 42, 5, 42, 180, 0, 44, 182, 0, 47, 172, 42, 42, 180, 0, 94, 4, 96, 182, 0, 80, 42, 180, 0, 131, 61, 42, 16, 30, 182, 0, 51, 154, 0, 5, 3, 172, 43, 180, 0, 110, 43, 180, 0, 107, 28, 184, 0, 134, 62, 29, 156, 0, 13, 42, 7, 42, 180, 0, 138, 182, 0, 47, 172, 42, 3, 43, 180, 0, 101, 4, 100, 182, 0, 97, 54, 4, 21, 4, 156, 0, 7, 2, 167, 0, 14, 42, 3] i := wB_of (by decide +kernel)
theorem d_Reader_readPart_0 : decode b_Reader_readPart 0 = .ok (.aload_n 0, 1) := dc_42 (q0_win (r := 0) wn_Reader_readPart_0 (by decide +kernel))
theorem d_Reader_readPart_1 : decode b_Reader_readPart 1 = .ok (.getfield 64, 3) := dc_180 (qU2_win (r := 1) wn_Reader_readPart_0 (by decide +kernel))
theorem d_Reader_readPart_4 : decode b_Reader_readPart 4 = .ok (.bipush 12, 2) := dc_16 (qS1_win (r := 4) wn_Reader_readPart_0 (by decide +kernel))
theorem d_Reader_readPart_6 : decode b_Reader_readPart 6 = .ok (.if_icmp .lt 13, 3) := dc_161 (qS2_win (r := 6) wn_Reader_readPart_0 (by decide +kernel))
theorem d_Reader_readPart_9 : decode b_Reader_readPart 9 = .ok (.aload_n 0, 1) := dc_42 (q0_win (r := 9) wn_Reader_readPart_0 (by decide +kernel))
theorem d_Reader_readPart_10 : decode b_Reader_readPart 10 = .ok (.iconst 2, 1) := dc_5 (q0_win (r := 10) wn_Reader_readPart_0 (by decide +kernel))
theorem d_Reader_readPart_11 : decode b_Reader_readPart 11 = .ok (.aload_n 0, 1) := dc_42 (q0_win (r := 11) wn_Reader_readPart_0 (by decide +kernel))
theorem d_Reader_readPart_12 : decode b_Reader_readPart 12 = .ok (.getfield 44, 3) := dc_180 (qU2_win (r := 12) wn_Reader_readPart_0 (by decide +kernel))
theorem d_Reader_readPart_15 : decode b_Reader_readPart 15 = .ok (.invokevirtual 47, 3) := dc_182 (qU2_win (r := 15) wn_Reader_readPart_0 (by decide +kernel))
theorem d_Reader_readPart_18 : decode b_Reader_readPart 18 = .ok (.ireturn, 1) := dc_172 (q0_win (r := 18) wn_Reader_readPart_0 (by decide +kernel))
theorem d_Reader_readPart_19 : decode b_Reader_readPart 19 = .ok (.aload_n 0, 1) := dc_42 (q0_win (r := 19) wn_Reader_readPart_0 (by decide +kernel))
theorem d_Reader_readPart_20 : decode b_Reader_readPart 20 = .ok (.aload_n 0, 1) := dc_42 (q0_win (r := 20) wn_Reader_readPart_0 (by decide +kernel))
theorem d_Reader_readPart_21 : decode b_Reader_readPart 21 = .ok (.getfield 94, 3) := dc_180 (qU2_win (r := 21) wn_Reader_readPart_0 (by decide +kernel))
theorem d_Reader_readPart_24 : decode b_Reader_readPart 24 = .ok (.iconst 1, 1) := dc_4 (q0_win (r := 24) wn_Reader_readPart_0 (by decide +kernel))
theorem d_Reader_readPart_25 : decode b_Reader_readPart 25 = .ok (.iadd, 1) := dc_96 (q0_win (r := 25) wn_Reader_readPart_0 (by decide +kernel))
theorem d_Reader_readPart_26 : decode b_Reader_readPart 26 = .ok (.invokevirtual 80, 3) := dc_182 (qU2_win (r := 26) wn_Reader_readPart_0 (by decide +kernel))
theorem d_Reader_readPart_29 : decode b_Reader_readPart 29 = .ok (.aload_n 0, 1) := dc_42 (q0_win (r := 29) wn_Reader_readPart_0 (by decide +kernel))
theorem d_Reader_readPart_30 : decode b_Reader_readPart 30 = .ok (.getfield 131, 3) := dc_180 (qU2_win (r := 30) wn_Reader_readPart_0 (by decide +kernel))
theorem d_Reader_readPart_33 : decode b_Reader_readPart 33 = .ok (.istore_n 2, 1) := dc_61 (q0_win (r := 33) wn_Reader_readPart_0 (by decide +kernel))
theorem d_Reader_readPart_34 : decode b_Reader_readPart 34 = .ok (.aload_n 0, 1) := dc_42 (q0_win (r := 34) wn_Reader_readPart_0 (by decide +kernel))
theorem d_Reader_readPart_35 : decode b_Reader_readPart 35 = .ok (.bipush 30, 2) := dc_16 (qS1_win (r := 35) wn_Reader_readPart_0 (by decide +kernel))
theorem d_Reader_readPart_37 : decode b_Reader_readPart 37 = .ok (.invokevirtual 51, 3) := dc_182 (qU2_win (r := 37) wn_Reader_readPart_0 (by decide +kernel))
theorem d_Reader_readPart_40 : decode b_Reader_readPart 40 = .ok (.ifCond .ne 5, 3) := dc_154 (qS2_win (r := 40) wn_Reader_readPart_0 (by decide +kernel))
theorem d_Reader_readPart_43 : decode b_Reader_readPart 43 = .ok (.iconst 0, 1) := dc_3 (q0_win (r := 43) wn_Reader_readPart_0 (by decide +kernel))
theorem d_Reader_readPart_44 : decode b_Reader_readPart 44 = .ok (.ireturn, 1) := dc_172 (q0_win (r := 44) wn_Reader_readPart_0 (by decide +kernel))
theorem d_Reader_readPart_45 : decode b_Reader_readPart 45 = .ok (.aload_n 1, 1) := dc_43 (q0_win (r := 45) wn_Reader_readPart_0 (by decide +kernel))
theorem d_Reader_readPart_46 : decode b_Reader_readPart 46 = .ok (.getfield 110, 3) := dc_180 (qU2_win (r := 46) wn_Reader_readPart_0 (by decide +kernel))
theorem d_Reader_readPart_49 : decode b_Reader_readPart 49 = .ok (.aload_n 1, 1) := dc_43 (q0_win (r := 49) wn_Reader_readPart_0 (by decide +kernel))
theorem d_Reader_readPart_50 : decode b_Reader_readPart 50 = .ok (.getfield 107, 3) := dc_180 (qU2_win (r := 50) wn_Reader_readPart_0 (by decide +kernel))
theorem d_Reader_readPart_53 : decode b_Reader_readPart 53 = .ok (.iload_n 2, 1) := dc_28 (q0_win (r := 53) wn_Reader_readPart_0 (by decide +kernel))
theorem d_Reader_readPart_54 : decode b_Reader_readPart 54 = .ok (.invokestatic 134, 3) := dc_184 (qU2_win (r := 54) wn_Reader_readPart_0 (by decide +kernel))
theorem d_Reader_readPart_57 : decode b_Reader_readPart 57 = .ok (.istore_n 3, 1) := dc_62 (q0_win (r := 57) wn_Reader_readPart_0 (by decide +kernel))
theorem d_Reader_readPart_58 : decode b_Reader_readPart 58 = .ok (.iload_n 3, 1) := dc_29 (q0_win (r := 58) wn_Reader_readPart_0 (by decide +kernel))
theorem d_Reader_readPart_59 : decode b_Reader_readPart 59 = .ok (.ifCond .ge 13, 3) := dc_156 (qS2_win (r := 59) wn_Reader_readPart_0 (by decide +kernel))
theorem d_Reader_readPart_62 : decode b_Reader_readPart 62 = .ok (.aload_n 0, 1) := dc_42 (q0_win (r := 62) wn_Reader_readPart_0 (by decide +kernel))
theorem d_Reader_readPart_63 : decode b_Reader_readPart 63 = .ok (.iconst 4, 1) := dc_7 (q0_win (r := 63) wn_Reader_readPart_0 (by decide +kernel))
theorem d_Reader_readPart_64 : decode b_Reader_readPart 64 = .ok (.aload_n 0, 1) := dc_42 (q0_win (r := 64) wn_Reader_readPart_0 (by decide +kernel))
theorem d_Reader_readPart_65 : decode b_Reader_readPart 65 = .ok (.getfield 138, 3) := dc_180 (qU2_win (r := 65) wn_Reader_readPart_0 (by decide +kernel))
theorem d_Reader_readPart_68 : decode b_Reader_readPart 68 = .ok (.invokevirtual 47, 3) := dc_182 (qU2_win (r := 68) wn_Reader_readPart_0 (by decide +kernel))
theorem d_Reader_readPart_71 : decode b_Reader_readPart 71 = .ok (.ireturn, 1) := dc_172 (q0_win (r := 71) wn_Reader_readPart_0 (by decide +kernel))
theorem d_Reader_readPart_72 : decode b_Reader_readPart 72 = .ok (.aload_n 0, 1) := dc_42 (q0_win (r := 72) wn_Reader_readPart_0 (by decide +kernel))
theorem d_Reader_readPart_73 : decode b_Reader_readPart 73 = .ok (.iconst 0, 1) := dc_3 (q0_win (r := 73) wn_Reader_readPart_0 (by decide +kernel))
theorem d_Reader_readPart_74 : decode b_Reader_readPart 74 = .ok (.aload_n 1, 1) := dc_43 (q0_win (r := 74) wn_Reader_readPart_0 (by decide +kernel))
theorem d_Reader_readPart_75 : decode b_Reader_readPart 75 = .ok (.getfield 101, 3) := dc_180 (qU2_win (r := 75) wn_Reader_readPart_0 (by decide +kernel))
theorem d_Reader_readPart_78 : decode b_Reader_readPart 78 = .ok (.iconst 1, 1) := dc_4 (q0_win (r := 78) wn_Reader_readPart_0 (by decide +kernel))
theorem d_Reader_readPart_79 : decode b_Reader_readPart 79 = .ok (.isub, 1) := dc_100 (q0_win (r := 79) wn_Reader_readPart_0 (by decide +kernel))
theorem d_Reader_readPart_80 : decode b_Reader_readPart 80 = .ok (.invokevirtual 97, 3) := dc_182 (qU2_win (r := 80) wn_Reader_readPart_0 (by decide +kernel))
theorem d_Reader_readPart_83 : decode b_Reader_readPart 83 = .ok (.istore 4, 2) := dc_54 (qU1_win (r := 83) wn_Reader_readPart_0 (by decide +kernel))
theorem d_Reader_readPart_85 : decode b_Reader_readPart 85 = .ok (.iload 4, 2) := dc_21 (qU1_win (r := 85) wn_Reader_readPart_0 (by decide +kernel))
theorem d_Reader_readPart_87 : decode b_Reader_readPart 87 = .ok (.ifCond .ge 7, 3) := dc_156 (qS2_win (r := 87) wn_Reader_readPart_0 (by decide +kernel))
theorem d_Reader_readPart_90 : decode b_Reader_readPart 90 = .ok (.iconst (-1), 1) := dc_2 (q0_win (r := 90) wn_Reader_readPart_0 (by decide +kernel))
theorem d_Reader_readPart_91 : decode b_Reader_readPart 91 = .ok (.goto 14, 3) := dc_167 (qS2_win (r := 91) wn_Reader_readPart_0 (by decide +kernel))
theorem d_Reader_readPart_94 : decode b_Reader_readPart 94 = .ok (.aload_n 0, 1) := dc_42 (q0_win (r := 94) wn_Reader_readPart_0 (by decide +kernel))
theorem d_Reader_readPart_95 : decode b_Reader_readPart 95 = .ok (.iconst 0, 1) := dc_3 (q0_win (r := 95) wn_Reader_readPart_0 (by decide +kernel))
theorem wn_Reader_readPart_96 : ∀ i, i < 96 → bA b_Reader_readPart (96 + i) = wB [43, 180, 0, 104, 4, 100, 182, 0, 97, 54, 5, 21, 5, 156, 0, 7, 2, 167, 0, 15, 42, 21, 4, 43, 180, 0, 101, 4, 100, 182, 0, 97, 54, 6, 21, 6, 156, 0, 7, 2, 167, 0, 15, 42, 21, 5, 43, 180, 0, 104, 4, 100, 182, 0, 97, 54, 7, 21, 7, 156, 0, 5, 3, 172, 21, 5, 54, 8, 21, 8, 21, 7, 163, 0, 44, 21, 4, 54, 9, 21, 9, 21, 6, 163, 0, 27, 43, 180, 0, 141, 21, 8, 43, 180, 0, 101] i := wB_of (by decide +kernel)
theorem d_Reader_readPart_96 : decode b_Reader_readPart 96 = .ok (.aload_n 1, 1) := dc_43 (q0_win (r := 0) wn_Reader_readPart_96 (by decide +kernel))
theorem d_Reader_readPart_97 : decode b_Reader_readPart 97 = .ok (.getfield 104, 3) := dc_180 (qU2_win (r := 1) wn_Reader_readPart_96 (by decide +kernel))
theorem d_Reader_readPart_100 : decode b_Reader_readPart 100 = .ok (.iconst 1, 1) := dc_4 (q0_win (r := 4) wn_Reader_readPart_96 (by decide +kernel))
theorem d_Reader_readPart_101 : decode b_Reader_readPart 101 = .ok (.isub, 1) := dc_100 (q0_win (r := 5) wn_Reader_readPart_96 (by decide +kernel))
theorem d_Reader_readPart_102 : decode b_Reader_readPart 102 = .ok (.invokevirtual 97, 3) := dc_182 (qU2_win (r := 6) wn_Reader_readPart_96 (by decide +kernel))
theorem d_Reader_readPart_105 : decode b_Reader_readPart 105 = .ok (.istore 5, 2) := dc_54 (qU1_win (r := 9) wn_Reader_readPart_96 (by decide +kernel))
theorem d_Reader_readPart_107 : decode b_Reader_readPart 107 = .ok (.iload 5, 2) := dc_21 (qU1_win (r := 11) wn_Reader_readPart_96 (by decide +kernel))
theorem d_Reader_readPart_109 : decode b_Reader_readPart 109 = .ok (.ifCond .ge 7, 3) := dc_156 (qS2_win (r := 13) wn_Reader_readPart_96 (by decide +kernel))
theorem d_Reader_readPart_112 : decode b_Reader_readPart 112 = .ok (.iconst (-1), 1) := dc_2 (q0_win (r := 16) wn_Reader_readPart_96 (by decide +kernel))
theorem d_Reader_readPart_113 : decode b_Reader_readPart 113 = .ok (.goto 15, 3) := dc_167 (qS2_win (r := 17) wn_Reader_readPart_96 (by decide +kernel))
theorem d_Reader_readPart_116 : decode b_Reader_readPart 116 = .ok (.aload_n 0, 1) := dc_42 (q0_win (r := 20) wn_Reader_readPart_96 (by decide +kernel))
theorem d_Reader_readPart_117 : decode b_Reader_readPart 117 = .ok (.iload 4, 2) := dc_21 (qU1_win (r := 21) wn_Reader_readPart_96 (by decide +kernel))
theorem d_Reader_readPart_119 : decode b_Reader_readPart 119 = .ok (.aload_n 1, 1) := dc_43 (q0_win (r := 23) wn_Reader_readPart_96 (by decide +kernel))
theorem d_Reader_readPart_120 : decode b_Reader_readPart 120 = .ok (.getfield 101, 3) := dc_180 (qU2_win (r := 24) wn_Reader_readPart_96 (by decide +kernel))
theorem d_Reader_readPart_123 : decode b_Reader_readPart 123 = .ok (.iconst 1, 1) := dc_4 (q0_win (r := 27) wn_Reader_readPart_96 (by decide +kernel))
theorem d_Reader_readPart_124 : decode b_Reader_readPart 124 = .ok (.isub, 1) := dc_100 (q0_win (r := 28) wn_Reader_readPart_96 (by decide +kernel))
theorem d_Reader_readPart_125 : decode b_Reader_readPart 125 = .ok (.invokevirtual 97, 3) := dc_182 (qU2_win (r := 29) wn_Reader_readPart_96 (by decide +kernel))
theorem d_Reader_readPart_128 : decode b_Reader_readPart 128 = .ok (.istore 6, 2) := dc_54 (qU1_win (r := 32) wn_Reader_readPart_96 (by decide +kernel))
theorem d_Reader_readPart_130 : decode b_Reader_readPart 130 = .ok (.iload 6, 2) := dc_21 (qU1_win (r := 34) wn_Reader_readPart_96 (by decide +kernel))
theorem d_Reader_readPart_132 : decode b_Reader_readPart 132 = .ok (.ifCond .ge 7, 3) := dc_156 (qS2_win (r := 36) wn_Reader_readPart_96 (by decide +kernel))
theorem d_Reader_readPart_135 : decode b_Reader_readPart 135 = .ok (.iconst (-1), 1) := dc_2 (q0_win (r := 39) wn_Reader_readPart_96 (by decide +kernel))
theorem d_Reader_readPart_136 : decode b_Reader_readPart 136 = .ok (.goto 15, 3) := dc_167 (qS2_win (r := 40) wn_Reader_readPart_96 (by decide +kernel))
theorem d_Reader_readPart_139 : decode b_Reader_readPart 139 = .ok (.aload_n 0, 1) := dc_42 (q0_win (r := 43) wn_Reader_readPart_96 (by decide +kernel))
theorem d_Reader_readPart_140 : decode b_Reader_readPart 140 = .ok (.iload 5, 2) := dc_21 (qU1_win (r := 44) wn_Reader_readPart_96 (by decide +kernel))
theorem d_Reader_readPart_142 : decode b_Reader_readPart 142 = .ok (.aload_n 1, 1) := dc_43 (q0_win (r := 46) wn_Reader_readPart_96 (by decide +kernel))
theorem d_Reader_readPart_143 : decode b_Reader_readPart 143 = .ok (.getfield 104, 3) := dc_180 (qU2_win (r := 47) wn_Reader_readPart_96 (by decide +kernel))
theorem d_Reader_readPart_146 : decode b_Reader_readPart 146 = .ok (.iconst 1, 1) := dc_4 (q0_win (r := 50) wn_Reader_readPart_96 (by decide +kernel))
theorem d_Reader_readPart_147 : decode b_Reader_readPart 147 = .ok (.isub, 1) := dc_100 (q0_win (r := 51) wn_Reader_readPart_96 (by decide +kernel))
theorem d_Reader_readPart_148 : decode b_Reader_readPart 148 = .ok (.invokevirtual 97, 3) := dc_182 (qU2_win (r := 52) wn_Reader_readPart_96 (by decide +kernel))
theorem d_Reader_readPart_151 : decode b_Reader_readPart 151 = .ok (.istore 7, 2) := dc_54 (qU1_win (r := 55) wn_Reader_readPart_96 (by decide +kernel))
theorem d_Reader_readPart_153 : decode b_Reader_readPart 153 = .ok (.iload 7, 2) := dc_21 (qU1_win (r := 57) wn_Reader_readPart_96 (by decide +kernel))
theorem d_Reader_readPart_155 : decode b_Reader_readPart 155 = .ok (.ifCond .ge 5, 3) := dc_156 (qS2_win (r := 59) wn_Reader_readPart_96 (by decide +kernel))
theorem d_Reader_readPart_158 : decode b_Reader_readPart 158 = .ok (.iconst 0, 1) := dc_3 (q0_win (r := 62) wn_Reader_readPart_96 (by decide +kernel))
theorem d_Reader_readPart_159 : decode b_Reader_readPart 159 = .ok (.ireturn, 1) := dc_172 (q0_win (r := 63) wn_Reader_readPart_96 (by decide +kernel))
theorem d_Reader_readPart_160 : decode b_Reader_readPart 160 = .ok (.iload 5, 2) := dc_21 (qU1_win (r := 64) wn_Reader_readPart_96 (by decide +kernel))
theorem d_Reader_readPart_162 : decode b_Reader_readPart 162 = .ok (.istore 8, 2) := dc_54 (qU1_win (r := 66) wn_Reader_readPart_96 (by decide +kernel))
theorem d_Reader_readPart_164 : decode b_Reader_readPart 164 = .ok (.iload 8, 2) := dc_21 (qU1_win (r := 68) wn_Reader_readPart_96 (by decide +kernel))
theorem d_Reader_readPart_166 : decode b_Reader_readPart 166 = .ok (.iload 7, 2) := dc_21 (qU1_win (r := 70) wn_Reader_readPart_96 (by decide +kernel))
theorem d_Reader_readPart_168 : decode b_Reader_readPart 168 = .ok (.if_icmp .gt 44, 3) := dc_163 (qS2_win (r := 72) wn_Reader_readPart_96 (by decide +kernel))
theorem d_Reader_readPart_171 : decode b_Reader_readPart 171 = .ok (.iload 4, 2) := dc_21 (qU1_win (r := 75) wn_Reader_readPart_96 (by decide +kernel))
theorem d_Reader_readPart_173 : decode b_Reader_readPart 173 = .ok (.istore 9, 2) := dc_54 (qU1_win (r := 77) wn_Reader_readPart_96 (by decide +kernel))
theorem d_Reader_readPart_175 : decode b_Reader_readPart 175 = .ok (.iload 9, 2) := dc_21 (qU1_win (r := 79) wn_Reader_readPart_96 (by decide +kernel))
theorem d_Reader_readPart_177 : decode b_Reader_readPart 177 = .ok (.iload 6, 2) := dc_21 (qU1_win (r := 81) wn_Reader_readPart_96 (by decide +kernel))
theorem d_Reader_readPart_179 : decode b_Reader_readPart 179 = .ok (.if_icmp .gt 27, 3) := dc_163 (qS2_win (r := 83) wn_Reader_readPart_96 (by decide +kernel))
theorem d_Reader_readPart_182 : decode b_Reader_readPart 182 = .ok (.aload_n 1, 1) := dc_43 (q0_win (r := 86) wn_Reader_readPart_96 (by decide +kernel))
theorem d_Reader_readPart_183 : decode b_Reader_readPart 183 = .ok (.getfield 141, 3) := dc_180 (qU2_win (r := 87) wn_Reader_readPart_96 (by decide +kernel))
theorem d_Reader_readPart_186 : decode b_Reader_readPart 186 = .ok (.iload 8, 2) := dc_21 (qU1_win (r := 90) wn_Reader_readPart_96 (by decide +kernel))
theorem d_Reader_readPart_188 : decode b_Reader_readPart 188 = .ok (.aload_n 1, 1) := dc_43 (q0_win (r := 92) wn_Reader_readPart_96 (by decide +kernel))
theorem d_Reader_readPart_189 : decode b_Reader_readPart 189 = .ok (.getfield 101, 3) := dc_180 (qU2_win (r := 93) wn_Reader_readPart_96 (by decide +kernel))
theorem wn_Reader_readPart_192 : ∀ i, i < 32 → bA b_Reader_readPart (192 + i) = wB [104, 21, 9, 96, 29, 184, 0, 121, 132, 9, 1, 167, 255, 228, 132, 8, 1, 167, 255, 211, 42, 89, 180, 0, 64, 4, 96, 181, 0, 64, 4, 172] i := wB_of (by decide +kernel)
theorem d_Reader_readPart_192 : decode b_Reader_readPart 192 = .ok (.imul, 1) := dc_104 (q0_win (r := 0) wn_Reader_readPart_192 (by decide +kernel))
theorem d_Reader_readPart_193 : decode b_Reader_readPart 193 = .ok (.iload 9, 2) := dc_21 (qU1_win (r := 1) wn_Reader_readPart_192 (by decide +kernel))
theorem d_Reader_readPart_195 : decode b_Reader_readPart 195 = .ok (.iadd, 1) := dc_96 (q0_win (r := 3) wn_Reader_readPart_192 (by decide +kernel))
theorem d_Reader_readPart_196 : decode b_Reader_readPart 196 = .ok (.iload_n 3, 1) := dc_29 (q0_win (r := 4) wn_Reader_readPart_192 (by decide +kernel))
theorem d_Reader_readPart_197 : decode b_Reader_readPart 197 = .ok (.invokestatic 121, 3) := dc_184 (qU2_win (r := 5) wn_Reader_readPart_192 (by decide +kernel))
theorem d_Reader_readPart_200 : decode b_Reader_readPart 200 = .ok (.iinc 9 1, 3) := dc_132 (qI_win (r := 8) wn_Reader_readPart_192 (by decide +kernel))
theorem d_Reader_readPart_203 : decode b_Reader_readPart 203 = .ok (.goto (-28), 3) := dc_167 (qS2_win (r := 11) wn_Reader_readPart_192 (by decide +kernel))
theorem d_Reader_readPart_206 : decode b_Reader_readPart 206 = .ok (.iinc 8 1, 3) := dc_132 (qI_win (r := 14) wn_Reader_readPart_192 (by decide +kernel))
theorem d_Reader_readPart_209 : decode b_Reader_readPart 209 = .ok (.goto (-45), 3) := dc_167 (qS2_win (r := 17) wn_Reader_readPart_192 (by decide +kernel))
theorem d_Reader_readPart_212 : decode b_Reader_readPart 212 = .ok (.aload_n 0, 1) := dc_42 (q0_win (r := 20) wn_Reader_readPart_192 (by decide +kernel))
theorem d_Reader_readPart_213 : decode b_Reader_readPart 213 = .ok (.dup, 1) := dc_89 (q0_win (r := 21) wn_Reader_readPart_192 (by decide +kernel))
theorem d_Reader_readPart_214 : decode b_Reader_readPart 214 = .ok (.getfield 64, 3) := dc_180 (qU2_win (r := 22) wn_Reader_readPart_192 (by decide +kernel))
theorem d_Reader_readPart_217 : decode b_Reader_readPart 217 = .ok (.iconst 1, 1) := dc_4 (q0_win (r := 25) wn_Reader_readPart_192 (by decide +kernel))
theorem d_Reader_readPart_218 : decode b_Reader_readPart 218 = .ok (.iadd, 1) := dc_96 (q0_win (r := 26) wn_Reader_readPart_192 (by decide +kernel))
theorem d_Reader_readPart_219 : decode b_Reader_readPart 219 = .ok (.putfield 64, 3) := dc_181 (qU2_win (r := 27) wn_Reader_readPart_192 (by decide +kernel))
theorem d_Reader_readPart_222 : decode b_Reader_readPart 222 = .ok (.iconst 1, 1) := dc_4 (q0_win (r := 30) wn_Reader_readPart_192 (by decide +kernel))
theorem d_Reader_readPart_223 : decode b_Reader_readPart 223 = .ok (.ireturn, 1) := dc_172 (q0_win (r := 31) wn_Reader_readPart_192 (by decide +kernel))
def t_Reader_readPart_L175 (k1 : Nat) (bk164 : Mem → Int → Int → Int → Int → Int → Option (Mem × Int)) : Nat → Mem → Int → Int → Int → Int → Int → Int → Option (Mem × Int)
  | 0, _, _, _, _, _, _, _ => none
  | fu + 1, M, v2_, v3_, v4_, v5_, v6_, v7_ => (if v4_ < v7_ then (bk164 M v2_ v3_ v4_ v5_ (w32 (v6_ + 1))) else (qlet (t_WF_put M (k1 + 8) 48 (w32 ((w32 (v6_ * (M.1 k1 11))) + v7_)) v2_) fun q41 => (t_Reader_readPart_L175 k1 bk164 fu q41 v2_ v3_ v4_ v5_ v6_ (w32 (v7_ + 1)))))
def t_Reader_readPart_L164 (k1 : Nat)  : Nat → Mem → Int → Int → Int → Int → Int → Option (Mem × Int)
  | 0, _, _, _, _, _, _ => none
  | fu + 1, M, v2_, v3_, v4_, v5_, v6_ => (if v5_ < v6_ then (qlet (setI M 46 6 (w32 ((M.1 46 6) + 1))) fun M38 => (some (M38, 1))) else (t_Reader_readPart_L175 k1 (fun a0_ a1_ a2_ a3_ a4_ a5_ => t_Reader_readPart_L164 k1 fu a0_ a1_ a2_ a3_ a4_ a5_) FU M v2_ v3_ v4_ v5_ v6_ v3_))
def t_Reader_readPart_L151 (k1 : Nat)  (M : Mem) (v2_ : Int) (v3_ : Int) (v4_ : Int) (v5_ : Int) (v6_ : Int) : Option (Mem × Int) := (if 0 ≤ v6_ then (t_Reader_readPart_L164 k1 FU M v2_ v3_ v5_ v6_ v4_) else (some (M, 0)))
def t_Reader_readPart_L128 (k1 : Nat)  (M : Mem) (v2_ : Int) (v3_ : Int) (v4_ : Int) (v5_ : Int) : Option (Mem × Int) := (if 0 ≤ v5_ then (obind (t_Reader_takeNumber M v4_ (w32 ((M.1 k1 12) - 1))) fun q33 => (t_Reader_readPart_L151 k1 (q33.1) v2_ v3_ v4_ v5_ (q33.2))) else (t_Reader_readPart_L151 k1 M v2_ v3_ v4_ v5_ (-1)))
def t_Reader_readPart_L105 (k1 : Nat)  (M : Mem) (v2_ : Int) (v3_ : Int) (v4_ : Int) : Option (Mem × Int) := (if 0 ≤ v4_ then (obind (t_Reader_takeNumber M v3_ (w32 ((M.1 k1 11) - 1))) fun q29 => (t_Reader_readPart_L128 k1 (q29.1) v2_ v3_ v4_ (q29.2))) else (t_Reader_readPart_L128 k1 M v2_ v3_ v4_ (-1)))
def t_Reader_readPart (M : Mem) (k1 : Nat) : Option (Mem × Int) := (if (M.1 46 6) < 12 then (obind (t_Reader_goTo M (w32 ((M.1 46 1) + 1))) fun q4 => (obind (t_Reader_take q4 30) fun q7 => (if (q7.2) = 0 then (some ((q7.1), 0)) else (obind (t_WF_indexOf (q7.1) (k1 + 1) 4 ((q7.1).1 k1 14) (q4.1 46 3)) fun q11 => (if 0 ≤ q11 then (obind (t_Reader_takeNumber (q7.1) 0 (w32 (((q7.1).1 k1 11) - 1))) fun q15 => (if 0 ≤ (q15.2) then (obind (t_Reader_takeNumber (q15.1) 0 (w32 (((q15.1).1 k1 12) - 1))) fun q19 => (t_Reader_readPart_L105 k1 (q19.1) q11 (q15.2) (q19.2))) else (t_Reader_readPart_L105 k1 (q15.1) q11 (q15.2) (-1)))) else (qlet (t_Reader_refuse (q7.1) 4 ((q7.1).1 46 5)) fun q22 => (some ((q22.1), (q22.2))))))))) else (qlet (t_Reader_refuse M 2 (M.1 46 4)) fun q25 => (some ((q25.1), (q25.2)))))
set_option maxHeartbeats 4000000 in
set_option maxRecDepth 100000 in
theorem k_Reader_readPart_L175 (l : Launch) {p : Program} {e : Env} {s : State} {m : MethodId} {below : List Frame} {meth : Method} {c : Code} {b n : Nat} {C : CT} (hlo : 191 ≤ n) (k1 : Nat) (hk1 : isTown k1) (F : Cx b p m c b_Reader_readPart 10 s ([.ref (b + 46), .ref (b + k1)] : List Value).toArray "WardFalls$Reader" C n 191) (hlk : meth.locks = false) (hr : meth.sig.returnType = some .boolean) {res : Mem × Int} (bk164 : Mem → Int → Int → Int → Int → Int → Option (Mem × Int)) (hbk164 : ∀ (M : Mem) (v2_ : Int) (hv2_ : InR v2_) (v3_ : Int) (hv3_ : InR v3_) (v4_ : Int) (hv4_ : InR v4_) (v5_ : Int) (hv5_ : InR v5_) (v6_ : Int) (hv6_ : InR v6_) (H : Heap) (locs : List Loc) (ls : Array Slot), St b C n M s H locs → lv_has ls 10 [(0, .ref (b + 46)), (1, .ref (b + k1)), (3, vI v2_), (4, vI v3_), (6, vI v4_), (7, vI v5_), (8, vI v6_)] → bk164 M v2_ v3_ v4_ v5_ v6_ = some res → W p l e (headSpec (wsM y_Reader_readPart b_Reader_readPart 10 (some .boolean)) (rmD 4)).room s m ([.ref (b + 46), .ref (b + k1)] : List Value).toArray below meth c H locs 0 0 (MQ below (QZ b C n res.1 res.2) ([.ref (b + 46), .ref (b + k1)] : List Value).toArray s 0 0 (frb b)) (F0 m 164 ls [])) : ∀ (fu : Nat) (M : Mem) (v2_ : Int) (hv2_ : InR v2_) (v3_ : Int) (hv3_ : InR v3_) (v4_ : Int) (hv4_ : InR v4_) (v5_ : Int) (hv5_ : InR v5_) (v6_ : Int) (hv6_ : InR v6_) (v7_ : Int) (hv7_ : InR v7_) (H : Heap) (locs : List Loc) (ls : Array Slot), St b C n M s H locs → lv_has ls 10 [(0, .ref (b + 46)), (1, .ref (b + k1)), (3, vI v2_), (4, vI v3_), (6, vI v4_), (7, vI v5_), (8, vI v6_), (9, vI v7_)] → t_Reader_readPart_L175 k1 bk164 fu M v2_ v3_ v4_ v5_ v6_ v7_ = some res → W p l e (headSpec (wsM y_Reader_readPart b_Reader_readPart 10 (some .boolean)) (rmD 4)).room s m ([.ref (b + 46), .ref (b + k1)] : List Value).toArray below meth c H locs 0 0 (MQ below (QZ b C n res.1 res.2) ([.ref (b + 46), .ref (b + k1)] : List Value).toArray s 0 0 (frb b)) (F0 m 175 ls []) := by
  intro fu
  induction fu with
  | zero => intro M v2_ hv2_ v3_ hv3_ v4_ hv4_ v5_ hv5_ v6_ hv6_ v7_ hv7_ H locs ls hS hl hT; exact absurd hT (by simp [t_Reader_readPart_L175])
  | succ fu ih =>
    intro M v2_ hv2_ v3_ hv3_ v4_ hv4_ v5_ hv5_ v6_ hv6_ v7_ hv7_ H locs ls hS hl hT
    rw [t_Reader_readPart_L175] at hT
    refine lv_iload F.hx F.hb d_Reader_readPart_175 (lv_at hl 7 rfl) ?_
    refine lv_iload F.hx F.hb d_Reader_readPart_177 (lv_at hl 4 rfl) ?_
    refine r_icmp_gt (tgt := 206) F.hx F.hb hv7_ hv4_ d_Reader_readPart_179 (by decide) (fun c39 => ?_) (fun c39 => ?_)
    · replace hT := (if_pos c39).symm.trans hT
      refine lv_iinc (v := Int32.ofInt (w32 (v6_ + 1))) (lv' := [(8, vI (w32 (v6_ + 1))), (0, .ref (b + 46)), (1, .ref (b + k1)), (3, vI v2_), (4, vI v3_), (6, vI v4_), (7, vI v5_), (9, vI v7_)]) F.hx F.hb d_Reader_readPart_206 hl (k := 6) rfl (q_of_add _ _) (Nat.le_of_ble_eq_true rfl) rfl (fun ls hl => ?_)
      refine lv_goto (tgt := 164) F.hx F.hb d_Reader_readPart_209 (by decide) ?_
      exact hbk164 M v2_ hv2_ v3_ hv3_ v4_ hv4_ v5_ hv5_ (w32 (v6_ + 1)) (inr_w32 _) _ _ _ hS (lv_sub hl [1, 2, 3, 4, 5, 6, 0] rfl) hT
    · replace hT := (if_neg c39).symm.trans hT
      refine lv_aload_n F.hx F.hb d_Reader_readPart_182 rfl (lv_at hl 1 rfl) ?_
      refine r_get (v := .ref (b + (k1 + 8))) (N := 20) (T := T11) (j := 7) F hS (Town_lt hk1) (Town_sh hk1) (Town_N hk1) rfl (Nat.le_of_ble_eq_true rfl) ing11 mw_113 (Town_g7 hk1 _) d_Reader_readPart_183 ?_
      refine lv_iload F.hx F.hb d_Reader_readPart_186 (lv_at hl 6 rfl) ?_
      refine lv_aload_n F.hx F.hb d_Reader_readPart_188 rfl (lv_at hl 1 rfl) ?_
      refine r_get (v := vI (M.1 k1 11)) (N := 20) (T := T11) (j := 11) F hS (Town_lt hk1) (Town_sh hk1) (Town_N hk1) rfl (Nat.le_of_ble_eq_true rfl) ing11 mw_122 (fv_int rfl) d_Reader_readPart_189 ?_
      have i40 := hS.rng k1 11
      refine r_imul F.hx F.hb d_Reader_readPart_192 ?_
      refine lv_iload F.hx F.hb d_Reader_readPart_193 (lv_at hl 7 rfl) ?_
      refine r_iadd F.hx F.hb d_Reader_readPart_195 ?_
      refine lv_iload_n F.hx F.hb d_Reader_readPart_196 rfl (lv_at hl 2 rfl) ?_
      obtain ⟨q41, hq41⟩ : ∃ q, q = (t_WF_put M (k1 + 8) 48 (w32 ((w32 (v6_ * (M.1 k1 11))) + v7_)) v2_) := ⟨_, rfl⟩
      replace hT := qlet_eq hT hq41
      refine r_backV F hS (r_runSN (As := [.ref (b + (k1 + 8)), vI (w32 ((w32 (v6_ * (M.1 k1 11))) + v7_)), vI v2_]) F hS (c_WF_put l F.2.2.1 M (k1 + 8) 48 (w32 ((w32 (v6_ * (M.1 k1 11))) + v7_)) v2_ (Town_f7 hk1) (inr_w32 _) hv2_ _ hq41.symm) mw_512 mw_511 mw_1 gs_Reader_121 hd_WF_put ⟨Nat.le_of_ble_eq_true rfl, Nat.le_of_ble_eq_true rfl⟩ rfl hl.1 (Nat.le_of_ble_eq_true rfl) ⟨Nat.zero_le _, Nat.zero_le _⟩ rfl d_Reader_readPart_197) (fun H locs hS => ?_)
      refine lv_iinc (v := Int32.ofInt (w32 (v7_ + 1))) (lv' := [(9, vI (w32 (v7_ + 1))), (0, .ref (b + 46)), (1, .ref (b + k1)), (3, vI v2_), (4, vI v3_), (6, vI v4_), (7, vI v5_), (8, vI v6_)]) F.hx F.hb d_Reader_readPart_200 hl (k := 7) rfl (q_of_add _ _) (Nat.le_of_ble_eq_true rfl) rfl (fun ls hl => ?_)
      refine lv_goto (tgt := 175) F.hx F.hb d_Reader_readPart_203 (by decide) ?_
      exact ih q41 v2_ hv2_ v3_ hv3_ v4_ hv4_ v5_ hv5_ v6_ hv6_ (w32 (v7_ + 1)) (inr_w32 _) _ _ _ hS (lv_sub hl [1, 2, 3, 4, 5, 6, 7, 0] rfl) hT
set_option maxHeartbeats 4000000 in
set_option maxRecDepth 100000 in
theorem k_Reader_readPart_L164 (l : Launch) {p : Program} {e : Env} {s : State} {m : MethodId} {below : List Frame} {meth : Method} {c : Code} {b n : Nat} {C : CT} (hlo : 191 ≤ n) (k1 : Nat) (hk1 : isTown k1) (F : Cx b p m c b_Reader_readPart 10 s ([.ref (b + 46), .ref (b + k1)] : List Value).toArray "WardFalls$Reader" C n 191) (hlk : meth.locks = false) (hr : meth.sig.returnType = some .boolean) {res : Mem × Int} : ∀ (fu : Nat) (M : Mem) (v2_ : Int) (hv2_ : InR v2_) (v3_ : Int) (hv3_ : InR v3_) (v4_ : Int) (hv4_ : InR v4_) (v5_ : Int) (hv5_ : InR v5_) (v6_ : Int) (hv6_ : InR v6_) (H : Heap) (locs : List Loc) (ls : Array Slot), St b C n M s H locs → lv_has ls 10 [(0, .ref (b + 46)), (1, .ref (b + k1)), (3, vI v2_), (4, vI v3_), (6, vI v4_), (7, vI v5_), (8, vI v6_)] → t_Reader_readPart_L164 k1 fu M v2_ v3_ v4_ v5_ v6_ = some res → W p l e (headSpec (wsM y_Reader_readPart b_Reader_readPart 10 (some .boolean)) (rmD 4)).room s m ([.ref (b + 46), .ref (b + k1)] : List Value).toArray below meth c H locs 0 0 (MQ below (QZ b C n res.1 res.2) ([.ref (b + 46), .ref (b + k1)] : List Value).toArray s 0 0 (frb b)) (F0 m 164 ls []) := by
  intro fu
  induction fu with
  | zero => intro M v2_ hv2_ v3_ hv3_ v4_ hv4_ v5_ hv5_ v6_ hv6_ H locs ls hS hl hT; exact absurd hT (by simp [t_Reader_readPart_L164])
  | succ fu ih =>
    intro M v2_ hv2_ v3_ hv3_ v4_ hv4_ v5_ hv5_ v6_ hv6_ H locs ls hS hl hT
    rw [t_Reader_readPart_L164] at hT
    refine lv_iload F.hx F.hb d_Reader_readPart_164 (lv_at hl 6 rfl) ?_
    refine lv_iload F.hx F.hb d_Reader_readPart_166 (lv_at hl 5 rfl) ?_
    refine r_icmp_gt (tgt := 212) F.hx F.hb hv6_ hv5_ d_Reader_readPart_168 (by decide) (fun c36 => ?_) (fun c36 => ?_)
    · replace hT := (if_pos c36).symm.trans hT
      refine lv_aload_n F.hx F.hb d_Reader_readPart_212 rfl (lv_at hl 0 rfl) ?_
      refine lv_dup F.hx F.hb d_Reader_readPart_213 rfl ?_
      refine r_get (v := vI (M.1 46 6)) (N := 11) (T := T8) (j := 6) F hS (show 46 < 191 by decide) (show shK 46 = 12 from rfl) (show shN 46 = 11 from rfl) rfl (Nat.le_of_ble_eq_true rfl) ing8 mw_236 (fv_int rfl) d_Reader_readPart_214 ?_
      have i37 := hS.rng 46 6
      refine r_iconst F.hx F.hb d_Reader_readPart_217 ?_
      refine r_iadd F.hx F.hb d_Reader_readPart_218 ?_
      refine r_putI (N := 11) (T := T8) (j := 6) F hS (show 46 < 191 by decide) (show shK 46 = 12 from rfl) (show shN 46 = 11 from rfl) rfl (Nat.le_of_ble_eq_true rfl) ing8 tyok8 nm8 rfl rfl rfl rfl rfl rfl mw_236 (inr_w32 _) d_Reader_readPart_219 (fun H locs hS => ?_)
      obtain ⟨M38, eM38⟩ : ∃ q, q = (setI M 46 6 (w32 ((M.1 46 6) + 1))) := ⟨_, rfl⟩
      replace hS : St b C n M38 s H locs := by rw [eM38]; exact hS
      replace hT := qlet_eq hT eM38
      refine r_iconst F.hx F.hb d_Reader_readPart_222 ?_
      cases hT
      exact r_zret F hlk hr hS (Or.inr rfl) d_Reader_readPart_223
    · replace hT := (if_neg c36).symm.trans hT
      refine lv_iload F.hx F.hb d_Reader_readPart_171 (lv_at hl 3 rfl) ?_
      refine lv_istore (lv' := [(9, vI v3_), (0, .ref (b + 46)), (1, .ref (b + k1)), (3, vI v2_), (4, vI v3_), (6, vI v4_), (7, vI v5_), (8, vI v6_)]) F.hx F.hb d_Reader_readPart_173 hl (Nat.le_of_ble_eq_true rfl) rfl (fun ls hl => ?_)
      exact k_Reader_readPart_L175 l hlo k1 hk1 F hlk hr (fun a0_ a1_ a2_ a3_ a4_ a5_ => t_Reader_readPart_L164 k1 fu a0_ a1_ a2_ a3_ a4_ a5_) ih FU M v2_ hv2_ v3_ hv3_ v4_ hv4_ v5_ hv5_ v6_ hv6_ v3_ hv3_ _ _ _ hS (lv_sub hl [1, 2, 3, 4, 5, 6, 7, 0] rfl) hT
set_option maxHeartbeats 4000000 in
set_option maxRecDepth 100000 in
theorem k_Reader_readPart_L151 (l : Launch) {p : Program} {e : Env} {s : State} {m : MethodId} {below : List Frame} {meth : Method} {c : Code} {b n : Nat} {C : CT} (hlo : 191 ≤ n) (k1 : Nat) (hk1 : isTown k1) (F : Cx b p m c b_Reader_readPart 10 s ([.ref (b + 46), .ref (b + k1)] : List Value).toArray "WardFalls$Reader" C n 191) (hlk : meth.locks = false) (hr : meth.sig.returnType = some .boolean) {res : Mem × Int} (M : Mem) (v2_ : Int) (hv2_ : InR v2_) (v3_ : Int) (hv3_ : InR v3_) (v4_ : Int) (hv4_ : InR v4_) (v5_ : Int) (hv5_ : InR v5_) (v6_ : Int) (hv6_ : InR v6_) (H : Heap) (locs : List Loc) (ls : Array Slot) (hS : St b C n M s H locs) (hl : lv_has ls 10 [(0, .ref (b + 46)), (1, .ref (b + k1)), (3, vI v2_), (4, vI v3_), (5, vI v4_), (6, vI v5_)]) (hT : t_Reader_readPart_L151 k1 M v2_ v3_ v4_ v5_ v6_ = some res) : W p l e (headSpec (wsM y_Reader_readPart b_Reader_readPart 10 (some .boolean)) (rmD 4)).room s m ([.ref (b + 46), .ref (b + k1)] : List Value).toArray below meth c H locs 0 0 (MQ below (QZ b C n res.1 res.2) ([.ref (b + 46), .ref (b + k1)] : List Value).toArray s 0 0 (frb b)) (F0 m 151 ls [vI v6_]) := by
  unfold t_Reader_readPart_L151 at hT
  refine lv_istore (lv' := [(7, vI v6_), (0, .ref (b + 46)), (1, .ref (b + k1)), (3, vI v2_), (4, vI v3_), (5, vI v4_), (6, vI v5_)]) F.hx F.hb d_Reader_readPart_151 hl (Nat.le_of_ble_eq_true rfl) rfl (fun ls hl => ?_)
  refine lv_iload F.hx F.hb d_Reader_readPart_153 (lv_at hl 0 rfl) ?_
  refine r_if_ge (tgt := 160) F.hx F.hb hv6_ d_Reader_readPart_155 (by decide) (fun c35 => ?_) (fun c35 => ?_)
  · replace hT := (if_pos c35).symm.trans hT
    refine lv_iload F.hx F.hb d_Reader_readPart_160 (lv_at hl 5 rfl) ?_
    refine lv_istore (lv' := [(8, vI v4_), (7, vI v6_), (0, .ref (b + 46)), (1, .ref (b + k1)), (3, vI v2_), (4, vI v3_), (5, vI v4_), (6, vI v5_)]) F.hx F.hb d_Reader_readPart_162 hl (Nat.le_of_ble_eq_true rfl) rfl (fun ls hl => ?_)
    exact k_Reader_readPart_L164 l hlo k1 hk1 F hlk hr FU M v2_ hv2_ v3_ hv3_ v5_ hv5_ v6_ hv6_ v4_ hv4_ _ _ _ hS (lv_sub hl [2, 3, 4, 5, 7, 1, 0] rfl) hT
  · replace hT := (if_neg c35).symm.trans hT
    refine r_iconst F.hx F.hb d_Reader_readPart_158 ?_
    cases hT
    exact r_zret F hlk hr hS (Or.inl rfl) d_Reader_readPart_159
set_option maxHeartbeats 4000000 in
set_option maxRecDepth 100000 in
theorem k_Reader_readPart_L128 (l : Launch) {p : Program} {e : Env} {s : State} {m : MethodId} {below : List Frame} {meth : Method} {c : Code} {b n : Nat} {C : CT} (hlo : 191 ≤ n) (k1 : Nat) (hk1 : isTown k1) (F : Cx b p m c b_Reader_readPart 10 s ([.ref (b + 46), .ref (b + k1)] : List Value).toArray "WardFalls$Reader" C n 191) (hlk : meth.locks = false) (hr : meth.sig.returnType = some .boolean) {res : Mem × Int} (M : Mem) (v2_ : Int) (hv2_ : InR v2_) (v3_ : Int) (hv3_ : InR v3_) (v4_ : Int) (hv4_ : InR v4_) (v5_ : Int) (hv5_ : InR v5_) (H : Heap) (locs : List Loc) (ls : Array Slot) (hS : St b C n M s H locs) (hl : lv_has ls 10 [(0, .ref (b + 46)), (1, .ref (b + k1)), (3, vI v2_), (4, vI v3_), (5, vI v4_)]) (hT : t_Reader_readPart_L128 k1 M v2_ v3_ v4_ v5_ = some res) : W p l e (headSpec (wsM y_Reader_readPart b_Reader_readPart 10 (some .boolean)) (rmD 4)).room s m ([.ref (b + 46), .ref (b + k1)] : List Value).toArray below meth c H locs 0 0 (MQ below (QZ b C n res.1 res.2) ([.ref (b + 46), .ref (b + k1)] : List Value).toArray s 0 0 (frb b)) (F0 m 128 ls [vI v5_]) := by
  unfold t_Reader_readPart_L128 at hT
  refine lv_istore (lv' := [(6, vI v5_), (0, .ref (b + 46)), (1, .ref (b + k1)), (3, vI v2_), (4, vI v3_), (5, vI v4_)]) F.hx F.hb d_Reader_readPart_128 hl (Nat.le_of_ble_eq_true rfl) rfl (fun ls hl => ?_)
  refine lv_iload F.hx F.hb d_Reader_readPart_130 (lv_at hl 0 rfl) ?_
  refine r_if_ge (tgt := 139) F.hx F.hb hv5_ d_Reader_readPart_132 (by decide) (fun c31 => ?_) (fun c31 => ?_)
  · replace hT := (if_pos c31).symm.trans hT
    refine lv_aload_n F.hx F.hb d_Reader_readPart_139 rfl (lv_at hl 1 rfl) ?_
    refine lv_iload F.hx F.hb d_Reader_readPart_140 (lv_at hl 5 rfl) ?_
    refine lv_aload_n F.hx F.hb d_Reader_readPart_142 rfl (lv_at hl 2 rfl) ?_
    refine r_get (v := vI (M.1 k1 12)) (N := 20) (T := T11) (j := 12) F hS (Town_lt hk1) (Town_sh hk1) (Town_N hk1) rfl (Nat.le_of_ble_eq_true rfl) ing11 mw_125 (fv_int rfl) d_Reader_readPart_143 ?_
    have i32 := hS.rng k1 12
    refine r_iconst F.hx F.hb d_Reader_readPart_146 ?_
    refine r_isub F.hx F.hb d_Reader_readPart_147 ?_
    obtain ⟨q33, hq33, hT⟩ := q_obind hT
    refine r_backI F hS (r_runV (k := 46) (N := 11) (T := T8) (As := [vI v4_, vI (w32 ((M.1 k1 12) - 1))]) F hS (show 46 < 191 by decide) (show shK 46 = 12 from rfl) rfl (c_Reader_takeNumber l F.2.2.1 M v4_ (w32 ((M.1 k1 12) - 1)) hv4_ (inr_w32 _) _ hq33) gs_Reader_97 hd_Reader_takeNumber ⟨Nat.le_of_ble_eq_true rfl, Nat.le_of_ble_eq_true rfl⟩ rfl hl.1 (Nat.le_of_ble_eq_true rfl) ⟨Nat.zero_le _, Nat.zero_le _⟩ rfl d_Reader_readPart_148) (fun H locs hS h34 => ?_)
    exact k_Reader_readPart_L151 l hlo k1 hk1 F hlk hr (q33.1) v2_ hv2_ v3_ hv3_ v4_ hv4_ v5_ hv5_ (q33.2) h34 _ _ _ hS (lv_sub hl [1, 2, 3, 4, 5, 0] rfl) hT
  · replace hT := (if_neg c31).symm.trans hT
    refine r_iconst F.hx F.hb d_Reader_readPart_135 ?_
    refine lv_goto (tgt := 151) F.hx F.hb d_Reader_readPart_136 (by decide) ?_
    exact k_Reader_readPart_L151 l hlo k1 hk1 F hlk hr M v2_ hv2_ v3_ hv3_ v4_ hv4_ v5_ hv5_ (-1) (inr_c rfl) _ _ _ hS (lv_sub hl [1, 2, 3, 4, 5, 0] rfl) hT
set_option maxHeartbeats 4000000 in
set_option maxRecDepth 100000 in
theorem k_Reader_readPart_L105 (l : Launch) {p : Program} {e : Env} {s : State} {m : MethodId} {below : List Frame} {meth : Method} {c : Code} {b n : Nat} {C : CT} (hlo : 191 ≤ n) (k1 : Nat) (hk1 : isTown k1) (F : Cx b p m c b_Reader_readPart 10 s ([.ref (b + 46), .ref (b + k1)] : List Value).toArray "WardFalls$Reader" C n 191) (hlk : meth.locks = false) (hr : meth.sig.returnType = some .boolean) {res : Mem × Int} (M : Mem) (v2_ : Int) (hv2_ : InR v2_) (v3_ : Int) (hv3_ : InR v3_) (v4_ : Int) (hv4_ : InR v4_) (H : Heap) (locs : List Loc) (ls : Array Slot) (hS : St b C n M s H locs) (hl : lv_has ls 10 [(0, .ref (b + 46)), (1, .ref (b + k1)), (3, vI v2_), (4, vI v3_)]) (hT : t_Reader_readPart_L105 k1 M v2_ v3_ v4_ = some res) : W p l e (headSpec (wsM y_Reader_readPart b_Reader_readPart 10 (some .boolean)) (rmD 4)).room s m ([.ref (b + 46), .ref (b + k1)] : List Value).toArray below meth c H locs 0 0 (MQ below (QZ b C n res.1 res.2) ([.ref (b + 46), .ref (b + k1)] : List Value).toArray s 0 0 (frb b)) (F0 m 105 ls [vI v4_]) := by
  unfold t_Reader_readPart_L105 at hT
  refine lv_istore (lv' := [(5, vI v4_), (0, .ref (b + 46)), (1, .ref (b + k1)), (3, vI v2_), (4, vI v3_)]) F.hx F.hb d_Reader_readPart_105 hl (Nat.le_of_ble_eq_true rfl) rfl (fun ls hl => ?_)
  refine lv_iload F.hx F.hb d_Reader_readPart_107 (lv_at hl 0 rfl) ?_
  refine r_if_ge (tgt := 116) F.hx F.hb hv4_ d_Reader_readPart_109 (by decide) (fun c27 => ?_) (fun c27 => ?_)
  · replace hT := (if_pos c27).symm.trans hT
    refine lv_aload_n F.hx F.hb d_Reader_readPart_116 rfl (lv_at hl 1 rfl) ?_
    refine lv_iload F.hx F.hb d_Reader_readPart_117 (lv_at hl 4 rfl) ?_
    refine lv_aload_n F.hx F.hb d_Reader_readPart_119 rfl (lv_at hl 2 rfl) ?_
    refine r_get (v := vI (M.1 k1 11)) (N := 20) (T := T11) (j := 11) F hS (Town_lt hk1) (Town_sh hk1) (Town_N hk1) rfl (Nat.le_of_ble_eq_true rfl) ing11 mw_122 (fv_int rfl) d_Reader_readPart_120 ?_
    have i28 := hS.rng k1 11
    refine r_iconst F.hx F.hb d_Reader_readPart_123 ?_
    refine r_isub F.hx F.hb d_Reader_readPart_124 ?_
    obtain ⟨q29, hq29, hT⟩ := q_obind hT
    refine r_backI F hS (r_runV (k := 46) (N := 11) (T := T8) (As := [vI v3_, vI (w32 ((M.1 k1 11) - 1))]) F hS (show 46 < 191 by decide) (show shK 46 = 12 from rfl) rfl (c_Reader_takeNumber l F.2.2.1 M v3_ (w32 ((M.1 k1 11) - 1)) hv3_ (inr_w32 _) _ hq29) gs_Reader_97 hd_Reader_takeNumber ⟨Nat.le_of_ble_eq_true rfl, Nat.le_of_ble_eq_true rfl⟩ rfl hl.1 (Nat.le_of_ble_eq_true rfl) ⟨Nat.zero_le _, Nat.zero_le _⟩ rfl d_Reader_readPart_125) (fun H locs hS h30 => ?_)
    exact k_Reader_readPart_L128 l hlo k1 hk1 F hlk hr (q29.1) v2_ hv2_ v3_ hv3_ v4_ hv4_ (q29.2) h30 _ _ _ hS (lv_sub hl [1, 2, 3, 4, 0] rfl) hT
  · replace hT := (if_neg c27).symm.trans hT
    refine r_iconst F.hx F.hb d_Reader_readPart_112 ?_
    refine lv_goto (tgt := 128) F.hx F.hb d_Reader_readPart_113 (by decide) ?_
    exact k_Reader_readPart_L128 l hlo k1 hk1 F hlk hr M v2_ hv2_ v3_ hv3_ v4_ hv4_ (-1) (inr_c rfl) _ _ _ hS (lv_sub hl [1, 2, 3, 4, 0] rfl) hT
set_option maxHeartbeats 4000000 in
set_option maxRecDepth 100000 in
theorem c_Reader_readPart (l : Launch) {b n : Nat} {C : CT} (hlo : 191 ≤ n) (M : Mem) (k1 : Nat) (hk1 : isTown k1) (res : Mem × Int) (hT : t_Reader_readPart M k1 = some res) : CM l b C n 4 y_Reader_readPart b_Reader_readPart 10 (some .boolean) [.ref (b + 46), .ref (b + k1)] M (QZ b C n res.1 res.2) := by
  refine CM.of (lo := 191) (ow := "WardFalls$Reader") (by decide) rfl (Nat.le_of_ble_eq_true rfl) hlo (fun p e s m below meth c F hlk hr hS ls hl => ?_)
  have hl : lv_has ls 10 [(0, .ref (b + 46)), (1, .ref (b + k1))] := hl
  unfold t_Reader_readPart at hT
  refine lv_aload_n F.hx F.hb d_Reader_readPart_0 rfl (lv_at hl 0 rfl) ?_
  refine r_get (v := vI (M.1 46 6)) (N := 11) (T := T8) (j := 6) F hS (show 46 < 191 by decide) (show shK 46 = 12 from rfl) (show shN 46 = 11 from rfl) rfl (Nat.le_of_ble_eq_true rfl) ing8 mw_236 (fv_int rfl) d_Reader_readPart_1 ?_
  have i1 := hS.rng 46 6
  refine r_bipush F.hx F.hb d_Reader_readPart_4 rfl ?_
  refine r_icmp_lt (tgt := 19) F.hx F.hb i1 (inr_c rfl) d_Reader_readPart_6 (by decide) (fun c2 => ?_) (fun c2 => ?_)
  · replace hT := (if_pos c2).symm.trans hT
    refine lv_aload_n F.hx F.hb d_Reader_readPart_19 rfl (lv_at hl 0 rfl) ?_
    refine lv_aload_n F.hx F.hb d_Reader_readPart_20 rfl (lv_at hl 0 rfl) ?_
    refine r_get (v := vI (M.1 46 1)) (N := 11) (T := T8) (j := 1) F hS (show 46 < 191 by decide) (show shK 46 = 12 from rfl) (show shN 46 = 11 from rfl) rfl (Nat.le_of_ble_eq_true rfl) ing8 mw_231 (fv_int rfl) d_Reader_readPart_21 ?_
    have i3 := hS.rng 46 1
    refine r_iconst F.hx F.hb d_Reader_readPart_24 ?_
    refine r_iadd F.hx F.hb d_Reader_readPart_25 ?_
    obtain ⟨q4, hq4, hT⟩ := q_obind hT
    refine r_backV F hS (r_runV (k := 46) (N := 11) (T := T8) (As := [vI (w32 ((M.1 46 1) + 1))]) F hS (show 46 < 191 by decide) (show shK 46 = 12 from rfl) rfl (c_Reader_goTo l F.2.2.1 M (w32 ((M.1 46 1) + 1)) (inr_w32 _) _ hq4) gs_Reader_80 hd_Reader_goTo ⟨Nat.le_of_ble_eq_true rfl, Nat.le_of_ble_eq_true rfl⟩ rfl hl.1 (Nat.le_of_ble_eq_true rfl) ⟨Nat.zero_le _, Nat.zero_le _⟩ rfl d_Reader_readPart_26) (fun H locs hS => ?_)
    refine lv_aload_n F.hx F.hb d_Reader_readPart_29 rfl (lv_at hl 0 rfl) ?_
    refine r_get (v := vI (q4.1 46 3)) (N := 11) (T := T8) (j := 3) F hS (show 46 < 191 by decide) (show shK 46 = 12 from rfl) (show shN 46 = 11 from rfl) rfl (Nat.le_of_ble_eq_true rfl) ing8 mw_233 (fv_int rfl) d_Reader_readPart_30 ?_
    have i6 := hS.rng 46 3
    refine lv_istore_n (lv' := [(2, vI (q4.1 46 3)), (0, .ref (b + 46)), (1, .ref (b + k1))]) F.hx F.hb d_Reader_readPart_33 rfl hl (Nat.le_of_ble_eq_true rfl) rfl (fun ls hl => ?_)
    refine lv_aload_n F.hx F.hb d_Reader_readPart_34 rfl (lv_at hl 1 rfl) ?_
    refine r_bipush F.hx F.hb d_Reader_readPart_35 rfl ?_
    obtain ⟨q7, hq7, hT⟩ := q_obind hT
    refine r_backZ F hS (r_runV (k := 46) (N := 11) (T := T8) (As := [vI 30]) F hS (show 46 < 191 by decide) (show shK 46 = 12 from rfl) rfl (c_Reader_take l F.2.2.1 q4 30 (inr_c rfl) _ hq7) gs_Reader_51 hd_Reader_take ⟨Nat.le_of_ble_eq_true rfl, Nat.le_of_ble_eq_true rfl⟩ rfl hl.1 (Nat.le_of_ble_eq_true rfl) ⟨Nat.zero_le _, Nat.zero_le _⟩ rfl d_Reader_readPart_37) (fun H locs hS h8 => ?_)
    refine r_if_ne (tgt := 45) F.hx F.hb (inr_z h8) d_Reader_readPart_40 (by decide) (fun c9 => ?_) (fun c9 => ?_)
    · replace hT := (if_neg c9).symm.trans hT
      refine lv_aload_n F.hx F.hb d_Reader_readPart_45 rfl (lv_at hl 2 rfl) ?_
      refine r_get (v := .ref (b + (k1 + 1))) (N := 20) (T := T11) (j := 0) F hS (Town_lt hk1) (Town_sh hk1) (Town_N hk1) rfl (Nat.le_of_ble_eq_true rfl) ing11 mw_89 (Town_g0 hk1 _) d_Reader_readPart_46 ?_
      refine lv_aload_n F.hx F.hb d_Reader_readPart_49 rfl (lv_at hl 2 rfl) ?_
      refine r_get (v := vI ((q7.1).1 k1 14)) (N := 20) (T := T11) (j := 14) F hS (Town_lt hk1) (Town_sh hk1) (Town_N hk1) rfl (Nat.le_of_ble_eq_true rfl) ing11 mw_135 (fv_int rfl) d_Reader_readPart_50 ?_
      have i10 := hS.rng k1 14
      refine lv_iload_n F.hx F.hb d_Reader_readPart_53 rfl (lv_at hl 0 rfl) ?_
      obtain ⟨q11, hq11, hT⟩ := q_obind hT
      refine r_backI F hS (r_runSN (As := [.ref (b + (k1 + 1)), vI ((q7.1).1 k1 14), vI (q4.1 46 3)]) F hS (c_WF_indexOf l F.2.2.1 (q7.1) (k1 + 1) 4 ((q7.1).1 k1 14) (q4.1 46 3) (Town_f0 hk1) i10 i6 _ hq11) mw_748 mw_747 mw_1 gs_Reader_134 hd_WF_indexOf ⟨Nat.le_of_ble_eq_true rfl, Nat.le_of_ble_eq_true rfl⟩ rfl hl.1 (Nat.le_of_ble_eq_true rfl) ⟨Nat.zero_le _, Nat.zero_le _⟩ rfl d_Reader_readPart_54) (fun H locs hS h12 => ?_)
      refine lv_istore_n (lv' := [(3, vI q11), (2, vI (q4.1 46 3)), (0, .ref (b + 46)), (1, .ref (b + k1))]) F.hx F.hb d_Reader_readPart_57 rfl hl (Nat.le_of_ble_eq_true rfl) rfl (fun ls hl => ?_)
      refine lv_iload_n F.hx F.hb d_Reader_readPart_58 rfl (lv_at hl 0 rfl) ?_
      refine r_if_ge (tgt := 72) F.hx F.hb h12 d_Reader_readPart_59 (by decide) (fun c13 => ?_) (fun c13 => ?_)
      · replace hT := (if_pos c13).symm.trans hT
        refine lv_aload_n F.hx F.hb d_Reader_readPart_72 rfl (lv_at hl 2 rfl) ?_
        refine r_iconst F.hx F.hb d_Reader_readPart_73 ?_
        refine lv_aload_n F.hx F.hb d_Reader_readPart_74 rfl (lv_at hl 3 rfl) ?_
        refine r_get (v := vI ((q7.1).1 k1 11)) (N := 20) (T := T11) (j := 11) F hS (Town_lt hk1) (Town_sh hk1) (Town_N hk1) rfl (Nat.le_of_ble_eq_true rfl) ing11 mw_122 (fv_int rfl) d_Reader_readPart_75 ?_
        have i14 := hS.rng k1 11
        refine r_iconst F.hx F.hb d_Reader_readPart_78 ?_
        refine r_isub F.hx F.hb d_Reader_readPart_79 ?_
        obtain ⟨q15, hq15, hT⟩ := q_obind hT
        refine r_backI F hS (r_runV (k := 46) (N := 11) (T := T8) (As := [vI 0, vI (w32 (((q7.1).1 k1 11) - 1))]) F hS (show 46 < 191 by decide) (show shK 46 = 12 from rfl) rfl (c_Reader_takeNumber l F.2.2.1 (q7.1) 0 (w32 (((q7.1).1 k1 11) - 1)) (inr_c rfl) (inr_w32 _) _ hq15) gs_Reader_97 hd_Reader_takeNumber ⟨Nat.le_of_ble_eq_true rfl, Nat.le_of_ble_eq_true rfl⟩ rfl hl.1 (Nat.le_of_ble_eq_true rfl) ⟨Nat.zero_le _, Nat.zero_le _⟩ rfl d_Reader_readPart_80) (fun H locs hS h16 => ?_)
        refine lv_istore (lv' := [(4, vI (q15.2)), (3, vI q11), (2, vI (q4.1 46 3)), (0, .ref (b + 46)), (1, .ref (b + k1))]) F.hx F.hb d_Reader_readPart_83 hl (Nat.le_of_ble_eq_true rfl) rfl (fun ls hl => ?_)
        refine lv_iload F.hx F.hb d_Reader_readPart_85 (lv_at hl 0 rfl) ?_
        refine r_if_ge (tgt := 94) F.hx F.hb h16 d_Reader_readPart_87 (by decide) (fun c17 => ?_) (fun c17 => ?_)
        · replace hT := (if_pos c17).symm.trans hT
          refine lv_aload_n F.hx F.hb d_Reader_readPart_94 rfl (lv_at hl 3 rfl) ?_
          refine r_iconst F.hx F.hb d_Reader_readPart_95 ?_
          refine lv_aload_n F.hx F.hb d_Reader_readPart_96 rfl (lv_at hl 4 rfl) ?_
          refine r_get (v := vI ((q15.1).1 k1 12)) (N := 20) (T := T11) (j := 12) F hS (Town_lt hk1) (Town_sh hk1) (Town_N hk1) rfl (Nat.le_of_ble_eq_true rfl) ing11 mw_125 (fv_int rfl) d_Reader_readPart_97 ?_
          have i18 := hS.rng k1 12
          refine r_iconst F.hx F.hb d_Reader_readPart_100 ?_
          refine r_isub F.hx F.hb d_Reader_readPart_101 ?_
          obtain ⟨q19, hq19, hT⟩ := q_obind hT
          refine r_backI F hS (r_runV (k := 46) (N := 11) (T := T8) (As := [vI 0, vI (w32 (((q15.1).1 k1 12) - 1))]) F hS (show 46 < 191 by decide) (show shK 46 = 12 from rfl) rfl (c_Reader_takeNumber l F.2.2.1 (q15.1) 0 (w32 (((q15.1).1 k1 12) - 1)) (inr_c rfl) (inr_w32 _) _ hq19) gs_Reader_97 hd_Reader_takeNumber ⟨Nat.le_of_ble_eq_true rfl, Nat.le_of_ble_eq_true rfl⟩ rfl hl.1 (Nat.le_of_ble_eq_true rfl) ⟨Nat.zero_le _, Nat.zero_le _⟩ rfl d_Reader_readPart_102) (fun H locs hS h20 => ?_)
          exact k_Reader_readPart_L105 l hlo k1 hk1 F hlk hr (q19.1) q11 h12 (q15.2) h16 (q19.2) h20 _ _ _ hS (lv_sub hl [3, 4, 1, 0] rfl) hT
        · replace hT := (if_neg c17).symm.trans hT
          refine r_iconst F.hx F.hb d_Reader_readPart_90 ?_
          refine lv_goto (tgt := 105) F.hx F.hb d_Reader_readPart_91 (by decide) ?_
          exact k_Reader_readPart_L105 l hlo k1 hk1 F hlk hr (q15.1) q11 h12 (q15.2) h16 (-1) (inr_c rfl) _ _ _ hS (lv_sub hl [3, 4, 1, 0] rfl) hT
      · replace hT := (if_neg c13).symm.trans hT
        refine lv_aload_n F.hx F.hb d_Reader_readPart_62 rfl (lv_at hl 2 rfl) ?_
        refine r_iconst F.hx F.hb d_Reader_readPart_63 ?_
        refine lv_aload_n F.hx F.hb d_Reader_readPart_64 rfl (lv_at hl 2 rfl) ?_
        refine r_get (v := vI ((q7.1).1 46 5)) (N := 11) (T := T8) (j := 5) F hS (show 46 < 191 by decide) (show shK 46 = 12 from rfl) (show shN 46 = 11 from rfl) rfl (Nat.le_of_ble_eq_true rfl) ing8 mw_235 (fv_int rfl) d_Reader_readPart_65 ?_
        have i21 := hS.rng 46 5
        obtain ⟨q22, hq22⟩ : ∃ q, q = (t_Reader_refuse (q7.1) 4 ((q7.1).1 46 5)) := ⟨_, rfl⟩
        replace hT := qlet_eq hT hq22
        refine r_backZ F hS (r_runV (k := 46) (N := 11) (T := T8) (As := [vI 4, vI ((q7.1).1 46 5)]) F hS (show 46 < 191 by decide) (show shK 46 = 12 from rfl) rfl (c_Reader_refuse l F.2.2.1 (q7.1) 4 ((q7.1).1 46 5) (inr_c rfl) i21 _ hq22.symm) gs_Reader_47 hd_Reader_refuse ⟨Nat.le_of_ble_eq_true rfl, Nat.le_of_ble_eq_true rfl⟩ rfl hl.1 (Nat.le_of_ble_eq_true rfl) ⟨Nat.zero_le _, Nat.zero_le _⟩ rfl d_Reader_readPart_68) (fun H locs hS h23 => ?_)
        cases hT
        exact r_zret F hlk hr hS h23 d_Reader_readPart_71
    · replace hT := (if_pos c9).symm.trans hT
      refine r_iconst F.hx F.hb d_Reader_readPart_43 ?_
      cases hT
      exact r_zret F hlk hr hS (Or.inl rfl) d_Reader_readPart_44
  · replace hT := (if_neg c2).symm.trans hT
    refine lv_aload_n F.hx F.hb d_Reader_readPart_9 rfl (lv_at hl 0 rfl) ?_
    refine r_iconst F.hx F.hb d_Reader_readPart_10 ?_
    refine lv_aload_n F.hx F.hb d_Reader_readPart_11 rfl (lv_at hl 0 rfl) ?_
    refine r_get (v := vI (M.1 46 4)) (N := 11) (T := T8) (j := 4) F hS (show 46 < 191 by decide) (show shK 46 = 12 from rfl) (show shN 46 = 11 from rfl) rfl (Nat.le_of_ble_eq_true rfl) ing8 mw_234 (fv_int rfl) d_Reader_readPart_12 ?_
    have i24 := hS.rng 46 4
    obtain ⟨q25, hq25⟩ : ∃ q, q = (t_Reader_refuse M 2 (M.1 46 4)) := ⟨_, rfl⟩
    replace hT := qlet_eq hT hq25
    refine r_backZ F hS (r_runV (k := 46) (N := 11) (T := T8) (As := [vI 2, vI (M.1 46 4)]) F hS (show 46 < 191 by decide) (show shK 46 = 12 from rfl) rfl (c_Reader_refuse l F.2.2.1 M 2 (M.1 46 4) (inr_c rfl) i24 _ hq25.symm) gs_Reader_47 hd_Reader_refuse ⟨Nat.le_of_ble_eq_true rfl, Nat.le_of_ble_eq_true rfl⟩ rfl hl.1 (Nat.le_of_ble_eq_true rfl) ⟨Nat.zero_le _, Nat.zero_le _⟩ rfl d_Reader_readPart_15) (fun H locs hS h26 => ?_)
    cases hT
    exact r_zret F hlk hr hS h26 d_Reader_readPart_18
