theorem d_WF_findPushed_0 : decode b_WF_findPushed 0 = .ok (.aload_n 0, 1) := dc_42 (by decide +kernel)
theorem d_WF_findPushed_1 : decode b_WF_findPushed 1 = .ok (.getfield 83, 3) := dc_180 (by decide +kernel)
theorem d_WF_findPushed_4 : decode b_WF_findPushed 4 = .ok (.aload_n 0, 1) := dc_42 (by decide +kernel)
theorem d_WF_findPushed_5 : decode b_WF_findPushed 5 = .ok (.getfield 22, 3) := dc_180 (by decide +kernel)
theorem d_WF_findPushed_8 : decode b_WF_findPushed 8 = .ok (.aload_n 0, 1) := dc_42 (by decide +kernel)
theorem d_WF_findPushed_9 : decode b_WF_findPushed 9 = .ok (.getfield 46, 3) := dc_180 (by decide +kernel)
theorem d_WF_findPushed_12 : decode b_WF_findPushed 12 = .ok (.aload_n 0, 1) := dc_42 (by decide +kernel)
theorem d_WF_findPushed_13 : decode b_WF_findPushed 13 = .ok (.getfield 59, 3) := dc_180 (by decide +kernel)
theorem d_WF_findPushed_16 : decode b_WF_findPushed 16 = .ok (.getfield 218, 3) := dc_180 (by decide +kernel)
theorem d_WF_findPushed_19 : decode b_WF_findPushed 19 = .ok (.aload_n 0, 1) := dc_42 (by decide +kernel)
theorem d_WF_findPushed_20 : decode b_WF_findPushed 20 = .ok (.getfield 90, 3) := dc_180 (by decide +kernel)
theorem d_WF_findPushed_23 : decode b_WF_findPushed 23 = .ok (.getfield 434, 3) := dc_180 (by decide +kernel)
theorem d_WF_findPushed_26 : decode b_WF_findPushed 26 = .ok (.invokevirtual 437, 3) := dc_182 (by decide +kernel)
theorem d_WF_findPushed_29 : decode b_WF_findPushed 29 = .ok (.aload_n 0, 1) := dc_42 (by decide +kernel)
theorem d_WF_findPushed_30 : decode b_WF_findPushed 30 = .ok (.getfield 90, 3) := dc_180 (by decide +kernel)
theorem d_WF_findPushed_33 : decode b_WF_findPushed 33 = .ok (.aload_n 0, 1) := dc_42 (by decide +kernel)
theorem d_WF_findPushed_34 : decode b_WF_findPushed 34 = .ok (.getfield 22, 3) := dc_180 (by decide +kernel)
theorem d_WF_findPushed_37 : decode b_WF_findPushed 37 = .ok (.iload_n 1, 1) := dc_27 (by decide +kernel)
theorem d_WF_findPushed_38 : decode b_WF_findPushed 38 = .ok (.iload_n 2, 1) := dc_28 (by decide +kernel)
theorem d_WF_findPushed_39 : decode b_WF_findPushed 39 = .ok (.invokevirtual 441, 3) := dc_182 (by decide +kernel)
theorem d_WF_findPushed_42 : decode b_WF_findPushed 42 = .ok (.return_, 1) := dc_177 (by decide +kernel)
def t_WF_findPushed (M : Mem) (x1 : Int) (x2 : Int) : Option (Mem) := (obind (t_Laws_pushAll M ((M.1 0 4).toNat) 47 (M.1 62 3) 186 192) fun q3 => (obind (t_Paths_find q3 ((q3.1 0 4).toNat) x1 x2) fun q6 => (some q6)))
set_option maxHeartbeats 4000000 in
set_option maxRecDepth 100000 in
theorem c_WF_findPushed (l : Launch) {b n : Nat} {C : CT} (hlo : 191 ≤ n) (M : Mem) (x1 : Int) (x2 : Int) (hx1 : InR x1) (hx2 : InR x2) (res : Mem) (hT : t_WF_findPushed M x1 x2 = some res) : CM l b C n 6 y_WF_findPushed b_WF_findPushed 3 (none) [.ref (b + 0), vI x1, vI x2] M (QV b C n res) := by
  refine CM.of (lo := 191) (ow := "WardFalls") (by decide) rfl (Nat.le_of_ble_eq_true rfl) hlo (fun p e s m below meth c F hlk hr hS ls hl => ?_)
  have hl : lv_has ls 3 [(0, .ref (b + 0)), (1, vI x1), (2, vI x2)] := hl
  unfold t_WF_findPushed at hT
  refine lv_aload_n F.hx F.hb d_WF_findPushed_0 rfl (lv_at hl 0 rfl) ?_
  refine r_get (v := .ref (b + 177)) (N := 19) (T := T0) (j := 16) F hS (show 0 < 191 by decide) (show shK 0 = 4 from rfl) (show shN 0 = 19 from rfl) rfl (Nat.le_of_ble_eq_true rfl) ing0 mw_566 (fv_sg rfl rfl rfl) d_WF_findPushed_1 ?_
  refine lv_aload_n F.hx F.hb d_WF_findPushed_4 rfl (lv_at hl 0 rfl) ?_
  have h1 := St_town hS
  refine r_get (v := .ref (b + ((M.1 0 4).toNat))) (N := 19) (T := T0) (j := 4) F hS (show 0 < 191 by decide) (show shK 0 = 4 from rfl) (show shN 0 = 19 from rfl) rfl (Nat.le_of_ble_eq_true rfl) ing0 mw_554 (fv_town hS) d_WF_findPushed_5 ?_
  refine lv_aload_n F.hx F.hb d_WF_findPushed_8 rfl (lv_at hl 0 rfl) ?_
  refine r_get (v := .ref (b + 47)) (N := 19) (T := T0) (j := 8) F hS (show 0 < 191 by decide) (show shK 0 = 4 from rfl) (show shN 0 = 19 from rfl) rfl (Nat.le_of_ble_eq_true rfl) ing0 mw_558 (fv_sg rfl rfl rfl) d_WF_findPushed_9 ?_
  refine lv_aload_n F.hx F.hb d_WF_findPushed_12 rfl (lv_at hl 0 rfl) ?_
  refine r_get (v := .ref (b + 62)) (N := 19) (T := T0) (j := 11) F hS (show 0 < 191 by decide) (show shK 0 = 4 from rfl) (show shN 0 = 19 from rfl) rfl (Nat.le_of_ble_eq_true rfl) ing0 mw_561 (fv_sg rfl rfl rfl) d_WF_findPushed_13 ?_
  refine r_get (v := vI (M.1 62 3)) (N := 6) (T := T2) (j := 3) F hS (show 62 < 191 by decide) (show shK 62 = 6 from rfl) (show shN 62 = 6 from rfl) rfl (Nat.le_of_ble_eq_true rfl) ing2 mw_321 (fv_int rfl) d_WF_findPushed_16 ?_
  have i2 := hS.rng 62 3
  refine lv_aload_n F.hx F.hb d_WF_findPushed_19 rfl (lv_at hl 0 rfl) ?_
  refine r_get (v := .ref (b + 185)) (N := 19) (T := T0) (j := 17) F hS (show 0 < 191 by decide) (show shK 0 = 4 from rfl) (show shN 0 = 19 from rfl) rfl (Nat.le_of_ble_eq_true rfl) ing0 mw_567 (fv_sg rfl rfl rfl) d_WF_findPushed_20 ?_
  refine r_get (v := .ref (b + 186)) (N := 5) (T := T7) (j := 0) F hS (show 185 < 191 by decide) (show shK 185 = 11 from rfl) (show shN 185 = 5 from rfl) rfl (Nat.le_of_ble_eq_true rfl) ing7 mw_475 (fv_sg rfl rfl rfl) d_WF_findPushed_23 ?_
  obtain ⟨q3, hq3, hT⟩ := q_obind hT
  refine r_backV F hS (r_runV (k := 177) (N := 9) (T := T4) (As := [.ref (b + ((M.1 0 4).toNat)), .ref (b + 47), vI (M.1 62 3), .ref (b + 186)]) F hS (show 177 < 191 by decide) (show shK 177 = 8 from rfl) rfl (c_Laws_pushAll l F.2.2.1 M ((M.1 0 4).toNat) 47 (M.1 62 3) 186 192 h1 (by decide : isScene 47) i2 (show arrP 0 186 192 191 from ⟨rfl, rfl, by decide⟩) _ hq3) gs_WF_437 hd_Laws_pushAll ⟨Nat.le_of_ble_eq_true rfl, Nat.le_of_ble_eq_true rfl⟩ rfl hl.1 (Nat.le_of_ble_eq_true rfl) ⟨Nat.zero_le _, Nat.zero_le _⟩ rfl d_WF_findPushed_26) (fun H locs hS => ?_)
  refine lv_aload_n F.hx F.hb d_WF_findPushed_29 rfl (lv_at hl 0 rfl) ?_
  refine r_get (v := .ref (b + 185)) (N := 19) (T := T0) (j := 17) F hS (show 0 < 191 by decide) (show shK 0 = 4 from rfl) (show shN 0 = 19 from rfl) rfl (Nat.le_of_ble_eq_true rfl) ing0 mw_567 (fv_sg rfl rfl rfl) d_WF_findPushed_30 ?_
  refine lv_aload_n F.hx F.hb d_WF_findPushed_33 rfl (lv_at hl 0 rfl) ?_
  have h5 := St_town hS
  refine r_get (v := .ref (b + ((q3.1 0 4).toNat))) (N := 19) (T := T0) (j := 4) F hS (show 0 < 191 by decide) (show shK 0 = 4 from rfl) (show shN 0 = 19 from rfl) rfl (Nat.le_of_ble_eq_true rfl) ing0 mw_554 (fv_town hS) d_WF_findPushed_34 ?_
  refine lv_iload_n F.hx F.hb d_WF_findPushed_37 rfl (lv_at hl 1 rfl) ?_
  refine lv_iload_n F.hx F.hb d_WF_findPushed_38 rfl (lv_at hl 2 rfl) ?_
  obtain ⟨q6, hq6, hT⟩ := q_obind hT
  refine r_backV F hS (r_runV (k := 185) (N := 5) (T := T7) (As := [.ref (b + ((q3.1 0 4).toNat)), vI x1, vI x2]) F hS (show 185 < 191 by decide) (show shK 185 = 11 from rfl) rfl (c_Paths_find l F.2.2.1 q3 ((q3.1 0 4).toNat) x1 x2 h5 hx1 hx2 _ hq6) gs_WF_441 hd_Paths_find ⟨Nat.le_of_ble_eq_true rfl, Nat.le_of_ble_eq_true rfl⟩ rfl hl.1 (Nat.le_of_ble_eq_true rfl) ⟨Nat.zero_le _, Nat.zero_le _⟩ rfl d_WF_findPushed_39) (fun H locs hS => ?_)
  cases hT
  exact r_vret F hlk hr hS d_WF_findPushed_42
theorem d_WF_push_0 : decode b_WF_push 0 = .ok (.aload_n 0, 1) := dc_42 (by decide +kernel)
theorem d_WF_push_1 : decode b_WF_push 1 = .ok (.iload_n 1, 1) := dc_27 (by decide +kernel)
theorem d_WF_push_2 : decode b_WF_push 2 = .ok (.invokevirtual 250, 3) := dc_182 (by decide +kernel)
theorem d_WF_push_5 : decode b_WF_push 5 = .ok (.ifCond .eq 20, 3) := dc_153 (by decide +kernel)
theorem d_WF_push_8 : decode b_WF_push 8 = .ok (.aload_n 0, 1) := dc_42 (by decide +kernel)
theorem d_WF_push_9 : decode b_WF_push 9 = .ok (.iload_n 2, 1) := dc_28 (by decide +kernel)
theorem d_WF_push_10 : decode b_WF_push 10 = .ok (.invokevirtual 250, 3) := dc_182 (by decide +kernel)
theorem d_WF_push_13 : decode b_WF_push 13 = .ok (.ifCond .eq 12, 3) := dc_153 (by decide +kernel)
theorem d_WF_push_16 : decode b_WF_push 16 = .ok (.iload_n 3, 1) := dc_29 (by decide +kernel)
theorem d_WF_push_17 : decode b_WF_push 17 = .ok (.ifCond .lt 8, 3) := dc_155 (by decide +kernel)
theorem d_WF_push_20 : decode b_WF_push 20 = .ok (.iload_n 3, 1) := dc_29 (by decide +kernel)
theorem d_WF_push_21 : decode b_WF_push 21 = .ok (.iconst 1, 1) := dc_4 (by decide +kernel)
theorem d_WF_push_22 : decode b_WF_push 22 = .ok (.if_icmp .le 5, 3) := dc_164 (by decide +kernel)
theorem d_WF_push_25 : decode b_WF_push 25 = .ok (.iconst (-1), 1) := dc_2 (by decide +kernel)
theorem d_WF_push_26 : decode b_WF_push 26 = .ok (.ireturn, 1) := dc_172 (by decide +kernel)
theorem d_WF_push_27 : decode b_WF_push 27 = .ok (.aload_n 0, 1) := dc_42 (by decide +kernel)
theorem d_WF_push_28 : decode b_WF_push 28 = .ok (.iload_n 1, 1) := dc_27 (by decide +kernel)
theorem d_WF_push_29 : decode b_WF_push 29 = .ok (.iload_n 2, 1) := dc_28 (by decide +kernel)
theorem d_WF_push_30 : decode b_WF_push 30 = .ok (.invokevirtual 323, 3) := dc_182 (by decide +kernel)
theorem d_WF_push_33 : decode b_WF_push 33 = .ok (.aload_n 0, 1) := dc_42 (by decide +kernel)
theorem d_WF_push_34 : decode b_WF_push 34 = .ok (.getfield 90, 3) := dc_180 (by decide +kernel)
theorem d_WF_push_37 : decode b_WF_push 37 = .ok (.getfield 319, 3) := dc_180 (by decide +kernel)
theorem d_WF_push_40 : decode b_WF_push 40 = .ok (.ifCond .ne 6, 3) := dc_154 (by decide +kernel)
theorem d_WF_push_43 : decode b_WF_push 43 = .ok (.bipush (-2), 2) := dc_16 (by decide +kernel)
theorem d_WF_push_45 : decode b_WF_push 45 = .ok (.ireturn, 1) := dc_172 (by decide +kernel)
theorem d_WF_push_46 : decode b_WF_push 46 = .ok (.iload_n 3, 1) := dc_29 (by decide +kernel)
theorem d_WF_push_47 : decode b_WF_push 47 = .ok (.ifCond .ne 13, 3) := dc_154 (by decide +kernel)
theorem d_WF_push_50 : decode b_WF_push 50 = .ok (.aload_n 0, 1) := dc_42 (by decide +kernel)
theorem d_WF_push_51 : decode b_WF_push 51 = .ok (.getfield 90, 3) := dc_180 (by decide +kernel)
theorem d_WF_push_54 : decode b_WF_push 54 = .ok (.getfield 327, 3) := dc_180 (by decide +kernel)
theorem d_WF_push_57 : decode b_WF_push 57 = .ok (.goto 12, 3) := dc_167 (by decide +kernel)
theorem d_WF_push_60 : decode b_WF_push 60 = .ok (.aload_n 0, 1) := dc_42 (by decide +kernel)
theorem d_WF_push_61 : decode b_WF_push 61 = .ok (.getfield 90, 3) := dc_180 (by decide +kernel)
theorem d_WF_push_64 : decode b_WF_push 64 = .ok (.getfield 319, 3) := dc_180 (by decide +kernel)
theorem d_WF_push_67 : decode b_WF_push 67 = .ok (.iconst 1, 1) := dc_4 (by decide +kernel)
theorem d_WF_push_68 : decode b_WF_push 68 = .ok (.isub, 1) := dc_100 (by decide +kernel)
theorem d_WF_push_69 : decode b_WF_push 69 = .ok (.ireturn, 1) := dc_172 (by decide +kernel)
def t_WF_push (M : Mem) (x1 : Int) (x2 : Int) (x3 : Int) : Option (Mem × Int) := (qlet (t_WF_isFree M x1) fun q1 => (if q1 = 0 then (some (M, (-1))) else (qlet (t_WF_isFree M x2) fun q4 => (if q4 = 0 then (some (M, (-1))) else (if x3 < 0 then (some (M, (-1))) else (if x3 ≤ 1 then (obind (t_WF_findPushed M x1 x2) fun q9 => (if (q9.1 185 3) = 0 then (some (q9, (-2))) else (if x3 = 0 then (some (q9, (q9.1 185 4))) else (some (q9, (w32 ((q9.1 185 3) - 1))))))) else (some (M, (-1)))))))))
set_option maxHeartbeats 4000000 in
set_option maxRecDepth 100000 in
theorem c_WF_push (l : Launch) {b n : Nat} {C : CT} (hlo : 191 ≤ n) (M : Mem) (x1 : Int) (x2 : Int) (x3 : Int) (hx1 : InR x1) (hx2 : InR x2) (hx3 : InR x3) (res : Mem × Int) (hT : t_WF_push M x1 x2 x3 = some res) : CM l b C n 7 y_WF_push b_WF_push 4 (some .int) [.ref (b + 0), vI x1, vI x2, vI x3] M (QI b C n res.1 res.2) := by
  refine CM.of (lo := 191) (ow := "WardFalls") (by decide) rfl (Nat.le_of_ble_eq_true rfl) hlo (fun p e s m below meth c F hlk hr hS ls hl => ?_)
  have hl : lv_has ls 4 [(0, .ref (b + 0)), (1, vI x1), (2, vI x2), (3, vI x3)] := hl
  unfold t_WF_push at hT
  refine lv_aload_n F.hx F.hb d_WF_push_0 rfl (lv_at hl 0 rfl) ?_
  refine lv_iload_n F.hx F.hb d_WF_push_1 rfl (lv_at hl 1 rfl) ?_
  obtain ⟨q1, hq1⟩ : ∃ q, q = (t_WF_isFree M x1) := ⟨_, rfl⟩
  replace hT := qlet_eq hT hq1
  refine r_backZ F hS (r_runV (k := 0) (N := 19) (T := T0) (As := [vI x1]) F hS (show 0 < 191 by decide) (show shK 0 = 4 from rfl) rfl (c_WF_isFree l F.2.2.1 M x1 hx1 _ hq1.symm) gs_WF_250 hd_WF_isFree ⟨Nat.le_of_ble_eq_true rfl, Nat.le_of_ble_eq_true rfl⟩ rfl hl.1 (Nat.le_of_ble_eq_true rfl) ⟨Nat.zero_le _, Nat.zero_le _⟩ rfl d_WF_push_2) (fun H locs hS h2 => ?_)
  refine r_if_eq (tgt := 25) F.hx F.hb (inr_z h2) d_WF_push_5 (by decide) (fun c3 => ?_) (fun c3 => ?_)
  · replace hT := (if_pos c3).symm.trans hT
    refine r_iconst F.hx F.hb d_WF_push_25 ?_
    cases hT
    exact r_iret F hlk hr rfl hS (inr_c rfl) d_WF_push_26
  · replace hT := (if_neg c3).symm.trans hT
    refine lv_aload_n F.hx F.hb d_WF_push_8 rfl (lv_at hl 0 rfl) ?_
    refine lv_iload_n F.hx F.hb d_WF_push_9 rfl (lv_at hl 2 rfl) ?_
    obtain ⟨q4, hq4⟩ : ∃ q, q = (t_WF_isFree M x2) := ⟨_, rfl⟩
    replace hT := qlet_eq hT hq4
    refine r_backZ F hS (r_runV (k := 0) (N := 19) (T := T0) (As := [vI x2]) F hS (show 0 < 191 by decide) (show shK 0 = 4 from rfl) rfl (c_WF_isFree l F.2.2.1 M x2 hx2 _ hq4.symm) gs_WF_250 hd_WF_isFree ⟨Nat.le_of_ble_eq_true rfl, Nat.le_of_ble_eq_true rfl⟩ rfl hl.1 (Nat.le_of_ble_eq_true rfl) ⟨Nat.zero_le _, Nat.zero_le _⟩ rfl d_WF_push_10) (fun H locs hS h5 => ?_)
    refine r_if_eq (tgt := 25) F.hx F.hb (inr_z h5) d_WF_push_13 (by decide) (fun c6 => ?_) (fun c6 => ?_)
    · replace hT := (if_pos c6).symm.trans hT
      refine r_iconst F.hx F.hb d_WF_push_25 ?_
      cases hT
      exact r_iret F hlk hr rfl hS (inr_c rfl) d_WF_push_26
    · replace hT := (if_neg c6).symm.trans hT
      refine lv_iload_n F.hx F.hb d_WF_push_16 rfl (lv_at hl 3 rfl) ?_
      refine r_if_lt (tgt := 25) F.hx F.hb hx3 d_WF_push_17 (by decide) (fun c7 => ?_) (fun c7 => ?_)
      · replace hT := (if_pos c7).symm.trans hT
        refine r_iconst F.hx F.hb d_WF_push_25 ?_
        cases hT
        exact r_iret F hlk hr rfl hS (inr_c rfl) d_WF_push_26
      · replace hT := (if_neg c7).symm.trans hT
        refine lv_iload_n F.hx F.hb d_WF_push_20 rfl (lv_at hl 3 rfl) ?_
        refine r_iconst F.hx F.hb d_WF_push_21 ?_
        refine r_icmp_le (tgt := 27) F.hx F.hb hx3 (inr_c rfl) d_WF_push_22 (by decide) (fun c8 => ?_) (fun c8 => ?_)
        · replace hT := (if_pos c8).symm.trans hT
          refine lv_aload_n F.hx F.hb d_WF_push_27 rfl (lv_at hl 0 rfl) ?_
          refine lv_iload_n F.hx F.hb d_WF_push_28 rfl (lv_at hl 1 rfl) ?_
          refine lv_iload_n F.hx F.hb d_WF_push_29 rfl (lv_at hl 2 rfl) ?_
          obtain ⟨q9, hq9, hT⟩ := q_obind hT
          refine r_backV F hS (r_runV (k := 0) (N := 19) (T := T0) (As := [vI x1, vI x2]) F hS (show 0 < 191 by decide) (show shK 0 = 4 from rfl) rfl (c_WF_findPushed l F.2.2.1 M x1 x2 hx1 hx2 _ hq9) gs_WF_323 hd_WF_findPushed ⟨Nat.le_of_ble_eq_true rfl, Nat.le_of_ble_eq_true rfl⟩ rfl hl.1 (Nat.le_of_ble_eq_true rfl) ⟨Nat.zero_le _, Nat.zero_le _⟩ rfl d_WF_push_30) (fun H locs hS => ?_)
          refine lv_aload_n F.hx F.hb d_WF_push_33 rfl (lv_at hl 0 rfl) ?_
          refine r_get (v := .ref (b + 185)) (N := 19) (T := T0) (j := 17) F hS (show 0 < 191 by decide) (show shK 0 = 4 from rfl) (show shN 0 = 19 from rfl) rfl (Nat.le_of_ble_eq_true rfl) ing0 mw_567 (fv_sg rfl rfl rfl) d_WF_push_34 ?_
          refine r_get (v := vI (q9.1 185 3)) (N := 5) (T := T7) (j := 3) F hS (show 185 < 191 by decide) (show shK 185 = 11 from rfl) (show shN 185 = 5 from rfl) rfl (Nat.le_of_ble_eq_true rfl) ing7 mw_479 (fv_int rfl) d_WF_push_37 ?_
          have i11 := hS.rng 185 3
          refine r_if_ne (tgt := 46) F.hx F.hb i11 d_WF_push_40 (by decide) (fun c12 => ?_) (fun c12 => ?_)
          · replace hT := (if_neg c12).symm.trans hT
            refine lv_iload_n F.hx F.hb d_WF_push_46 rfl (lv_at hl 3 rfl) ?_
            refine r_if_ne (tgt := 60) F.hx F.hb hx3 d_WF_push_47 (by decide) (fun c13 => ?_) (fun c13 => ?_)
            · replace hT := (if_neg c13).symm.trans hT
              refine lv_aload_n F.hx F.hb d_WF_push_60 rfl (lv_at hl 0 rfl) ?_
              refine r_get (v := .ref (b + 185)) (N := 19) (T := T0) (j := 17) F hS (show 0 < 191 by decide) (show shK 0 = 4 from rfl) (show shN 0 = 19 from rfl) rfl (Nat.le_of_ble_eq_true rfl) ing0 mw_567 (fv_sg rfl rfl rfl) d_WF_push_61 ?_
              refine r_get (v := vI (q9.1 185 3)) (N := 5) (T := T7) (j := 3) F hS (show 185 < 191 by decide) (show shK 185 = 11 from rfl) (show shN 185 = 5 from rfl) rfl (Nat.le_of_ble_eq_true rfl) ing7 mw_479 (fv_int rfl) d_WF_push_64 ?_
              have i14 := hS.rng 185 3
              refine r_iconst F.hx F.hb d_WF_push_67 ?_
              refine r_isub F.hx F.hb d_WF_push_68 ?_
              cases hT
              exact r_iret F hlk hr rfl hS (inr_w32 _) d_WF_push_69
            · replace hT := (if_pos c13).symm.trans hT
              refine lv_aload_n F.hx F.hb d_WF_push_50 rfl (lv_at hl 0 rfl) ?_
              refine r_get (v := .ref (b + 185)) (N := 19) (T := T0) (j := 17) F hS (show 0 < 191 by decide) (show shK 0 = 4 from rfl) (show shN 0 = 19 from rfl) rfl (Nat.le_of_ble_eq_true rfl) ing0 mw_567 (fv_sg rfl rfl rfl) d_WF_push_51 ?_
              refine r_get (v := vI (q9.1 185 4)) (N := 5) (T := T7) (j := 4) F hS (show 185 < 191 by decide) (show shK 185 = 11 from rfl) (show shN 185 = 5 from rfl) rfl (Nat.le_of_ble_eq_true rfl) ing7 mw_481 (fv_int rfl) d_WF_push_54 ?_
              have i15 := hS.rng 185 4
              refine lv_goto (tgt := 69) F.hx F.hb d_WF_push_57 (by decide) ?_
              cases hT
              exact r_iret F hlk hr rfl hS i15 d_WF_push_69
          · replace hT := (if_pos c12).symm.trans hT
            refine r_bipush F.hx F.hb d_WF_push_43 rfl ?_
            cases hT
            exact r_iret F hlk hr rfl hS (inr_c rfl) d_WF_push_45
        · replace hT := (if_neg c8).symm.trans hT
          refine r_iconst F.hx F.hb d_WF_push_25 ?_
          cases hT
          exact r_iret F hlk hr rfl hS (inr_c rfl) d_WF_push_26
theorem d_WF_pushed_0 : decode b_WF_pushed 0 = .ok (.aload_n 0, 1) := dc_42 (by decide +kernel)
theorem d_WF_pushed_1 : decode b_WF_pushed 1 = .ok (.iload_n 1, 1) := dc_27 (by decide +kernel)
theorem d_WF_pushed_2 : decode b_WF_pushed 2 = .ok (.invokevirtual 250, 3) := dc_182 (by decide +kernel)
theorem d_WF_pushed_5 : decode b_WF_pushed 5 = .ok (.ifCond .eq 15, 3) := dc_153 (by decide +kernel)
theorem d_WF_pushed_8 : decode b_WF_pushed 8 = .ok (.aload_n 0, 1) := dc_42 (by decide +kernel)
theorem d_WF_pushed_9 : decode b_WF_pushed 9 = .ok (.iload_n 2, 1) := dc_28 (by decide +kernel)
theorem d_WF_pushed_10 : decode b_WF_pushed 10 = .ok (.invokevirtual 250, 3) := dc_182 (by decide +kernel)
theorem d_WF_pushed_13 : decode b_WF_pushed 13 = .ok (.ifCond .eq 7, 3) := dc_153 (by decide +kernel)
theorem d_WF_pushed_16 : decode b_WF_pushed 16 = .ok (.iload_n 3, 1) := dc_29 (by decide +kernel)
theorem d_WF_pushed_17 : decode b_WF_pushed 17 = .ok (.ifCond .ge 5, 3) := dc_156 (by decide +kernel)
theorem d_WF_pushed_20 : decode b_WF_pushed 20 = .ok (.iconst (-1), 1) := dc_2 (by decide +kernel)
theorem d_WF_pushed_21 : decode b_WF_pushed 21 = .ok (.ireturn, 1) := dc_172 (by decide +kernel)
theorem d_WF_pushed_22 : decode b_WF_pushed 22 = .ok (.aload_n 0, 1) := dc_42 (by decide +kernel)
theorem d_WF_pushed_23 : decode b_WF_pushed 23 = .ok (.iload_n 1, 1) := dc_27 (by decide +kernel)
theorem d_WF_pushed_24 : decode b_WF_pushed 24 = .ok (.iload_n 2, 1) := dc_28 (by decide +kernel)
theorem d_WF_pushed_25 : decode b_WF_pushed 25 = .ok (.invokevirtual 323, 3) := dc_182 (by decide +kernel)
theorem d_WF_pushed_28 : decode b_WF_pushed 28 = .ok (.aload_n 0, 1) := dc_42 (by decide +kernel)
theorem d_WF_pushed_29 : decode b_WF_pushed 29 = .ok (.getfield 90, 3) := dc_180 (by decide +kernel)
theorem d_WF_pushed_32 : decode b_WF_pushed 32 = .ok (.iload_n 3, 1) := dc_29 (by decide +kernel)
theorem d_WF_pushed_33 : decode b_WF_pushed 33 = .ok (.invokevirtual 322, 3) := dc_182 (by decide +kernel)
theorem d_WF_pushed_36 : decode b_WF_pushed 36 = .ok (.ireturn, 1) := dc_172 (by decide +kernel)
def t_WF_pushed (M : Mem) (x1 : Int) (x2 : Int) (x3 : Int) : Option (Mem × Int) := (qlet (t_WF_isFree M x1) fun q1 => (if q1 = 0 then (some (M, (-1))) else (qlet (t_WF_isFree M x2) fun q4 => (if q4 = 0 then (some (M, (-1))) else (if 0 ≤ x3 then (obind (t_WF_findPushed M x1 x2) fun q8 => (qlet (t_Paths_cellAt q8 x3) fun q10 => (some (q8, q10)))) else (some (M, (-1))))))))
set_option maxHeartbeats 4000000 in
set_option maxRecDepth 100000 in
theorem c_WF_pushed (l : Launch) {b n : Nat} {C : CT} (hlo : 191 ≤ n) (M : Mem) (x1 : Int) (x2 : Int) (x3 : Int) (hx1 : InR x1) (hx2 : InR x2) (hx3 : InR x3) (res : Mem × Int) (hT : t_WF_pushed M x1 x2 x3 = some res) : CM l b C n 7 y_WF_pushed b_WF_pushed 4 (some .int) [.ref (b + 0), vI x1, vI x2, vI x3] M (QI b C n res.1 res.2) := by
  refine CM.of (lo := 191) (ow := "WardFalls") (by decide) rfl (Nat.le_of_ble_eq_true rfl) hlo (fun p e s m below meth c F hlk hr hS ls hl => ?_)
  have hl : lv_has ls 4 [(0, .ref (b + 0)), (1, vI x1), (2, vI x2), (3, vI x3)] := hl
  unfold t_WF_pushed at hT
  refine lv_aload_n F.hx F.hb d_WF_pushed_0 rfl (lv_at hl 0 rfl) ?_
  refine lv_iload_n F.hx F.hb d_WF_pushed_1 rfl (lv_at hl 1 rfl) ?_
  obtain ⟨q1, hq1⟩ : ∃ q, q = (t_WF_isFree M x1) := ⟨_, rfl⟩
  replace hT := qlet_eq hT hq1
  refine r_backZ F hS (r_runV (k := 0) (N := 19) (T := T0) (As := [vI x1]) F hS (show 0 < 191 by decide) (show shK 0 = 4 from rfl) rfl (c_WF_isFree l F.2.2.1 M x1 hx1 _ hq1.symm) gs_WF_250 hd_WF_isFree ⟨Nat.le_of_ble_eq_true rfl, Nat.le_of_ble_eq_true rfl⟩ rfl hl.1 (Nat.le_of_ble_eq_true rfl) ⟨Nat.zero_le _, Nat.zero_le _⟩ rfl d_WF_pushed_2) (fun H locs hS h2 => ?_)
  refine r_if_eq (tgt := 20) F.hx F.hb (inr_z h2) d_WF_pushed_5 (by decide) (fun c3 => ?_) (fun c3 => ?_)
  · replace hT := (if_pos c3).symm.trans hT
    refine r_iconst F.hx F.hb d_WF_pushed_20 ?_
    cases hT
    exact r_iret F hlk hr rfl hS (inr_c rfl) d_WF_pushed_21
  · replace hT := (if_neg c3).symm.trans hT
    refine lv_aload_n F.hx F.hb d_WF_pushed_8 rfl (lv_at hl 0 rfl) ?_
    refine lv_iload_n F.hx F.hb d_WF_pushed_9 rfl (lv_at hl 2 rfl) ?_
    obtain ⟨q4, hq4⟩ : ∃ q, q = (t_WF_isFree M x2) := ⟨_, rfl⟩
    replace hT := qlet_eq hT hq4
    refine r_backZ F hS (r_runV (k := 0) (N := 19) (T := T0) (As := [vI x2]) F hS (show 0 < 191 by decide) (show shK 0 = 4 from rfl) rfl (c_WF_isFree l F.2.2.1 M x2 hx2 _ hq4.symm) gs_WF_250 hd_WF_isFree ⟨Nat.le_of_ble_eq_true rfl, Nat.le_of_ble_eq_true rfl⟩ rfl hl.1 (Nat.le_of_ble_eq_true rfl) ⟨Nat.zero_le _, Nat.zero_le _⟩ rfl d_WF_pushed_10) (fun H locs hS h5 => ?_)
    refine r_if_eq (tgt := 20) F.hx F.hb (inr_z h5) d_WF_pushed_13 (by decide) (fun c6 => ?_) (fun c6 => ?_)
    · replace hT := (if_pos c6).symm.trans hT
      refine r_iconst F.hx F.hb d_WF_pushed_20 ?_
      cases hT
      exact r_iret F hlk hr rfl hS (inr_c rfl) d_WF_pushed_21
    · replace hT := (if_neg c6).symm.trans hT
      refine lv_iload_n F.hx F.hb d_WF_pushed_16 rfl (lv_at hl 3 rfl) ?_
      refine r_if_ge (tgt := 22) F.hx F.hb hx3 d_WF_pushed_17 (by decide) (fun c7 => ?_) (fun c7 => ?_)
      · replace hT := (if_pos c7).symm.trans hT
        refine lv_aload_n F.hx F.hb d_WF_pushed_22 rfl (lv_at hl 0 rfl) ?_
        refine lv_iload_n F.hx F.hb d_WF_pushed_23 rfl (lv_at hl 1 rfl) ?_
        refine lv_iload_n F.hx F.hb d_WF_pushed_24 rfl (lv_at hl 2 rfl) ?_
        obtain ⟨q8, hq8, hT⟩ := q_obind hT
        refine r_backV F hS (r_runV (k := 0) (N := 19) (T := T0) (As := [vI x1, vI x2]) F hS (show 0 < 191 by decide) (show shK 0 = 4 from rfl) rfl (c_WF_findPushed l F.2.2.1 M x1 x2 hx1 hx2 _ hq8) gs_WF_323 hd_WF_findPushed ⟨Nat.le_of_ble_eq_true rfl, Nat.le_of_ble_eq_true rfl⟩ rfl hl.1 (Nat.le_of_ble_eq_true rfl) ⟨Nat.zero_le _, Nat.zero_le _⟩ rfl d_WF_pushed_25) (fun H locs hS => ?_)
        refine lv_aload_n F.hx F.hb d_WF_pushed_28 rfl (lv_at hl 0 rfl) ?_
        refine r_get (v := .ref (b + 185)) (N := 19) (T := T0) (j := 17) F hS (show 0 < 191 by decide) (show shK 0 = 4 from rfl) (show shN 0 = 19 from rfl) rfl (Nat.le_of_ble_eq_true rfl) ing0 mw_567 (fv_sg rfl rfl rfl) d_WF_pushed_29 ?_
        refine lv_iload_n F.hx F.hb d_WF_pushed_32 rfl (lv_at hl 3 rfl) ?_
        obtain ⟨q10, hq10⟩ : ∃ q, q = (t_Paths_cellAt q8 x3) := ⟨_, rfl⟩
        replace hT := qlet_eq hT hq10
        refine r_backI F hS (r_runV (k := 185) (N := 5) (T := T7) (As := [vI x3]) F hS (show 185 < 191 by decide) (show shK 185 = 11 from rfl) rfl (c_Paths_cellAt l F.2.2.1 q8 x3 hx3 _ hq10.symm) gs_WF_322 hd_Paths_cellAt ⟨Nat.le_of_ble_eq_true rfl, Nat.le_of_ble_eq_true rfl⟩ rfl hl.1 (Nat.le_of_ble_eq_true rfl) ⟨Nat.zero_le _, Nat.zero_le _⟩ rfl d_WF_pushed_33) (fun H locs hS h11 => ?_)
        cases hT
        exact r_iret F hlk hr rfl hS h11 d_WF_pushed_36
      · replace hT := (if_neg c7).symm.trans hT
        refine r_iconst F.hx F.hb d_WF_pushed_20 ?_
        cases hT
        exact r_iret F hlk hr rfl hS (inr_c rfl) d_WF_pushed_21
theorem d_Trail_firstOther_0 : decode b_Trail_firstOther 0 = .ok (.iconst 1, 1) := dc_4 (by decide +kernel)
theorem d_Trail_firstOther_1 : decode b_Trail_firstOther 1 = .ok (.istore_n 2, 1) := dc_61 (by decide +kernel)
theorem d_Trail_firstOther_2 : decode b_Trail_firstOther 2 = .ok (.iload_n 2, 1) := dc_28 (by decide +kernel)
theorem d_Trail_firstOther_3 : decode b_Trail_firstOther 3 = .ok (.aload_n 0, 1) := dc_42 (by decide +kernel)
theorem d_Trail_firstOther_4 : decode b_Trail_firstOther 4 = .ok (.getfield 15, 3) := dc_180 (by decide +kernel)
theorem d_Trail_firstOther_7 : decode b_Trail_firstOther 7 = .ok (.if_icmp .ge 40, 3) := dc_162 (by decide +kernel)
theorem d_Trail_firstOther_10 : decode b_Trail_firstOther 10 = .ok (.aload_n 1, 1) := dc_43 (by decide +kernel)
theorem d_Trail_firstOther_11 : decode b_Trail_firstOther 11 = .ok (.aload_n 0, 1) := dc_42 (by decide +kernel)
theorem d_Trail_firstOther_12 : decode b_Trail_firstOther 12 = .ok (.getfield 9, 3) := dc_180 (by decide +kernel)
theorem d_Trail_firstOther_15 : decode b_Trail_firstOther 15 = .ok (.iload_n 2, 1) := dc_28 (by decide +kernel)
theorem d_Trail_firstOther_16 : decode b_Trail_firstOther 16 = .ok (.invokestatic 52, 3) := dc_184 (by decide +kernel)
theorem d_Trail_firstOther_19 : decode b_Trail_firstOther 19 = .ok (.invokevirtual 56, 3) := dc_182 (by decide +kernel)
theorem d_Trail_firstOther_22 : decode b_Trail_firstOther 22 = .ok (.istore_n 3, 1) := dc_62 (by decide +kernel)
theorem d_Trail_firstOther_23 : decode b_Trail_firstOther 23 = .ok (.iload_n 3, 1) := dc_29 (by decide +kernel)
theorem d_Trail_firstOther_24 : decode b_Trail_firstOther 24 = .ok (.aload_n 1, 1) := dc_43 (by decide +kernel)
theorem d_Trail_firstOther_25 : decode b_Trail_firstOther 25 = .ok (.aload_n 0, 1) := dc_42 (by decide +kernel)
theorem d_Trail_firstOther_26 : decode b_Trail_firstOther 26 = .ok (.getfield 9, 3) := dc_180 (by decide +kernel)
theorem d_Trail_firstOther_29 : decode b_Trail_firstOther 29 = .ok (.iconst 0, 1) := dc_3 (by decide +kernel)
theorem d_Trail_firstOther_30 : decode b_Trail_firstOther 30 = .ok (.invokestatic 52, 3) := dc_184 (by decide +kernel)
theorem d_Trail_firstOther_33 : decode b_Trail_firstOther 33 = .ok (.invokevirtual 56, 3) := dc_182 (by decide +kernel)
theorem d_Trail_firstOther_36 : decode b_Trail_firstOther 36 = .ok (.if_icmp .eq 5, 3) := dc_159 (by decide +kernel)
theorem d_Trail_firstOther_39 : decode b_Trail_firstOther 39 = .ok (.iload_n 3, 1) := dc_29 (by decide +kernel)
theorem d_Trail_firstOther_40 : decode b_Trail_firstOther 40 = .ok (.ireturn, 1) := dc_172 (by decide +kernel)
theorem d_Trail_firstOther_41 : decode b_Trail_firstOther 41 = .ok (.iinc 2 1, 3) := dc_132 (by decide +kernel)
theorem d_Trail_firstOther_44 : decode b_Trail_firstOther 44 = .ok (.goto (-42), 3) := dc_167 (by decide +kernel)
theorem d_Trail_firstOther_47 : decode b_Trail_firstOther 47 = .ok (.bipush (-2), 2) := dc_16 (by decide +kernel)
theorem d_Trail_firstOther_49 : decode b_Trail_firstOther 49 = .ok (.ireturn, 1) := dc_172 (by decide +kernel)
def t_Trail_firstOther_L2 (k0 : Nat) (k1 : Nat)  : Nat → Mem → Int → Option (Int)
  | 0, _, _ => none
  | fu + 1, M, v2_ => (if (M.1 k0 1) ≤ v2_ then (some (-2)) else (qlet (t_WF_look M (k0 + 1) 48 v2_) fun q3 => (qlet (t_Town_ownerOf M k1 q3) fun q5 => (qlet (t_WF_look M (k0 + 1) 48 0) fun q7 => (qlet (t_Town_ownerOf M k1 q7) fun q9 => (if q5 = q9 then (t_Trail_firstOther_L2 k0 k1 fu M (w32 (v2_ + 1))) else (some q5)))))))
def t_Trail_firstOther (M : Mem) (k0 : Nat) (k1 : Nat) : Option (Int) := (t_Trail_firstOther_L2 k0 k1 FU M 1)
set_option maxHeartbeats 4000000 in
set_option maxRecDepth 100000 in
theorem k_Trail_firstOther_L2 (l : Launch) {p : Program} {e : Env} {s : State} {m : MethodId} {below : List Frame} {meth : Method} {c : Code} {b n : Nat} {C : CT} (hlo : 191 ≤ n) (k0 : Nat) (k1 : Nat) (hk0 : isTrail k0) (hk1 : isTown k1) (F : Cx b p m c b_Trail_firstOther 4 s ([.ref (b + k0), .ref (b + k1)] : List Value).toArray "WardFalls$Trail" C n 191) (hlk : meth.locks = false) (hr : meth.sig.returnType = some .int) {res : Int} : ∀ (fu : Nat) (M : Mem) (v2_ : Int) (hv2_ : InR v2_) (H : Heap) (locs : List Loc) (ls : Array Slot), St b C n M s H locs → lv_has ls 4 [(0, .ref (b + k0)), (1, .ref (b + k1)), (2, vI v2_)] → t_Trail_firstOther_L2 k0 k1 fu M v2_ = some res → W p l e (headSpec (wsM y_Trail_firstOther b_Trail_firstOther 4 (some .int)) (rmD 2)).room s m ([.ref (b + k0), .ref (b + k1)] : List Value).toArray below meth c H locs 0 0 (MQ below (QI b C n M res) ([.ref (b + k0), .ref (b + k1)] : List Value).toArray s 0 0 (frb b)) (F0 m 2 ls []) := by
  intro fu
  induction fu with
  | zero => intro M v2_ hv2_ H locs ls hS hl hT; exact absurd hT (by simp [t_Trail_firstOther_L2])
  | succ fu ih =>
    intro M v2_ hv2_ H locs ls hS hl hT
    rw [t_Trail_firstOther_L2] at hT
    refine lv_iload_n F.hx F.hb d_Trail_firstOther_2 rfl (lv_at hl 2 rfl) ?_
    refine lv_aload_n F.hx F.hb d_Trail_firstOther_3 rfl (lv_at hl 0 rfl) ?_
    refine r_get (v := vI (M.1 k0 1)) (N := 9) (T := T12) (j := 1) F hS (Trail_lt hk0) (Trail_sh hk0) (Trail_N hk0) rfl (Nat.le_of_ble_eq_true rfl) ing12 mw_403 (fv_int rfl) d_Trail_firstOther_4 ?_
    have i1 := hS.rng k0 1
    refine r_icmp_ge (tgt := 47) F.hx F.hb hv2_ i1 d_Trail_firstOther_7 (by decide) (fun c2 => ?_) (fun c2 => ?_)
    · replace hT := (if_pos c2).symm.trans hT
      refine r_bipush F.hx F.hb d_Trail_firstOther_47 rfl ?_
      cases hT
      exact r_iret F hlk hr rfl hS (inr_c rfl) d_Trail_firstOther_49
    · replace hT := (if_neg c2).symm.trans hT
      refine lv_aload_n F.hx F.hb d_Trail_firstOther_10 rfl (lv_at hl 1 rfl) ?_
      refine lv_aload_n F.hx F.hb d_Trail_firstOther_11 rfl (lv_at hl 0 rfl) ?_
      refine r_get (v := .ref (b + (k0 + 1))) (N := 9) (T := T12) (j := 0) F hS (Trail_lt hk0) (Trail_sh hk0) (Trail_N hk0) rfl (Nat.le_of_ble_eq_true rfl) ing12 mw_402 (Trail_g0 hk0 _) d_Trail_firstOther_12 ?_
      refine lv_iload_n F.hx F.hb d_Trail_firstOther_15 rfl (lv_at hl 2 rfl) ?_
      obtain ⟨q3, hq3⟩ : ∃ q, q = (t_WF_look M (k0 + 1) 48 v2_) := ⟨_, rfl⟩
      replace hT := qlet_eq hT hq3
      refine r_backI F hS (r_runSN (As := [.ref (b + (k0 + 1)), vI v2_]) F hS (c_WF_look l F.2.2.1 M (k0 + 1) 48 v2_ (Trail_f0 hk0) hv2_ _ hq3.symm) mw_519 mw_518 mw_1 gs_Trail_52 hd_WF_look ⟨Nat.le_of_ble_eq_true rfl, Nat.le_of_ble_eq_true rfl⟩ rfl hl.1 (Nat.le_of_ble_eq_true rfl) ⟨Nat.zero_le _, Nat.zero_le _⟩ rfl d_Trail_firstOther_16) (fun H locs hS h4 => ?_)
      obtain ⟨q5, hq5⟩ : ∃ q, q = (t_Town_ownerOf M k1 q3) := ⟨_, rfl⟩
      replace hT := qlet_eq hT hq5
      refine r_backI F hS (r_runV (k := k1) (N := 20) (T := T11) (As := [vI q3]) F hS (Town_lt hk1) (Town_sh hk1) rfl (c_Town_ownerOf l F.2.2.1 M k1 q3 hk1 h4 _ hq5.symm) gs_Trail_56 hd_Town_ownerOf ⟨Nat.le_of_ble_eq_true rfl, Nat.le_of_ble_eq_true rfl⟩ rfl hl.1 (Nat.le_of_ble_eq_true rfl) ⟨Nat.zero_le _, Nat.zero_le _⟩ rfl d_Trail_firstOther_19) (fun H locs hS h6 => ?_)
      refine lv_istore_n (lv' := [(3, vI q5), (0, .ref (b + k0)), (1, .ref (b + k1)), (2, vI v2_)]) F.hx F.hb d_Trail_firstOther_22 rfl hl (Nat.le_of_ble_eq_true rfl) rfl (fun ls hl => ?_)
      refine lv_iload_n F.hx F.hb d_Trail_firstOther_23 rfl (lv_at hl 0 rfl) ?_
      refine lv_aload_n F.hx F.hb d_Trail_firstOther_24 rfl (lv_at hl 2 rfl) ?_
      refine lv_aload_n F.hx F.hb d_Trail_firstOther_25 rfl (lv_at hl 1 rfl) ?_
      refine r_get (v := .ref (b + (k0 + 1))) (N := 9) (T := T12) (j := 0) F hS (Trail_lt hk0) (Trail_sh hk0) (Trail_N hk0) rfl (Nat.le_of_ble_eq_true rfl) ing12 mw_402 (Trail_g0 hk0 _) d_Trail_firstOther_26 ?_
      refine r_iconst F.hx F.hb d_Trail_firstOther_29 ?_
      obtain ⟨q7, hq7⟩ : ∃ q, q = (t_WF_look M (k0 + 1) 48 0) := ⟨_, rfl⟩
      replace hT := qlet_eq hT hq7
      refine r_backI F hS (r_runSN (As := [.ref (b + (k0 + 1)), vI 0]) F hS (c_WF_look l F.2.2.1 M (k0 + 1) 48 0 (Trail_f0 hk0) (inr_c rfl) _ hq7.symm) mw_519 mw_518 mw_1 gs_Trail_52 hd_WF_look ⟨Nat.le_of_ble_eq_true rfl, Nat.le_of_ble_eq_true rfl⟩ rfl hl.1 (Nat.le_of_ble_eq_true rfl) ⟨Nat.zero_le _, Nat.zero_le _⟩ rfl d_Trail_firstOther_30) (fun H locs hS h8 => ?_)
      obtain ⟨q9, hq9⟩ : ∃ q, q = (t_Town_ownerOf M k1 q7) := ⟨_, rfl⟩
      replace hT := qlet_eq hT hq9
      refine r_backI F hS (r_runV (k := k1) (N := 20) (T := T11) (As := [vI q7]) F hS (Town_lt hk1) (Town_sh hk1) rfl (c_Town_ownerOf l F.2.2.1 M k1 q7 hk1 h8 _ hq9.symm) gs_Trail_56 hd_Town_ownerOf ⟨Nat.le_of_ble_eq_true rfl, Nat.le_of_ble_eq_true rfl⟩ rfl hl.1 (Nat.le_of_ble_eq_true rfl) ⟨Nat.zero_le _, Nat.zero_le _⟩ rfl d_Trail_firstOther_33) (fun H locs hS h10 => ?_)
      refine r_icmp_eq (tgt := 41) F.hx F.hb h6 h10 d_Trail_firstOther_36 (by decide) (fun c11 => ?_) (fun c11 => ?_)
      · replace hT := (if_pos c11).symm.trans hT
        refine lv_iinc (v := Int32.ofInt (w32 (v2_ + 1))) (lv' := [(2, vI (w32 (v2_ + 1))), (3, vI q5), (0, .ref (b + k0)), (1, .ref (b + k1))]) F.hx F.hb d_Trail_firstOther_41 hl (k := 3) rfl (q_of_add _ _) (Nat.le_of_ble_eq_true rfl) rfl (fun ls hl => ?_)
        refine lv_goto (tgt := 2) F.hx F.hb d_Trail_firstOther_44 (by decide) ?_
        exact ih M (w32 (v2_ + 1)) (inr_w32 _) _ _ _ hS (lv_sub hl [2, 3, 0] rfl) hT
      · replace hT := (if_neg c11).symm.trans hT
        refine lv_iload_n F.hx F.hb d_Trail_firstOther_39 rfl (lv_at hl 0 rfl) ?_
        cases hT
        exact r_iret F hlk hr rfl hS h6 d_Trail_firstOther_40
set_option maxHeartbeats 4000000 in
set_option maxRecDepth 100000 in
theorem c_Trail_firstOther (l : Launch) {b n : Nat} {C : CT} (hlo : 191 ≤ n) (M : Mem) (k0 : Nat) (k1 : Nat) (hk0 : isTrail k0) (hk1 : isTown k1) (res : Int) (hT : t_Trail_firstOther M k0 k1 = some res) : CM l b C n 2 y_Trail_firstOther b_Trail_firstOther 4 (some .int) [.ref (b + k0), .ref (b + k1)] M (QI b C n M res) := by
  refine CM.of (lo := 191) (ow := "WardFalls$Trail") (by decide) rfl (Nat.le_of_ble_eq_true rfl) hlo (fun p e s m below meth c F hlk hr hS ls hl => ?_)
  have hl : lv_has ls 4 [(0, .ref (b + k0)), (1, .ref (b + k1))] := hl
  unfold t_Trail_firstOther at hT
  refine r_iconst F.hx F.hb d_Trail_firstOther_0 ?_
  refine lv_istore_n (lv' := [(2, vI 1), (0, .ref (b + k0)), (1, .ref (b + k1))]) F.hx F.hb d_Trail_firstOther_1 rfl hl (Nat.le_of_ble_eq_true rfl) rfl (fun ls hl => ?_)
  exact k_Trail_firstOther_L2 l hlo k0 k1 hk0 hk1 F hlk hr FU M 1 (inr_c rfl) _ _ _ hS (lv_sub hl [1, 2, 0] rfl) hT
theorem d_WF_war_0 : decode b_WF_war 0 = .ok (.aload_n 0, 1) := dc_42 (by decide +kernel)
theorem d_WF_war_1 : decode b_WF_war 1 = .ok (.getfield 22, 3) := dc_180 (by decide +kernel)
theorem d_WF_war_4 : decode b_WF_war 4 = .ok (.iload_n 1, 1) := dc_27 (by decide +kernel)
theorem d_WF_war_5 : decode b_WF_war 5 = .ok (.invokevirtual 198, 3) := dc_182 (by decide +kernel)
theorem d_WF_war_8 : decode b_WF_war 8 = .ok (.ifCond .eq 19, 3) := dc_153 (by decide +kernel)
theorem d_WF_war_11 : decode b_WF_war 11 = .ok (.aload_n 0, 1) := dc_42 (by decide +kernel)
theorem d_WF_war_12 : decode b_WF_war 12 = .ok (.getfield 22, 3) := dc_180 (by decide +kernel)
theorem d_WF_war_15 : decode b_WF_war 15 = .ok (.iload_n 2, 1) := dc_28 (by decide +kernel)
theorem d_WF_war_16 : decode b_WF_war 16 = .ok (.invokevirtual 198, 3) := dc_182 (by decide +kernel)
theorem d_WF_war_19 : decode b_WF_war 19 = .ok (.ifCond .eq 8, 3) := dc_153 (by decide +kernel)
theorem d_WF_war_22 : decode b_WF_war 22 = .ok (.iload_n 1, 1) := dc_27 (by decide +kernel)
theorem d_WF_war_23 : decode b_WF_war 23 = .ok (.iload_n 2, 1) := dc_28 (by decide +kernel)
theorem d_WF_war_24 : decode b_WF_war 24 = .ok (.if_icmp .ne 5, 3) := dc_160 (by decide +kernel)
theorem d_WF_war_27 : decode b_WF_war 27 = .ok (.iconst (-1), 1) := dc_2 (by decide +kernel)
theorem d_WF_war_28 : decode b_WF_war 28 = .ok (.ireturn, 1) := dc_172 (by decide +kernel)
theorem d_WF_war_29 : decode b_WF_war 29 = .ok (.iconst 0, 1) := dc_3 (by decide +kernel)
theorem d_WF_war_30 : decode b_WF_war 30 = .ok (.istore_n 3, 1) := dc_62 (by decide +kernel)
theorem d_WF_war_31 : decode b_WF_war 31 = .ok (.iconst 0, 1) := dc_3 (by decide +kernel)
theorem d_WF_war_32 : decode b_WF_war 32 = .ok (.istore 4, 2) := dc_54 (by decide +kernel)
theorem d_WF_war_34 : decode b_WF_war 34 = .ok (.iload 4, 2) := dc_21 (by decide +kernel)
theorem d_WF_war_36 : decode b_WF_war 36 = .ok (.aload_n 0, 1) := dc_42 (by decide +kernel)
theorem d_WF_war_37 : decode b_WF_war 37 = .ok (.getfield 22, 3) := dc_180 (by decide +kernel)
theorem d_WF_war_40 : decode b_WF_war 40 = .ok (.getfield 330, 3) := dc_180 (by decide +kernel)
theorem d_WF_war_43 : decode b_WF_war 43 = .ok (.if_icmp .ge 72, 3) := dc_162 (by decide +kernel)
theorem d_WF_war_46 : decode b_WF_war 46 = .ok (.aload_n 0, 1) := dc_42 (by decide +kernel)
theorem d_WF_war_47 : decode b_WF_war 47 = .ok (.getfield 22, 3) := dc_180 (by decide +kernel)
theorem d_WF_war_50 : decode b_WF_war 50 = .ok (.iload 4, 2) := dc_21 (by decide +kernel)
theorem d_WF_war_52 : decode b_WF_war 52 = .ok (.invokevirtual 161, 3) := dc_182 (by decide +kernel)
theorem d_WF_war_55 : decode b_WF_war 55 = .ok (.iload_n 1, 1) := dc_27 (by decide +kernel)
theorem d_WF_war_56 : decode b_WF_war 56 = .ok (.if_icmp .ne 53, 3) := dc_160 (by decide +kernel)
theorem d_WF_war_59 : decode b_WF_war 59 = .ok (.aload_n 0, 1) := dc_42 (by decide +kernel)
theorem d_WF_war_60 : decode b_WF_war 60 = .ok (.getfield 46, 3) := dc_180 (by decide +kernel)
theorem d_WF_war_63 : decode b_WF_war 63 = .ok (.getfield 165, 3) := dc_180 (by decide +kernel)
theorem d_WF_war_66 : decode b_WF_war 66 = .ok (.iload 4, 2) := dc_21 (by decide +kernel)
theorem d_WF_war_68 : decode b_WF_war 68 = .ok (.invokestatic 169, 3) := dc_184 (by decide +kernel)
theorem d_WF_war_71 : decode b_WF_war 71 = .ok (.ifCond .ne 38, 3) := dc_154 (by decide +kernel)
theorem d_WF_war_74 : decode b_WF_war 74 = .ok (.aload_n 0, 1) := dc_42 (by decide +kernel)
theorem d_WF_war_75 : decode b_WF_war 75 = .ok (.getfield 97, 3) := dc_180 (by decide +kernel)
theorem d_WF_war_78 : decode b_WF_war 78 = .ok (.aload_n 0, 1) := dc_42 (by decide +kernel)
theorem d_WF_war_79 : decode b_WF_war 79 = .ok (.getfield 22, 3) := dc_180 (by decide +kernel)
theorem d_WF_war_82 : decode b_WF_war 82 = .ok (.aload_n 0, 1) := dc_42 (by decide +kernel)
theorem d_WF_war_83 : decode b_WF_war 83 = .ok (.getfield 46, 3) := dc_180 (by decide +kernel)
theorem d_WF_war_86 : decode b_WF_war 86 = .ok (.iload 4, 2) := dc_21 (by decide +kernel)
theorem d_WF_war_88 : decode b_WF_war 88 = .ok (.invokevirtual 253, 3) := dc_182 (by decide +kernel)
theorem d_WF_war_91 : decode b_WF_war 91 = .ok (.aload_n 0, 1) := dc_42 (by decide +kernel)
theorem d_WF_war_92 : decode b_WF_war 92 = .ok (.getfield 97, 3) := dc_180 (by decide +kernel)
theorem d_WF_war_95 : decode b_WF_war 95 = .ok (.aload_n 0, 1) := dc_42 (by decide +kernel)
theorem d_WF_war_96 : decode b_WF_war 96 = .ok (.getfield 22, 3) := dc_180 (by decide +kernel)
theorem d_WF_war_99 : decode b_WF_war 99 = .ok (.invokevirtual 333, 3) := dc_182 (by decide +kernel)
theorem d_WF_war_102 : decode b_WF_war 102 = .ok (.iload_n 2, 1) := dc_28 (by decide +kernel)
theorem d_WF_war_103 : decode b_WF_war 103 = .ok (.if_icmp .ne 6, 3) := dc_160 (by decide +kernel)
theorem d_WF_war_106 : decode b_WF_war 106 = .ok (.iinc 3 1, 3) := dc_132 (by decide +kernel)
theorem d_WF_war_109 : decode b_WF_war 109 = .ok (.iinc 4 1, 3) := dc_132 (by decide +kernel)
theorem d_WF_war_112 : decode b_WF_war 112 = .ok (.goto (-78), 3) := dc_167 (by decide +kernel)
theorem d_WF_war_115 : decode b_WF_war 115 = .ok (.iload_n 3, 1) := dc_29 (by decide +kernel)
theorem d_WF_war_116 : decode b_WF_war 116 = .ok (.ireturn, 1) := dc_172 (by decide +kernel)
def t_WF_war_L109 (x1 : Int) (x2 : Int) (bk34 : Mem → Int → Int → Option (Mem × Int)) (M : Mem) (v3_ : Int) (v4_ : Int) : Option (Mem × Int) := (bk34 M v3_ (w32 (v4_ + 1)))
def t_WF_war_L34 (x1 : Int) (x2 : Int)  : Nat → Mem → Int → Int → Option (Mem × Int)
  | 0, _, _, _ => none
  | fu + 1, M, v3_, v4_ => (if (M.1 ((M.1 0 4).toNat) 13) ≤ v4_ then (some (M, v3_)) else (qlet (t_Town_ownerOf M ((M.1 0 4).toNat) v4_) fun q14 => (if q14 = x1 then (qlet (t_WF_bitOf M (M.2 47 4) v4_) fun q17 => (if q17 = 0 then (obind (t_Trail_follow M 189 ((M.1 0 4).toNat) 47 v4_) fun q21 => (obind (t_Trail_firstOther q21 189 ((q21.1 0 4).toNat)) fun q24 => (if q24 = x2 then (t_WF_war_L109 x1 x2 (fun a0_ a1_ a2_ => t_WF_war_L34 x1 x2 fu a0_ a1_ a2_) q21 (w32 (v3_ + 1)) v4_) else (t_WF_war_L109 x1 x2 (fun a0_ a1_ a2_ => t_WF_war_L34 x1 x2 fu a0_ a1_ a2_) q21 v3_ v4_)))) else (t_WF_war_L109 x1 x2 (fun a0_ a1_ a2_ => t_WF_war_L34 x1 x2 fu a0_ a1_ a2_) M v3_ v4_))) else (t_WF_war_L109 x1 x2 (fun a0_ a1_ a2_ => t_WF_war_L34 x1 x2 fu a0_ a1_ a2_) M v3_ v4_))))
def t_WF_war (M : Mem) (x1 : Int) (x2 : Int) : Option (Mem × Int) := (qlet (t_Town_hasWard M ((M.1 0 4).toNat) x1) fun q2 => (if q2 = 0 then (some (M, (-1))) else (qlet (t_Town_hasWard M ((M.1 0 4).toNat) x2) fun q6 => (if q6 = 0 then (some (M, (-1))) else (if x1 = x2 then (some (M, (-1))) else (t_WF_war_L34 x1 x2 FU M 0 0))))))
set_option maxHeartbeats 4000000 in
set_option maxRecDepth 100000 in
theorem k_WF_war_L109 (l : Launch) {p : Program} {e : Env} {s : State} {m : MethodId} {below : List Frame} {meth : Method} {c : Code} {b n : Nat} {C : CT} (hlo : 191 ≤ n) (x1 : Int) (x2 : Int) (hx1 : InR x1) (hx2 : InR x2) (F : Cx b p m c b_WF_war 5 s ([.ref (b + 0), vI x1, vI x2] : List Value).toArray "WardFalls" C n 191) (hlk : meth.locks = false) (hr : meth.sig.returnType = some .int) {res : Mem × Int} (bk34 : Mem → Int → Int → Option (Mem × Int)) (hbk34 : ∀ (M : Mem) (v3_ : Int) (hv3_ : InR v3_) (v4_ : Int) (hv4_ : InR v4_) (H : Heap) (locs : List Loc) (ls : Array Slot), St b C n M s H locs → lv_has ls 5 [(0, .ref (b + 0)), (1, vI x1), (2, vI x2), (3, vI v3_), (4, vI v4_)] → bk34 M v3_ v4_ = some res → W p l e (headSpec (wsM y_WF_war b_WF_war 5 (some .int)) (rmD 4)).room s m ([.ref (b + 0), vI x1, vI x2] : List Value).toArray below meth c H locs 0 0 (MQ below (QI b C n res.1 res.2) ([.ref (b + 0), vI x1, vI x2] : List Value).toArray s 0 0 (frb b)) (F0 m 34 ls [])) (M : Mem) (v3_ : Int) (hv3_ : InR v3_) (v4_ : Int) (hv4_ : InR v4_) (H : Heap) (locs : List Loc) (ls : Array Slot) (hS : St b C n M s H locs) (hl : lv_has ls 5 [(0, .ref (b + 0)), (1, vI x1), (2, vI x2), (3, vI v3_), (4, vI v4_)]) (hT : t_WF_war_L109 x1 x2 bk34 M v3_ v4_ = some res) : W p l e (headSpec (wsM y_WF_war b_WF_war 5 (some .int)) (rmD 4)).room s m ([.ref (b + 0), vI x1, vI x2] : List Value).toArray below meth c H locs 0 0 (MQ below (QI b C n res.1 res.2) ([.ref (b + 0), vI x1, vI x2] : List Value).toArray s 0 0 (frb b)) (F0 m 109 ls []) := by
  unfold t_WF_war_L109 at hT
  refine lv_iinc (v := Int32.ofInt (w32 (v4_ + 1))) (lv' := [(4, vI (w32 (v4_ + 1))), (0, .ref (b + 0)), (1, vI x1), (2, vI x2), (3, vI v3_)]) F.hx F.hb d_WF_war_109 hl (k := 4) rfl (q_of_add _ _) (Nat.le_of_ble_eq_true rfl) rfl (fun ls hl => ?_)
  refine lv_goto (tgt := 34) F.hx F.hb d_WF_war_112 (by decide) ?_
  exact hbk34 M v3_ hv3_ (w32 (v4_ + 1)) (inr_w32 _) _ _ _ hS (lv_sub hl [1, 2, 3, 4, 0] rfl) hT
set_option maxHeartbeats 4000000 in
set_option maxRecDepth 100000 in
theorem k_WF_war_L34 (l : Launch) {p : Program} {e : Env} {s : State} {m : MethodId} {below : List Frame} {meth : Method} {c : Code} {b n : Nat} {C : CT} (hlo : 191 ≤ n) (x1 : Int) (x2 : Int) (hx1 : InR x1) (hx2 : InR x2) (F : Cx b p m c b_WF_war 5 s ([.ref (b + 0), vI x1, vI x2] : List Value).toArray "WardFalls" C n 191) (hlk : meth.locks = false) (hr : meth.sig.returnType = some .int) {res : Mem × Int} : ∀ (fu : Nat) (M : Mem) (v3_ : Int) (hv3_ : InR v3_) (v4_ : Int) (hv4_ : InR v4_) (H : Heap) (locs : List Loc) (ls : Array Slot), St b C n M s H locs → lv_has ls 5 [(0, .ref (b + 0)), (1, vI x1), (2, vI x2), (3, vI v3_), (4, vI v4_)] → t_WF_war_L34 x1 x2 fu M v3_ v4_ = some res → W p l e (headSpec (wsM y_WF_war b_WF_war 5 (some .int)) (rmD 4)).room s m ([.ref (b + 0), vI x1, vI x2] : List Value).toArray below meth c H locs 0 0 (MQ below (QI b C n res.1 res.2) ([.ref (b + 0), vI x1, vI x2] : List Value).toArray s 0 0 (frb b)) (F0 m 34 ls []) := by
  intro fu
  induction fu with
  | zero => intro M v3_ hv3_ v4_ hv4_ H locs ls hS hl hT; exact absurd hT (by simp [t_WF_war_L34])
  | succ fu ih =>
    intro M v3_ hv3_ v4_ hv4_ H locs ls hS hl hT
    rw [t_WF_war_L34] at hT
    refine lv_iload F.hx F.hb d_WF_war_34 (lv_at hl 4 rfl) ?_
    refine lv_aload_n F.hx F.hb d_WF_war_36 rfl (lv_at hl 0 rfl) ?_
    have h10 := St_town hS
    refine r_get (v := .ref (b + ((M.1 0 4).toNat))) (N := 19) (T := T0) (j := 4) F hS (show 0 < 191 by decide) (show shK 0 = 4 from rfl) (show shN 0 = 19 from rfl) rfl (Nat.le_of_ble_eq_true rfl) ing0 mw_554 (fv_town hS) d_WF_war_37 ?_
    refine r_get (v := vI (M.1 ((M.1 0 4).toNat) 13)) (N := 20) (T := T11) (j := 13) F hS (Town_lt h10) (Town_sh h10) (Town_N h10) rfl (Nat.le_of_ble_eq_true rfl) ing11 mw_132 (fv_int rfl) d_WF_war_40 ?_
    have i11 := hS.rng ((M.1 0 4).toNat) 13
    refine r_icmp_ge (tgt := 115) F.hx F.hb hv4_ i11 d_WF_war_43 (by decide) (fun c12 => ?_) (fun c12 => ?_)
    · replace hT := (if_pos c12).symm.trans hT
      refine lv_iload_n F.hx F.hb d_WF_war_115 rfl (lv_at hl 3 rfl) ?_
      cases hT
      exact r_iret F hlk hr rfl hS hv3_ d_WF_war_116
    · replace hT := (if_neg c12).symm.trans hT
      refine lv_aload_n F.hx F.hb d_WF_war_46 rfl (lv_at hl 0 rfl) ?_
      have h13 := St_town hS
      refine r_get (v := .ref (b + ((M.1 0 4).toNat))) (N := 19) (T := T0) (j := 4) F hS (show 0 < 191 by decide) (show shK 0 = 4 from rfl) (show shN 0 = 19 from rfl) rfl (Nat.le_of_ble_eq_true rfl) ing0 mw_554 (fv_town hS) d_WF_war_47 ?_
      refine lv_iload F.hx F.hb d_WF_war_50 (lv_at hl 4 rfl) ?_
      obtain ⟨q14, hq14⟩ : ∃ q, q = (t_Town_ownerOf M ((M.1 0 4).toNat) v4_) := ⟨_, rfl⟩
      replace hT := qlet_eq hT hq14
      refine r_backI F hS (r_runV (k := ((M.1 0 4).toNat)) (N := 20) (T := T11) (As := [vI v4_]) F hS (Town_lt h13) (Town_sh h13) rfl (c_Town_ownerOf l F.2.2.1 M ((M.1 0 4).toNat) v4_ h13 hv4_ _ hq14.symm) gs_WF_161 hd_Town_ownerOf ⟨Nat.le_of_ble_eq_true rfl, Nat.le_of_ble_eq_true rfl⟩ rfl hl.1 (Nat.le_of_ble_eq_true rfl) ⟨Nat.zero_le _, Nat.zero_le _⟩ rfl d_WF_war_52) (fun H locs hS h15 => ?_)
      refine lv_iload_n F.hx F.hb d_WF_war_55 rfl (lv_at hl 1 rfl) ?_
      refine r_icmp_ne (tgt := 109) F.hx F.hb h15 hx1 d_WF_war_56 (by decide) (fun c16 => ?_) (fun c16 => ?_)
      · replace hT := (if_neg c16).symm.trans hT
        exact k_WF_war_L109 l hlo x1 x2 hx1 hx2 F hlk hr (fun a0_ a1_ a2_ => t_WF_war_L34 x1 x2 fu a0_ a1_ a2_) ih M v3_ hv3_ v4_ hv4_ _ _ _ hS (lv_sub hl [0, 1, 2, 3, 4] rfl) hT
      · replace hT := (if_pos c16).symm.trans hT
        refine lv_aload_n F.hx F.hb d_WF_war_59 rfl (lv_at hl 0 rfl) ?_
        refine r_get (v := .ref (b + 47)) (N := 19) (T := T0) (j := 8) F hS (show 0 < 191 by decide) (show shK 0 = 4 from rfl) (show shN 0 = 19 from rfl) rfl (Nat.le_of_ble_eq_true rfl) ing0 mw_558 (fv_sg rfl rfl rfl) d_WF_war_60 ?_
        refine r_get (v := .long (M.2 47 4)) (N := 7) (T := T9) (j := 4) F hS (show 47 < 191 by decide) (show shK 47 = 13 from rfl) (show shN 47 = 7 from rfl) rfl (Nat.le_of_ble_eq_true rfl) ing9 mw_287 (fv_long rfl) d_WF_war_63 ?_
        refine lv_iload F.hx F.hb d_WF_war_66 (lv_at hl 4 rfl) ?_
        obtain ⟨q17, hq17⟩ : ∃ q, q = (t_WF_bitOf M (M.2 47 4) v4_) := ⟨_, rfl⟩
        replace hT := qlet_eq hT hq17
        refine r_backI F hS (r_runS (As := [.long (M.2 47 4), vI v4_]) F hS (c_WF_bitOf l F.2.2.1 M (M.2 47 4) v4_ hv4_ _ hq17.symm) gs_WF_169 hd_WF_bitOf ⟨Nat.le_of_ble_eq_true rfl, Nat.le_of_ble_eq_true rfl⟩ rfl hl.1 (Nat.le_of_ble_eq_true rfl) ⟨Nat.zero_le _, Nat.zero_le _⟩ rfl d_WF_war_68) (fun H locs hS h18 => ?_)
        refine r_if_ne (tgt := 109) F.hx F.hb h18 d_WF_war_71 (by decide) (fun c19 => ?_) (fun c19 => ?_)
        · replace hT := (if_neg c19).symm.trans hT
          exact k_WF_war_L109 l hlo x1 x2 hx1 hx2 F hlk hr (fun a0_ a1_ a2_ => t_WF_war_L34 x1 x2 fu a0_ a1_ a2_) ih M v3_ hv3_ v4_ hv4_ _ _ _ hS (lv_sub hl [0, 1, 2, 3, 4] rfl) hT
        · replace hT := (if_pos c19).symm.trans hT
          refine lv_aload_n F.hx F.hb d_WF_war_74 rfl (lv_at hl 0 rfl) ?_
          refine r_get (v := .ref (b + 189)) (N := 19) (T := T0) (j := 18) F hS (show 0 < 191 by decide) (show shK 0 = 4 from rfl) (show shN 0 = 19 from rfl) rfl (Nat.le_of_ble_eq_true rfl) ing0 mw_568 (fv_sg rfl rfl rfl) d_WF_war_75 ?_
          refine lv_aload_n F.hx F.hb d_WF_war_78 rfl (lv_at hl 0 rfl) ?_
          have h20 := St_town hS
          refine r_get (v := .ref (b + ((M.1 0 4).toNat))) (N := 19) (T := T0) (j := 4) F hS (show 0 < 191 by decide) (show shK 0 = 4 from rfl) (show shN 0 = 19 from rfl) rfl (Nat.le_of_ble_eq_true rfl) ing0 mw_554 (fv_town hS) d_WF_war_79 ?_
          refine lv_aload_n F.hx F.hb d_WF_war_82 rfl (lv_at hl 0 rfl) ?_
          refine r_get (v := .ref (b + 47)) (N := 19) (T := T0) (j := 8) F hS (show 0 < 191 by decide) (show shK 0 = 4 from rfl) (show shN 0 = 19 from rfl) rfl (Nat.le_of_ble_eq_true rfl) ing0 mw_558 (fv_sg rfl rfl rfl) d_WF_war_83 ?_
          refine lv_iload F.hx F.hb d_WF_war_86 (lv_at hl 4 rfl) ?_
          obtain ⟨q21, hq21, hT⟩ := q_obind hT
          refine r_backV F hS (r_runV (k := 189) (N := 9) (T := T12) (As := [.ref (b + ((M.1 0 4).toNat)), .ref (b + 47), vI v4_]) F hS (show 189 < 191 by decide) (show shK 189 = 16 from rfl) rfl (c_Trail_follow l F.2.2.1 M 189 ((M.1 0 4).toNat) 47 v4_ (by decide : isTrail 189) h20 (by decide : isScene 47) hv4_ _ hq21) gs_WF_253 hd_Trail_follow ⟨Nat.le_of_ble_eq_true rfl, Nat.le_of_ble_eq_true rfl⟩ rfl hl.1 (Nat.le_of_ble_eq_true rfl) ⟨Nat.zero_le _, Nat.zero_le _⟩ rfl d_WF_war_88) (fun H locs hS => ?_)
          refine lv_aload_n F.hx F.hb d_WF_war_91 rfl (lv_at hl 0 rfl) ?_
          refine r_get (v := .ref (b + 189)) (N := 19) (T := T0) (j := 18) F hS (show 0 < 191 by decide) (show shK 0 = 4 from rfl) (show shN 0 = 19 from rfl) rfl (Nat.le_of_ble_eq_true rfl) ing0 mw_568 (fv_sg rfl rfl rfl) d_WF_war_92 ?_
          refine lv_aload_n F.hx F.hb d_WF_war_95 rfl (lv_at hl 0 rfl) ?_
          have h23 := St_town hS
          refine r_get (v := .ref (b + ((q21.1 0 4).toNat))) (N := 19) (T := T0) (j := 4) F hS (show 0 < 191 by decide) (show shK 0 = 4 from rfl) (show shN 0 = 19 from rfl) rfl (Nat.le_of_ble_eq_true rfl) ing0 mw_554 (fv_town hS) d_WF_war_96 ?_
          obtain ⟨q24, hq24, hT⟩ := q_obind hT
          refine r_backI F hS (r_runV (k := 189) (N := 9) (T := T12) (As := [.ref (b + ((q21.1 0 4).toNat))]) F hS (show 189 < 191 by decide) (show shK 189 = 16 from rfl) rfl (c_Trail_firstOther l F.2.2.1 q21 189 ((q21.1 0 4).toNat) (by decide : isTrail 189) h23 _ hq24) gs_WF_333 hd_Trail_firstOther ⟨Nat.le_of_ble_eq_true rfl, Nat.le_of_ble_eq_true rfl⟩ rfl hl.1 (Nat.le_of_ble_eq_true rfl) ⟨Nat.zero_le _, Nat.zero_le _⟩ rfl d_WF_war_99) (fun H locs hS h25 => ?_)
          refine lv_iload_n F.hx F.hb d_WF_war_102 rfl (lv_at hl 2 rfl) ?_
          refine r_icmp_ne (tgt := 109) F.hx F.hb h25 hx2 d_WF_war_103 (by decide) (fun c26 => ?_) (fun c26 => ?_)
          · replace hT := (if_neg c26).symm.trans hT
            exact k_WF_war_L109 l hlo x1 x2 hx1 hx2 F hlk hr (fun a0_ a1_ a2_ => t_WF_war_L34 x1 x2 fu a0_ a1_ a2_) ih q21 v3_ hv3_ v4_ hv4_ _ _ _ hS (lv_sub hl [0, 1, 2, 3, 4] rfl) hT
          · replace hT := (if_pos c26).symm.trans hT
            refine lv_iinc (v := Int32.ofInt (w32 (v3_ + 1))) (lv' := [(3, vI (w32 (v3_ + 1))), (0, .ref (b + 0)), (1, vI x1), (2, vI x2), (4, vI v4_)]) F.hx F.hb d_WF_war_106 hl (k := 3) rfl (q_of_add _ _) (Nat.le_of_ble_eq_true rfl) rfl (fun ls hl => ?_)
            exact k_WF_war_L109 l hlo x1 x2 hx1 hx2 F hlk hr (fun a0_ a1_ a2_ => t_WF_war_L34 x1 x2 fu a0_ a1_ a2_) ih q21 (w32 (v3_ + 1)) (inr_w32 _) v4_ hv4_ _ _ _ hS (lv_sub hl [1, 2, 3, 0, 4] rfl) hT
set_option maxHeartbeats 4000000 in
set_option maxRecDepth 100000 in
theorem c_WF_war (l : Launch) {b n : Nat} {C : CT} (hlo : 191 ≤ n) (M : Mem) (x1 : Int) (x2 : Int) (hx1 : InR x1) (hx2 : InR x2) (res : Mem × Int) (hT : t_WF_war M x1 x2 = some res) : CM l b C n 4 y_WF_war b_WF_war 5 (some .int) [.ref (b + 0), vI x1, vI x2] M (QI b C n res.1 res.2) := by
  refine CM.of (lo := 191) (ow := "WardFalls") (by decide) rfl (Nat.le_of_ble_eq_true rfl) hlo (fun p e s m below meth c F hlk hr hS ls hl => ?_)
  have hl : lv_has ls 5 [(0, .ref (b + 0)), (1, vI x1), (2, vI x2)] := hl
  unfold t_WF_war at hT
  refine lv_aload_n F.hx F.hb d_WF_war_0 rfl (lv_at hl 0 rfl) ?_
  have h1 := St_town hS
  refine r_get (v := .ref (b + ((M.1 0 4).toNat))) (N := 19) (T := T0) (j := 4) F hS (show 0 < 191 by decide) (show shK 0 = 4 from rfl) (show shN 0 = 19 from rfl) rfl (Nat.le_of_ble_eq_true rfl) ing0 mw_554 (fv_town hS) d_WF_war_1 ?_
  refine lv_iload_n F.hx F.hb d_WF_war_4 rfl (lv_at hl 1 rfl) ?_
  obtain ⟨q2, hq2⟩ : ∃ q, q = (t_Town_hasWard M ((M.1 0 4).toNat) x1) := ⟨_, rfl⟩
  replace hT := qlet_eq hT hq2
  refine r_backZ F hS (r_runV (k := ((M.1 0 4).toNat)) (N := 20) (T := T11) (As := [vI x1]) F hS (Town_lt h1) (Town_sh h1) rfl (c_Town_hasWard l F.2.2.1 M ((M.1 0 4).toNat) x1 h1 hx1 _ hq2.symm) gs_WF_198 hd_Town_hasWard ⟨Nat.le_of_ble_eq_true rfl, Nat.le_of_ble_eq_true rfl⟩ rfl hl.1 (Nat.le_of_ble_eq_true rfl) ⟨Nat.zero_le _, Nat.zero_le _⟩ rfl d_WF_war_5) (fun H locs hS h3 => ?_)
  refine r_if_eq (tgt := 27) F.hx F.hb (inr_z h3) d_WF_war_8 (by decide) (fun c4 => ?_) (fun c4 => ?_)
  · replace hT := (if_pos c4).symm.trans hT
    refine r_iconst F.hx F.hb d_WF_war_27 ?_
    cases hT
    exact r_iret F hlk hr rfl hS (inr_c rfl) d_WF_war_28
  · replace hT := (if_neg c4).symm.trans hT
    refine lv_aload_n F.hx F.hb d_WF_war_11 rfl (lv_at hl 0 rfl) ?_
    have h5 := St_town hS
    refine r_get (v := .ref (b + ((M.1 0 4).toNat))) (N := 19) (T := T0) (j := 4) F hS (show 0 < 191 by decide) (show shK 0 = 4 from rfl) (show shN 0 = 19 from rfl) rfl (Nat.le_of_ble_eq_true rfl) ing0 mw_554 (fv_town hS) d_WF_war_12 ?_
    refine lv_iload_n F.hx F.hb d_WF_war_15 rfl (lv_at hl 2 rfl) ?_
    obtain ⟨q6, hq6⟩ : ∃ q, q = (t_Town_hasWard M ((M.1 0 4).toNat) x2) := ⟨_, rfl⟩
    replace hT := qlet_eq hT hq6
    refine r_backZ F hS (r_runV (k := ((M.1 0 4).toNat)) (N := 20) (T := T11) (As := [vI x2]) F hS (Town_lt h5) (Town_sh h5) rfl (c_Town_hasWard l F.2.2.1 M ((M.1 0 4).toNat) x2 h5 hx2 _ hq6.symm) gs_WF_198 hd_Town_hasWard ⟨Nat.le_of_ble_eq_true rfl, Nat.le_of_ble_eq_true rfl⟩ rfl hl.1 (Nat.le_of_ble_eq_true rfl) ⟨Nat.zero_le _, Nat.zero_le _⟩ rfl d_WF_war_16) (fun H locs hS h7 => ?_)
    refine r_if_eq (tgt := 27) F.hx F.hb (inr_z h7) d_WF_war_19 (by decide) (fun c8 => ?_) (fun c8 => ?_)
    · replace hT := (if_pos c8).symm.trans hT
      refine r_iconst F.hx F.hb d_WF_war_27 ?_
      cases hT
      exact r_iret F hlk hr rfl hS (inr_c rfl) d_WF_war_28
    · replace hT := (if_neg c8).symm.trans hT
      refine lv_iload_n F.hx F.hb d_WF_war_22 rfl (lv_at hl 1 rfl) ?_
      refine lv_iload_n F.hx F.hb d_WF_war_23 rfl (lv_at hl 2 rfl) ?_
      refine r_icmp_ne (tgt := 29) F.hx F.hb hx1 hx2 d_WF_war_24 (by decide) (fun c9 => ?_) (fun c9 => ?_)
      · replace hT := (if_neg c9).symm.trans hT
        refine r_iconst F.hx F.hb d_WF_war_29 ?_
        refine lv_istore_n (lv' := [(3, vI 0), (0, .ref (b + 0)), (1, vI x1), (2, vI x2)]) F.hx F.hb d_WF_war_30 rfl hl (Nat.le_of_ble_eq_true rfl) rfl (fun ls hl => ?_)
        refine r_iconst F.hx F.hb d_WF_war_31 ?_
        refine lv_istore (lv' := [(4, vI 0), (3, vI 0), (0, .ref (b + 0)), (1, vI x1), (2, vI x2)]) F.hx F.hb d_WF_war_32 hl (Nat.le_of_ble_eq_true rfl) rfl (fun ls hl => ?_)
        exact k_WF_war_L34 l hlo x1 x2 hx1 hx2 F hlk hr FU M 0 (inr_c rfl) 0 (inr_c rfl) _ _ _ hS (lv_sub hl [2, 3, 4, 1, 0] rfl) hT
      · replace hT := (if_pos c9).symm.trans hT
        refine r_iconst F.hx F.hb d_WF_war_27 ?_
        cases hT
        exact r_iret F hlk hr rfl hS (inr_c rfl) d_WF_war_28
theorem d_WF_nets_0 : decode b_WF_nets 0 = .ok (.lconst 0, 1) := dc_9 (by decide +kernel)
theorem d_WF_nets_1 : decode b_WF_nets 1 = .ok (.lstore_n 1, 1) := dc_64 (by decide +kernel)
theorem d_WF_nets_2 : decode b_WF_nets 2 = .ok (.iconst 0, 1) := dc_3 (by decide +kernel)
theorem d_WF_nets_3 : decode b_WF_nets 3 = .ok (.istore_n 3, 1) := dc_62 (by decide +kernel)
theorem d_WF_nets_4 : decode b_WF_nets 4 = .ok (.iload_n 3, 1) := dc_29 (by decide +kernel)
theorem d_WF_nets_5 : decode b_WF_nets 5 = .ok (.aload_n 0, 1) := dc_42 (by decide +kernel)
theorem d_WF_nets_6 : decode b_WF_nets 6 = .ok (.getfield 22, 3) := dc_180 (by decide +kernel)
theorem d_WF_nets_9 : decode b_WF_nets 9 = .ok (.getfield 330, 3) := dc_180 (by decide +kernel)
theorem d_WF_nets_12 : decode b_WF_nets 12 = .ok (.if_icmp .ge 66, 3) := dc_162 (by decide +kernel)
theorem d_WF_nets_15 : decode b_WF_nets 15 = .ok (.aload_n 0, 1) := dc_42 (by decide +kernel)
theorem d_WF_nets_16 : decode b_WF_nets 16 = .ok (.getfield 46, 3) := dc_180 (by decide +kernel)
theorem d_WF_nets_19 : decode b_WF_nets 19 = .ok (.getfield 165, 3) := dc_180 (by decide +kernel)
theorem d_WF_nets_22 : decode b_WF_nets 22 = .ok (.iload_n 3, 1) := dc_29 (by decide +kernel)
theorem d_WF_nets_23 : decode b_WF_nets 23 = .ok (.invokestatic 169, 3) := dc_184 (by decide +kernel)
theorem d_WF_nets_26 : decode b_WF_nets 26 = .ok (.iconst 1, 1) := dc_4 (by decide +kernel)
theorem d_WF_nets_27 : decode b_WF_nets 27 = .ok (.if_icmp .ne 7, 3) := dc_160 (by decide +kernel)
theorem d_WF_nets_30 : decode b_WF_nets 30 = .ok (.iconst (-1), 1) := dc_2 (by decide +kernel)
theorem d_WF_nets_31 : decode b_WF_nets 31 = .ok (.goto 15, 3) := dc_167 (by decide +kernel)
theorem d_WF_nets_34 : decode b_WF_nets 34 = .ok (.aload_n 0, 1) := dc_42 (by decide +kernel)
theorem d_WF_nets_35 : decode b_WF_nets 35 = .ok (.getfield 46, 3) := dc_180 (by decide +kernel)
theorem d_WF_nets_38 : decode b_WF_nets 38 = .ok (.aload_n 0, 1) := dc_42 (by decide +kernel)
theorem d_WF_nets_39 : decode b_WF_nets 39 = .ok (.getfield 22, 3) := dc_180 (by decide +kernel)
theorem d_WF_nets_42 : decode b_WF_nets 42 = .ok (.iload_n 3, 1) := dc_29 (by decide +kernel)
theorem d_WF_nets_43 : decode b_WF_nets 43 = .ok (.invokevirtual 186, 3) := dc_182 (by decide +kernel)
theorem d_WF_nets_46 : decode b_WF_nets 46 = .ok (.istore 4, 2) := dc_54 (by decide +kernel)
theorem d_WF_nets_48 : decode b_WF_nets 48 = .ok (.iload 4, 2) := dc_21 (by decide +kernel)
theorem d_WF_nets_50 : decode b_WF_nets 50 = .ok (.ifCond .lt 22, 3) := dc_155 (by decide +kernel)
theorem d_WF_nets_53 : decode b_WF_nets 53 = .ok (.aload_n 0, 1) := dc_42 (by decide +kernel)
theorem d_WF_nets_54 : decode b_WF_nets 54 = .ok (.getfield 22, 3) := dc_180 (by decide +kernel)
theorem d_WF_nets_57 : decode b_WF_nets 57 = .ok (.iload_n 3, 1) := dc_29 (by decide +kernel)
theorem d_WF_nets_58 : decode b_WF_nets 58 = .ok (.iload 4, 2) := dc_21 (by decide +kernel)
theorem d_WF_nets_60 : decode b_WF_nets 60 = .ok (.invokevirtual 337, 3) := dc_182 (by decide +kernel)
theorem d_WF_nets_63 : decode b_WF_nets 63 = .ok (.ifCond .eq 9, 3) := dc_153 (by decide +kernel)
theorem d_WF_nets_66 : decode b_WF_nets 66 = .ok (.lload_n 1, 1) := dc_31 (by decide +kernel)
theorem d_WF_nets_67 : decode b_WF_nets 67 = .ok (.lconst 1, 1) := dc_10 (by decide +kernel)
theorem d_WF_nets_68 : decode b_WF_nets 68 = .ok (.iload_n 3, 1) := dc_29 (by decide +kernel)
theorem d_WF_nets_69 : decode b_WF_nets 69 = .ok (.lshl, 1) := dc_121 (by decide +kernel)
theorem d_WF_nets_70 : decode b_WF_nets 70 = .ok (.lor, 1) := dc_129 (by decide +kernel)
theorem d_WF_nets_71 : decode b_WF_nets 71 = .ok (.lstore_n 1, 1) := dc_64 (by decide +kernel)
theorem d_WF_nets_72 : decode b_WF_nets 72 = .ok (.iinc 3 1, 3) := dc_132 (by decide +kernel)
theorem d_WF_nets_75 : decode b_WF_nets 75 = .ok (.goto (-71), 3) := dc_167 (by decide +kernel)
theorem d_WF_nets_78 : decode b_WF_nets 78 = .ok (.lload_n 1, 1) := dc_31 (by decide +kernel)
theorem d_WF_nets_79 : decode b_WF_nets 79 = .ok (.lreturn, 1) := dc_173 (by decide +kernel)
def t_WF_nets_L72  (bk4 : Mem → Int64 → Int → Option (Int64)) (M : Mem) (v1_ : Int64) (v2_ : Int) : Option (Int64) := (bk4 M v1_ (w32 (v2_ + 1)))
def t_WF_nets_L46  (bk4 : Mem → Int64 → Int → Option (Int64)) (M : Mem) (v1_ : Int64) (v2_ : Int) (v3_ : Int) : Option (Int64) := (if v3_ < 0 then (t_WF_nets_L72 bk4 M v1_ v2_) else (qlet (t_Town_isLine M ((M.1 0 4).toNat) v2_ v3_) fun q12 => (if q12 = 0 then (t_WF_nets_L72 bk4 M v1_ v2_) else (t_WF_nets_L72 bk4 M (v1_ ||| (q_lshl 1 v2_)) v2_))))
def t_WF_nets_L4   : Nat → Mem → Int64 → Int → Option (Int64)
  | 0, _, _, _ => none
  | fu + 1, M, v1_, v2_ => (if (M.1 ((M.1 0 4).toNat) 13) ≤ v2_ then (some v1_) else (qlet (t_WF_bitOf M (M.2 47 4) v2_) fun q4 => (if q4 = 1 then (t_WF_nets_L46 (fun a0_ a1_ a2_ => t_WF_nets_L4 fu a0_ a1_ a2_) M v1_ v2_ (-1)) else (qlet (t_Scene_nextOf M 47 ((M.1 0 4).toNat) v2_) fun q8 => (t_WF_nets_L46 (fun a0_ a1_ a2_ => t_WF_nets_L4 fu a0_ a1_ a2_) M v1_ v2_ q8)))))
def t_WF_nets (M : Mem)  : Option (Int64) := (t_WF_nets_L4 FU M 0 0)
set_option maxHeartbeats 4000000 in
set_option maxRecDepth 100000 in
theorem k_WF_nets_L72 (l : Launch) {p : Program} {e : Env} {s : State} {m : MethodId} {below : List Frame} {meth : Method} {c : Code} {b n : Nat} {C : CT} (hlo : 191 ≤ n)   (F : Cx b p m c b_WF_nets 5 s ([.ref (b + 0)] : List Value).toArray "WardFalls" C n 191) (hlk : meth.locks = false) (hr : meth.sig.returnType = some .long) {res : Int64} (bk4 : Mem → Int64 → Int → Option (Int64)) (hbk4 : ∀ (M : Mem) (v1_ : Int64) (v2_ : Int) (hv2_ : InR v2_) (H : Heap) (locs : List Loc) (ls : Array Slot), St b C n M s H locs → lv_has ls 5 [(0, .ref (b + 0)), (1, .long v1_), (3, vI v2_)] → bk4 M v1_ v2_ = some res → W p l e (headSpec (wsM y_WF_nets b_WF_nets 5 (some .long)) (rmD 3)).room s m ([.ref (b + 0)] : List Value).toArray below meth c H locs 0 0 (MQ below (QL b C n M res) ([.ref (b + 0)] : List Value).toArray s 0 0 (frb b)) (F0 m 4 ls [])) (M : Mem) (v1_ : Int64) (v2_ : Int) (hv2_ : InR v2_) (H : Heap) (locs : List Loc) (ls : Array Slot) (hS : St b C n M s H locs) (hl : lv_has ls 5 [(0, .ref (b + 0)), (1, .long v1_), (3, vI v2_)]) (hT : t_WF_nets_L72 bk4 M v1_ v2_ = some res) : W p l e (headSpec (wsM y_WF_nets b_WF_nets 5 (some .long)) (rmD 3)).room s m ([.ref (b + 0)] : List Value).toArray below meth c H locs 0 0 (MQ below (QL b C n M res) ([.ref (b + 0)] : List Value).toArray s 0 0 (frb b)) (F0 m 72 ls []) := by
  unfold t_WF_nets_L72 at hT
  refine lv_iinc (v := Int32.ofInt (w32 (v2_ + 1))) (lv' := [(3, vI (w32 (v2_ + 1))), (0, .ref (b + 0)), (1, .long v1_)]) F.hx F.hb d_WF_nets_72 hl (k := 2) rfl (q_of_add _ _) (Nat.le_of_ble_eq_true rfl) rfl (fun ls hl => ?_)
  refine lv_goto (tgt := 4) F.hx F.hb d_WF_nets_75 (by decide) ?_
  exact hbk4 M v1_ (w32 (v2_ + 1)) (inr_w32 _) _ _ _ hS (lv_sub hl [1, 2, 0] rfl) hT
set_option maxHeartbeats 4000000 in
set_option maxRecDepth 100000 in
theorem k_WF_nets_L46 (l : Launch) {p : Program} {e : Env} {s : State} {m : MethodId} {below : List Frame} {meth : Method} {c : Code} {b n : Nat} {C : CT} (hlo : 191 ≤ n)   (F : Cx b p m c b_WF_nets 5 s ([.ref (b + 0)] : List Value).toArray "WardFalls" C n 191) (hlk : meth.locks = false) (hr : meth.sig.returnType = some .long) {res : Int64} (bk4 : Mem → Int64 → Int → Option (Int64)) (hbk4 : ∀ (M : Mem) (v1_ : Int64) (v2_ : Int) (hv2_ : InR v2_) (H : Heap) (locs : List Loc) (ls : Array Slot), St b C n M s H locs → lv_has ls 5 [(0, .ref (b + 0)), (1, .long v1_), (3, vI v2_)] → bk4 M v1_ v2_ = some res → W p l e (headSpec (wsM y_WF_nets b_WF_nets 5 (some .long)) (rmD 3)).room s m ([.ref (b + 0)] : List Value).toArray below meth c H locs 0 0 (MQ below (QL b C n M res) ([.ref (b + 0)] : List Value).toArray s 0 0 (frb b)) (F0 m 4 ls [])) (M : Mem) (v1_ : Int64) (v2_ : Int) (hv2_ : InR v2_) (v3_ : Int) (hv3_ : InR v3_) (H : Heap) (locs : List Loc) (ls : Array Slot) (hS : St b C n M s H locs) (hl : lv_has ls 5 [(0, .ref (b + 0)), (1, .long v1_), (3, vI v2_)]) (hT : t_WF_nets_L46 bk4 M v1_ v2_ v3_ = some res) : W p l e (headSpec (wsM y_WF_nets b_WF_nets 5 (some .long)) (rmD 3)).room s m ([.ref (b + 0)] : List Value).toArray below meth c H locs 0 0 (MQ below (QL b C n M res) ([.ref (b + 0)] : List Value).toArray s 0 0 (frb b)) (F0 m 46 ls [vI v3_]) := by
  unfold t_WF_nets_L46 at hT
  refine lv_istore (lv' := [(4, vI v3_), (0, .ref (b + 0)), (1, .long v1_), (3, vI v2_)]) F.hx F.hb d_WF_nets_46 hl (Nat.le_of_ble_eq_true rfl) rfl (fun ls hl => ?_)
  refine lv_iload F.hx F.hb d_WF_nets_48 (lv_at hl 0 rfl) ?_
  refine r_if_lt (tgt := 72) F.hx F.hb hv3_ d_WF_nets_50 (by decide) (fun c10 => ?_) (fun c10 => ?_)
  · replace hT := (if_pos c10).symm.trans hT
    exact k_WF_nets_L72 l hlo F hlk hr bk4 hbk4 M v1_ v2_ hv2_ _ _ _ hS (lv_sub hl [1, 2, 3] rfl) hT
  · replace hT := (if_neg c10).symm.trans hT
    refine lv_aload_n F.hx F.hb d_WF_nets_53 rfl (lv_at hl 1 rfl) ?_
    have h11 := St_town hS
    refine r_get (v := .ref (b + ((M.1 0 4).toNat))) (N := 19) (T := T0) (j := 4) F hS (show 0 < 191 by decide) (show shK 0 = 4 from rfl) (show shN 0 = 19 from rfl) rfl (Nat.le_of_ble_eq_true rfl) ing0 mw_554 (fv_town hS) d_WF_nets_54 ?_
    refine lv_iload_n F.hx F.hb d_WF_nets_57 rfl (lv_at hl 3 rfl) ?_
    refine lv_iload F.hx F.hb d_WF_nets_58 (lv_at hl 0 rfl) ?_
    obtain ⟨q12, hq12⟩ : ∃ q, q = (t_Town_isLine M ((M.1 0 4).toNat) v2_ v3_) := ⟨_, rfl⟩
    replace hT := qlet_eq hT hq12
    refine r_backZ F hS (r_runV (k := ((M.1 0 4).toNat)) (N := 20) (T := T11) (As := [vI v2_, vI v3_]) F hS (Town_lt h11) (Town_sh h11) rfl (c_Town_isLine l F.2.2.1 M ((M.1 0 4).toNat) v2_ v3_ h11 hv2_ hv3_ _ hq12.symm) gs_WF_337 hd_Town_isLine ⟨Nat.le_of_ble_eq_true rfl, Nat.le_of_ble_eq_true rfl⟩ rfl hl.1 (Nat.le_of_ble_eq_true rfl) ⟨Nat.zero_le _, Nat.zero_le _⟩ rfl d_WF_nets_60) (fun H locs hS h13 => ?_)
    refine r_if_eq (tgt := 72) F.hx F.hb (inr_z h13) d_WF_nets_63 (by decide) (fun c14 => ?_) (fun c14 => ?_)
    · replace hT := (if_pos c14).symm.trans hT
      exact k_WF_nets_L72 l hlo F hlk hr bk4 hbk4 M v1_ v2_ hv2_ _ _ _ hS (lv_sub hl [1, 2, 3] rfl) hT
    · replace hT := (if_neg c14).symm.trans hT
      refine lv_lload_n F.hx F.hb d_WF_nets_66 rfl (lv_at hl 2 rfl) ?_
      refine lv_lconst (v := 1) F.hx F.hb d_WF_nets_67 rfl ?_
      refine lv_iload_n F.hx F.hb d_WF_nets_68 rfl (lv_at hl 3 rfl) ?_
      refine r_lshl F.hx F.hb d_WF_nets_69 ?_
      refine lv_lor F.hx F.hb d_WF_nets_70 ?_
      refine lv_lstore_n (lv' := [(1, .long (v1_ ||| (q_lshl 1 v2_))), (4, vI v3_), (0, .ref (b + 0)), (3, vI v2_)]) F.hx F.hb d_WF_nets_71 rfl hl (Nat.le_of_ble_eq_true rfl) rfl (fun ls hl => ?_)
      exact k_WF_nets_L72 l hlo F hlk hr bk4 hbk4 M (v1_ ||| (q_lshl 1 v2_)) v2_ hv2_ _ _ _ hS (lv_sub hl [2, 0, 3] rfl) hT
set_option maxHeartbeats 4000000 in
set_option maxRecDepth 100000 in
theorem k_WF_nets_L4 (l : Launch) {p : Program} {e : Env} {s : State} {m : MethodId} {below : List Frame} {meth : Method} {c : Code} {b n : Nat} {C : CT} (hlo : 191 ≤ n)   (F : Cx b p m c b_WF_nets 5 s ([.ref (b + 0)] : List Value).toArray "WardFalls" C n 191) (hlk : meth.locks = false) (hr : meth.sig.returnType = some .long) {res : Int64} : ∀ (fu : Nat) (M : Mem) (v1_ : Int64) (v2_ : Int) (hv2_ : InR v2_) (H : Heap) (locs : List Loc) (ls : Array Slot), St b C n M s H locs → lv_has ls 5 [(0, .ref (b + 0)), (1, .long v1_), (3, vI v2_)] → t_WF_nets_L4 fu M v1_ v2_ = some res → W p l e (headSpec (wsM y_WF_nets b_WF_nets 5 (some .long)) (rmD 3)).room s m ([.ref (b + 0)] : List Value).toArray below meth c H locs 0 0 (MQ below (QL b C n M res) ([.ref (b + 0)] : List Value).toArray s 0 0 (frb b)) (F0 m 4 ls []) := by
  intro fu
  induction fu with
  | zero => intro M v1_ v2_ hv2_ H locs ls hS hl hT; exact absurd hT (by simp [t_WF_nets_L4])
  | succ fu ih =>
    intro M v1_ v2_ hv2_ H locs ls hS hl hT
    rw [t_WF_nets_L4] at hT
    refine lv_iload_n F.hx F.hb d_WF_nets_4 rfl (lv_at hl 2 rfl) ?_
    refine lv_aload_n F.hx F.hb d_WF_nets_5 rfl (lv_at hl 0 rfl) ?_
    have h1 := St_town hS
    refine r_get (v := .ref (b + ((M.1 0 4).toNat))) (N := 19) (T := T0) (j := 4) F hS (show 0 < 191 by decide) (show shK 0 = 4 from rfl) (show shN 0 = 19 from rfl) rfl (Nat.le_of_ble_eq_true rfl) ing0 mw_554 (fv_town hS) d_WF_nets_6 ?_
    refine r_get (v := vI (M.1 ((M.1 0 4).toNat) 13)) (N := 20) (T := T11) (j := 13) F hS (Town_lt h1) (Town_sh h1) (Town_N h1) rfl (Nat.le_of_ble_eq_true rfl) ing11 mw_132 (fv_int rfl) d_WF_nets_9 ?_
    have i2 := hS.rng ((M.1 0 4).toNat) 13
    refine r_icmp_ge (tgt := 78) F.hx F.hb hv2_ i2 d_WF_nets_12 (by decide) (fun c3 => ?_) (fun c3 => ?_)
    · replace hT := (if_pos c3).symm.trans hT
      refine lv_lload_n F.hx F.hb d_WF_nets_78 rfl (lv_at hl 1 rfl) ?_
      cases hT
      exact r_lret F hlk hr hS d_WF_nets_79
    · replace hT := (if_neg c3).symm.trans hT
      refine lv_aload_n F.hx F.hb d_WF_nets_15 rfl (lv_at hl 0 rfl) ?_
      refine r_get (v := .ref (b + 47)) (N := 19) (T := T0) (j := 8) F hS (show 0 < 191 by decide) (show shK 0 = 4 from rfl) (show shN 0 = 19 from rfl) rfl (Nat.le_of_ble_eq_true rfl) ing0 mw_558 (fv_sg rfl rfl rfl) d_WF_nets_16 ?_
      refine r_get (v := .long (M.2 47 4)) (N := 7) (T := T9) (j := 4) F hS (show 47 < 191 by decide) (show shK 47 = 13 from rfl) (show shN 47 = 7 from rfl) rfl (Nat.le_of_ble_eq_true rfl) ing9 mw_287 (fv_long rfl) d_WF_nets_19 ?_
      refine lv_iload_n F.hx F.hb d_WF_nets_22 rfl (lv_at hl 2 rfl) ?_
      obtain ⟨q4, hq4⟩ : ∃ q, q = (t_WF_bitOf M (M.2 47 4) v2_) := ⟨_, rfl⟩
      replace hT := qlet_eq hT hq4
      refine r_backI F hS (r_runS (As := [.long (M.2 47 4), vI v2_]) F hS (c_WF_bitOf l F.2.2.1 M (M.2 47 4) v2_ hv2_ _ hq4.symm) gs_WF_169 hd_WF_bitOf ⟨Nat.le_of_ble_eq_true rfl, Nat.le_of_ble_eq_true rfl⟩ rfl hl.1 (Nat.le_of_ble_eq_true rfl) ⟨Nat.zero_le _, Nat.zero_le _⟩ rfl d_WF_nets_23) (fun H locs hS h5 => ?_)
      refine r_iconst F.hx F.hb d_WF_nets_26 ?_
      refine r_icmp_ne (tgt := 34) F.hx F.hb h5 (inr_c rfl) d_WF_nets_27 (by decide) (fun c6 => ?_) (fun c6 => ?_)
      · replace hT := (if_neg c6).symm.trans hT
        refine lv_aload_n F.hx F.hb d_WF_nets_34 rfl (lv_at hl 0 rfl) ?_
        refine r_get (v := .ref (b + 47)) (N := 19) (T := T0) (j := 8) F hS (show 0 < 191 by decide) (show shK 0 = 4 from rfl) (show shN 0 = 19 from rfl) rfl (Nat.le_of_ble_eq_true rfl) ing0 mw_558 (fv_sg rfl rfl rfl) d_WF_nets_35 ?_
        refine lv_aload_n F.hx F.hb d_WF_nets_38 rfl (lv_at hl 0 rfl) ?_
        have h7 := St_town hS
        refine r_get (v := .ref (b + ((M.1 0 4).toNat))) (N := 19) (T := T0) (j := 4) F hS (show 0 < 191 by decide) (show shK 0 = 4 from rfl) (show shN 0 = 19 from rfl) rfl (Nat.le_of_ble_eq_true rfl) ing0 mw_554 (fv_town hS) d_WF_nets_39 ?_
        refine lv_iload_n F.hx F.hb d_WF_nets_42 rfl (lv_at hl 2 rfl) ?_
        obtain ⟨q8, hq8⟩ : ∃ q, q = (t_Scene_nextOf M 47 ((M.1 0 4).toNat) v2_) := ⟨_, rfl⟩
        replace hT := qlet_eq hT hq8
        refine r_backI F hS (r_runV (k := 47) (N := 7) (T := T9) (As := [.ref (b + ((M.1 0 4).toNat)), vI v2_]) F hS (show 47 < 191 by decide) (show shK 47 = 13 from rfl) rfl (c_Scene_nextOf l F.2.2.1 M 47 ((M.1 0 4).toNat) v2_ (by decide : isScene 47) h7 hv2_ _ hq8.symm) gs_WF_186 hd_Scene_nextOf ⟨Nat.le_of_ble_eq_true rfl, Nat.le_of_ble_eq_true rfl⟩ rfl hl.1 (Nat.le_of_ble_eq_true rfl) ⟨Nat.zero_le _, Nat.zero_le _⟩ rfl d_WF_nets_43) (fun H locs hS h9 => ?_)
        exact k_WF_nets_L46 l hlo F hlk hr (fun a0_ a1_ a2_ => t_WF_nets_L4 fu a0_ a1_ a2_) ih M v1_ v2_ hv2_ q8 h9 _ _ _ hS (lv_sub hl [0, 1, 2] rfl) hT
      · replace hT := (if_pos c6).symm.trans hT
        refine r_iconst F.hx F.hb d_WF_nets_30 ?_
        refine lv_goto (tgt := 46) F.hx F.hb d_WF_nets_31 (by decide) ?_
        exact k_WF_nets_L46 l hlo F hlk hr (fun a0_ a1_ a2_ => t_WF_nets_L4 fu a0_ a1_ a2_) ih M v1_ v2_ hv2_ (-1) (inr_c rfl) _ _ _ hS (lv_sub hl [0, 1, 2] rfl) hT
set_option maxHeartbeats 4000000 in
set_option maxRecDepth 100000 in
theorem c_WF_nets (l : Launch) {b n : Nat} {C : CT} (hlo : 191 ≤ n) (M : Mem)   (res : Int64) (hT : t_WF_nets M  = some res) : CM l b C n 3 y_WF_nets b_WF_nets 5 (some .long) [.ref (b + 0)] M (QL b C n M res) := by
  refine CM.of (lo := 191) (ow := "WardFalls") (by decide) rfl (Nat.le_of_ble_eq_true rfl) hlo (fun p e s m below meth c F hlk hr hS ls hl => ?_)
  have hl : lv_has ls 5 [(0, .ref (b + 0))] := hl
  unfold t_WF_nets at hT
  refine lv_lconst (v := 0) F.hx F.hb d_WF_nets_0 rfl ?_
  refine lv_lstore_n (lv' := [(1, .long 0), (0, .ref (b + 0))]) F.hx F.hb d_WF_nets_1 rfl hl (Nat.le_of_ble_eq_true rfl) rfl (fun ls hl => ?_)
  refine r_iconst F.hx F.hb d_WF_nets_2 ?_
  refine lv_istore_n (lv' := [(3, vI 0), (1, .long 0), (0, .ref (b + 0))]) F.hx F.hb d_WF_nets_3 rfl hl (Nat.le_of_ble_eq_true rfl) rfl (fun ls hl => ?_)
  exact k_WF_nets_L4 l hlo F hlk hr FU M 0 0 (inr_c rfl) _ _ _ hS (lv_sub hl [2, 1, 0] rfl) hT
theorem d_Trail_tryClock_0 : decode b_Trail_tryClock 0 = .ok (.iconst 0, 1) := dc_3 (by decide +kernel)
theorem d_Trail_tryClock_1 : decode b_Trail_tryClock 1 = .ok (.istore 5, 2) := dc_54 (by decide +kernel)
theorem d_Trail_tryClock_3 : decode b_Trail_tryClock 3 = .ok (.iload 5, 2) := dc_21 (by decide +kernel)
theorem d_Trail_tryClock_5 : decode b_Trail_tryClock 5 = .ok (.aload_n 1, 1) := dc_43 (by decide +kernel)
theorem d_Trail_tryClock_6 : decode b_Trail_tryClock 6 = .ok (.getfield 82, 3) := dc_180 (by decide +kernel)
theorem d_Trail_tryClock_9 : decode b_Trail_tryClock 9 = .ok (.if_icmp .ge 72, 3) := dc_162 (by decide +kernel)
theorem d_Trail_tryClock_12 : decode b_Trail_tryClock 12 = .ok (.aload_n 2, 1) := dc_44 (by decide +kernel)
theorem d_Trail_tryClock_13 : decode b_Trail_tryClock 13 = .ok (.getfield 84, 3) := dc_180 (by decide +kernel)
theorem d_Trail_tryClock_16 : decode b_Trail_tryClock 16 = .ok (.iload 5, 2) := dc_21 (by decide +kernel)
theorem d_Trail_tryClock_18 : decode b_Trail_tryClock 18 = .ok (.invokestatic 44, 3) := dc_184 (by decide +kernel)
theorem d_Trail_tryClock_21 : decode b_Trail_tryClock 21 = .ok (.ifCond .ne 54, 3) := dc_154 (by decide +kernel)
theorem d_Trail_tryClock_24 : decode b_Trail_tryClock 24 = .ok (.aload_n 0, 1) := dc_42 (by decide +kernel)
theorem d_Trail_tryClock_25 : decode b_Trail_tryClock 25 = .ok (.aload_n 1, 1) := dc_43 (by decide +kernel)
theorem d_Trail_tryClock_26 : decode b_Trail_tryClock 26 = .ok (.aload_n 2, 1) := dc_44 (by decide +kernel)
theorem d_Trail_tryClock_27 : decode b_Trail_tryClock 27 = .ok (.iload 5, 2) := dc_21 (by decide +kernel)
theorem d_Trail_tryClock_29 : decode b_Trail_tryClock 29 = .ok (.invokevirtual 88, 3) := dc_182 (by decide +kernel)
theorem d_Trail_tryClock_32 : decode b_Trail_tryClock 32 = .ok (.aload_n 0, 1) := dc_42 (by decide +kernel)
theorem d_Trail_tryClock_33 : decode b_Trail_tryClock 33 = .ok (.getfield 29, 3) := dc_180 (by decide +kernel)
theorem d_Trail_tryClock_36 : decode b_Trail_tryClock 36 = .ok (.ifCond .ne 39, 3) := dc_154 (by decide +kernel)
theorem d_Trail_tryClock_39 : decode b_Trail_tryClock 39 = .ok (.aload_n 0, 1) := dc_42 (by decide +kernel)
theorem d_Trail_tryClock_40 : decode b_Trail_tryClock 40 = .ok (.getfield 19, 3) := dc_180 (by decide +kernel)
theorem d_Trail_tryClock_43 : decode b_Trail_tryClock 43 = .ok (.aload_n 0, 1) := dc_42 (by decide +kernel)
theorem d_Trail_tryClock_44 : decode b_Trail_tryClock 44 = .ok (.getfield 60, 3) := dc_180 (by decide +kernel)
theorem d_Trail_tryClock_47 : decode b_Trail_tryClock 47 = .ok (.if_icmp .le 28, 3) := dc_164 (by decide +kernel)
theorem d_Trail_tryClock_50 : decode b_Trail_tryClock 50 = .ok (.aload_n 0, 1) := dc_42 (by decide +kernel)
theorem d_Trail_tryClock_51 : decode b_Trail_tryClock 51 = .ok (.aload_n 0, 1) := dc_42 (by decide +kernel)
theorem d_Trail_tryClock_52 : decode b_Trail_tryClock 52 = .ok (.getfield 19, 3) := dc_180 (by decide +kernel)
theorem d_Trail_tryClock_55 : decode b_Trail_tryClock 55 = .ok (.putfield 60, 3) := dc_181 (by decide +kernel)
theorem d_Trail_tryClock_58 : decode b_Trail_tryClock 58 = .ok (.aload_n 0, 1) := dc_42 (by decide +kernel)
theorem d_Trail_tryClock_59 : decode b_Trail_tryClock 59 = .ok (.iload_n 3, 1) := dc_29 (by decide +kernel)
theorem d_Trail_tryClock_60 : decode b_Trail_tryClock 60 = .ok (.putfield 63, 3) := dc_181 (by decide +kernel)
theorem d_Trail_tryClock_63 : decode b_Trail_tryClock 63 = .ok (.aload_n 0, 1) := dc_42 (by decide +kernel)
theorem d_Trail_tryClock_64 : decode b_Trail_tryClock 64 = .ok (.iload 4, 2) := dc_21 (by decide +kernel)
theorem d_Trail_tryClock_66 : decode b_Trail_tryClock 66 = .ok (.putfield 66, 3) := dc_181 (by decide +kernel)
theorem d_Trail_tryClock_69 : decode b_Trail_tryClock 69 = .ok (.aload_n 0, 1) := dc_42 (by decide +kernel)
theorem d_Trail_tryClock_70 : decode b_Trail_tryClock 70 = .ok (.iload 5, 2) := dc_21 (by decide +kernel)
theorem d_Trail_tryClock_72 : decode b_Trail_tryClock 72 = .ok (.putfield 69, 3) := dc_181 (by decide +kernel)
theorem d_Trail_tryClock_75 : decode b_Trail_tryClock 75 = .ok (.iinc 5 1, 3) := dc_132 (by decide +kernel)
theorem d_Trail_tryClock_78 : decode b_Trail_tryClock 78 = .ok (.goto (-75), 3) := dc_167 (by decide +kernel)
theorem d_Trail_tryClock_81 : decode b_Trail_tryClock 81 = .ok (.return_, 1) := dc_177 (by decide +kernel)
def t_Trail_tryClock_L75 (k0 : Nat) (k1 : Nat) (k2 : Nat) (x3 : Int) (x4 : Int) (bk3 : Mem → Int → Option (Mem)) (M : Mem) (v5_ : Int) : Option (Mem) := (bk3 M (w32 (v5_ + 1)))
def t_Trail_tryClock_L3 (k0 : Nat) (k1 : Nat) (k2 : Nat) (x3 : Int) (x4 : Int)  : Nat → Mem → Int → Option (Mem)
  | 0, _, _ => none
  | fu + 1, M, v5_ => (if (M.1 k1 13) ≤ v5_ then (some M) else (qlet (t_WF_bitOf M (M.2 k2 4) v5_) fun q3 => (if q3 = 0 then (obind (t_Trail_follow M k0 k1 k2 v5_) fun q6 => (if (q6.1 k0 2) = 0 then (if (q6.1 k0 3) ≤ (q6.1 k0 5) then (t_Trail_tryClock_L75 k0 k1 k2 x3 x4 (fun a0_ a1_ => t_Trail_tryClock_L3 k0 k1 k2 x3 x4 fu a0_ a1_) q6 v5_) else (qlet (setI q6 k0 5 (q6.1 k0 3)) fun M14 => (qlet (setI M14 k0 6 x3) fun M15 => (qlet (setI M15 k0 7 x4) fun M16 => (qlet (setI M16 k0 8 v5_) fun M17 => (t_Trail_tryClock_L75 k0 k1 k2 x3 x4 (fun a0_ a1_ => t_Trail_tryClock_L3 k0 k1 k2 x3 x4 fu a0_ a1_) M17 v5_)))))) else (t_Trail_tryClock_L75 k0 k1 k2 x3 x4 (fun a0_ a1_ => t_Trail_tryClock_L3 k0 k1 k2 x3 x4 fu a0_ a1_) q6 v5_))) else (t_Trail_tryClock_L75 k0 k1 k2 x3 x4 (fun a0_ a1_ => t_Trail_tryClock_L3 k0 k1 k2 x3 x4 fu a0_ a1_) M v5_))))
def t_Trail_tryClock (M : Mem) (k0 : Nat) (k1 : Nat) (k2 : Nat) (x3 : Int) (x4 : Int) : Option (Mem) := (t_Trail_tryClock_L3 k0 k1 k2 x3 x4 FU M 0)
set_option maxHeartbeats 4000000 in
set_option maxRecDepth 100000 in
theorem k_Trail_tryClock_L75 (l : Launch) {p : Program} {e : Env} {s : State} {m : MethodId} {below : List Frame} {meth : Method} {c : Code} {b n : Nat} {C : CT} (hlo : 191 ≤ n) (k0 : Nat) (k1 : Nat) (k2 : Nat) (x3 : Int) (x4 : Int) (hk0 : isTrail k0) (hk1 : isTown k1) (hk2 : isScene k2) (hx3 : InR x3) (hx4 : InR x4) (F : Cx b p m c b_Trail_tryClock 6 s ([.ref (b + k0), .ref (b + k1), .ref (b + k2), vI x3, vI x4] : List Value).toArray "WardFalls$Trail" C n 191) (hlk : meth.locks = false) (hr : meth.sig.returnType = none) {res : Mem} (bk3 : Mem → Int → Option (Mem)) (hbk3 : ∀ (M : Mem) (v5_ : Int) (hv5_ : InR v5_) (H : Heap) (locs : List Loc) (ls : Array Slot), St b C n M s H locs → lv_has ls 6 [(0, .ref (b + k0)), (1, .ref (b + k1)), (2, .ref (b + k2)), (3, vI x3), (4, vI x4), (5, vI v5_)] → bk3 M v5_ = some res → W p l e (headSpec (wsM y_Trail_tryClock b_Trail_tryClock 6 (none)) (rmD 4)).room s m ([.ref (b + k0), .ref (b + k1), .ref (b + k2), vI x3, vI x4] : List Value).toArray below meth c H locs 0 0 (MQ below (QV b C n res) ([.ref (b + k0), .ref (b + k1), .ref (b + k2), vI x3, vI x4] : List Value).toArray s 0 0 (frb b)) (F0 m 3 ls [])) (M : Mem) (v5_ : Int) (hv5_ : InR v5_) (H : Heap) (locs : List Loc) (ls : Array Slot) (hS : St b C n M s H locs) (hl : lv_has ls 6 [(0, .ref (b + k0)), (1, .ref (b + k1)), (2, .ref (b + k2)), (3, vI x3), (4, vI x4), (5, vI v5_)]) (hT : t_Trail_tryClock_L75 k0 k1 k2 x3 x4 bk3 M v5_ = some res) : W p l e (headSpec (wsM y_Trail_tryClock b_Trail_tryClock 6 (none)) (rmD 4)).room s m ([.ref (b + k0), .ref (b + k1), .ref (b + k2), vI x3, vI x4] : List Value).toArray below meth c H locs 0 0 (MQ below (QV b C n res) ([.ref (b + k0), .ref (b + k1), .ref (b + k2), vI x3, vI x4] : List Value).toArray s 0 0 (frb b)) (F0 m 75 ls []) := by
  unfold t_Trail_tryClock_L75 at hT
  refine lv_iinc (v := Int32.ofInt (w32 (v5_ + 1))) (lv' := [(5, vI (w32 (v5_ + 1))), (0, .ref (b + k0)), (1, .ref (b + k1)), (2, .ref (b + k2)), (3, vI x3), (4, vI x4)]) F.hx F.hb d_Trail_tryClock_75 hl (k := 5) rfl (q_of_add _ _) (Nat.le_of_ble_eq_true rfl) rfl (fun ls hl => ?_)
  refine lv_goto (tgt := 3) F.hx F.hb d_Trail_tryClock_78 (by decide) ?_
  exact hbk3 M (w32 (v5_ + 1)) (inr_w32 _) _ _ _ hS (lv_sub hl [1, 2, 3, 4, 5, 0] rfl) hT
set_option maxHeartbeats 4000000 in
set_option maxRecDepth 100000 in
theorem k_Trail_tryClock_L3 (l : Launch) {p : Program} {e : Env} {s : State} {m : MethodId} {below : List Frame} {meth : Method} {c : Code} {b n : Nat} {C : CT} (hlo : 191 ≤ n) (k0 : Nat) (k1 : Nat) (k2 : Nat) (x3 : Int) (x4 : Int) (hk0 : isTrail k0) (hk1 : isTown k1) (hk2 : isScene k2) (hx3 : InR x3) (hx4 : InR x4) (F : Cx b p m c b_Trail_tryClock 6 s ([.ref (b + k0), .ref (b + k1), .ref (b + k2), vI x3, vI x4] : List Value).toArray "WardFalls$Trail" C n 191) (hlk : meth.locks = false) (hr : meth.sig.returnType = none) {res : Mem} : ∀ (fu : Nat) (M : Mem) (v5_ : Int) (hv5_ : InR v5_) (H : Heap) (locs : List Loc) (ls : Array Slot), St b C n M s H locs → lv_has ls 6 [(0, .ref (b + k0)), (1, .ref (b + k1)), (2, .ref (b + k2)), (3, vI x3), (4, vI x4), (5, vI v5_)] → t_Trail_tryClock_L3 k0 k1 k2 x3 x4 fu M v5_ = some res → W p l e (headSpec (wsM y_Trail_tryClock b_Trail_tryClock 6 (none)) (rmD 4)).room s m ([.ref (b + k0), .ref (b + k1), .ref (b + k2), vI x3, vI x4] : List Value).toArray below meth c H locs 0 0 (MQ below (QV b C n res) ([.ref (b + k0), .ref (b + k1), .ref (b + k2), vI x3, vI x4] : List Value).toArray s 0 0 (frb b)) (F0 m 3 ls []) := by
  intro fu
  induction fu with
  | zero => intro M v5_ hv5_ H locs ls hS hl hT; exact absurd hT (by simp [t_Trail_tryClock_L3])
  | succ fu ih =>
    intro M v5_ hv5_ H locs ls hS hl hT
    rw [t_Trail_tryClock_L3] at hT
    refine lv_iload F.hx F.hb d_Trail_tryClock_3 (lv_at hl 5 rfl) ?_
    refine lv_aload_n F.hx F.hb d_Trail_tryClock_5 rfl (lv_at hl 1 rfl) ?_
    refine r_get (v := vI (M.1 k1 13)) (N := 20) (T := T11) (j := 13) F hS (Town_lt hk1) (Town_sh hk1) (Town_N hk1) rfl (Nat.le_of_ble_eq_true rfl) ing11 mw_130 (fv_int rfl) d_Trail_tryClock_6 ?_
    have i1 := hS.rng k1 13
    refine r_icmp_ge (tgt := 81) F.hx F.hb hv5_ i1 d_Trail_tryClock_9 (by decide) (fun c2 => ?_) (fun c2 => ?_)
    · replace hT := (if_pos c2).symm.trans hT
      cases hT
      exact r_vret F hlk hr hS d_Trail_tryClock_81
    · replace hT := (if_neg c2).symm.trans hT
      refine lv_aload_n F.hx F.hb d_Trail_tryClock_12 rfl (lv_at hl 2 rfl) ?_
      refine r_get (v := .long (M.2 k2 4)) (N := 7) (T := T9) (j := 4) F hS (Scene_lt hk2) (Scene_sh hk2) (Scene_N hk2) rfl (Nat.le_of_ble_eq_true rfl) ing9 mw_288 (fv_long rfl) d_Trail_tryClock_13 ?_
      refine lv_iload F.hx F.hb d_Trail_tryClock_16 (lv_at hl 5 rfl) ?_
      obtain ⟨q3, hq3⟩ : ∃ q, q = (t_WF_bitOf M (M.2 k2 4) v5_) := ⟨_, rfl⟩
      replace hT := qlet_eq hT hq3
      refine r_backI F hS (r_runSN (As := [.long (M.2 k2 4), vI v5_]) F hS (c_WF_bitOf l F.2.2.1 M (M.2 k2 4) v5_ hv5_ _ hq3.symm) mw_773 mw_772 mw_1 gs_Trail_44 hd_WF_bitOf ⟨Nat.le_of_ble_eq_true rfl, Nat.le_of_ble_eq_true rfl⟩ rfl hl.1 (Nat.le_of_ble_eq_true rfl) ⟨Nat.zero_le _, Nat.zero_le _⟩ rfl d_Trail_tryClock_18) (fun H locs hS h4 => ?_)
      refine r_if_ne (tgt := 75) F.hx F.hb h4 d_Trail_tryClock_21 (by decide) (fun c5 => ?_) (fun c5 => ?_)
      · replace hT := (if_neg c5).symm.trans hT
        exact k_Trail_tryClock_L75 l hlo k0 k1 k2 x3 x4 hk0 hk1 hk2 hx3 hx4 F hlk hr (fun a0_ a1_ => t_Trail_tryClock_L3 k0 k1 k2 x3 x4 fu a0_ a1_) ih M v5_ hv5_ _ _ _ hS (lv_sub hl [0, 1, 2, 3, 4, 5] rfl) hT
      · replace hT := (if_pos c5).symm.trans hT
        refine lv_aload_n F.hx F.hb d_Trail_tryClock_24 rfl (lv_at hl 0 rfl) ?_
        refine lv_aload_n F.hx F.hb d_Trail_tryClock_25 rfl (lv_at hl 1 rfl) ?_
        refine lv_aload_n F.hx F.hb d_Trail_tryClock_26 rfl (lv_at hl 2 rfl) ?_
        refine lv_iload F.hx F.hb d_Trail_tryClock_27 (lv_at hl 5 rfl) ?_
        obtain ⟨q6, hq6, hT⟩ := q_obind hT
        refine r_backV F hS (r_runV (k := k0) (N := 9) (T := T12) (As := [.ref (b + k1), .ref (b + k2), vI v5_]) F hS (Trail_lt hk0) (Trail_sh hk0) rfl (c_Trail_follow l F.2.2.1 M k0 k1 k2 v5_ hk0 hk1 hk2 hv5_ _ hq6) gs_Trail_88 hd_Trail_follow ⟨Nat.le_of_ble_eq_true rfl, Nat.le_of_ble_eq_true rfl⟩ rfl hl.1 (Nat.le_of_ble_eq_true rfl) ⟨Nat.zero_le _, Nat.zero_le _⟩ rfl d_Trail_tryClock_29) (fun H locs hS => ?_)
        refine lv_aload_n F.hx F.hb d_Trail_tryClock_32 rfl (lv_at hl 0 rfl) ?_
        refine r_get (v := vI (q6.1 k0 2)) (N := 9) (T := T12) (j := 2) F hS (Trail_lt hk0) (Trail_sh hk0) (Trail_N hk0) rfl (Nat.le_of_ble_eq_true rfl) ing12 mw_404 (fv_int rfl) d_Trail_tryClock_33 ?_
        have i8 := hS.rng k0 2
        refine r_if_ne (tgt := 75) F.hx F.hb i8 d_Trail_tryClock_36 (by decide) (fun c9 => ?_) (fun c9 => ?_)
        · replace hT := (if_neg c9).symm.trans hT
          exact k_Trail_tryClock_L75 l hlo k0 k1 k2 x3 x4 hk0 hk1 hk2 hx3 hx4 F hlk hr (fun a0_ a1_ => t_Trail_tryClock_L3 k0 k1 k2 x3 x4 fu a0_ a1_) ih q6 v5_ hv5_ _ _ _ hS (lv_sub hl [0, 1, 2, 3, 4, 5] rfl) hT
        · replace hT := (if_pos c9).symm.trans hT
          refine lv_aload_n F.hx F.hb d_Trail_tryClock_39 rfl (lv_at hl 0 rfl) ?_
          refine r_get (v := vI (q6.1 k0 3)) (N := 9) (T := T12) (j := 3) F hS (Trail_lt hk0) (Trail_sh hk0) (Trail_N hk0) rfl (Nat.le_of_ble_eq_true rfl) ing12 mw_406 (fv_int rfl) d_Trail_tryClock_40 ?_
          have i10 := hS.rng k0 3
          refine lv_aload_n F.hx F.hb d_Trail_tryClock_43 rfl (lv_at hl 0 rfl) ?_
          refine r_get (v := vI (q6.1 k0 5)) (N := 9) (T := T12) (j := 5) F hS (Trail_lt hk0) (Trail_sh hk0) (Trail_N hk0) rfl (Nat.le_of_ble_eq_true rfl) ing12 mw_411 (fv_int rfl) d_Trail_tryClock_44 ?_
          have i11 := hS.rng k0 5
          refine r_icmp_le (tgt := 75) F.hx F.hb i10 i11 d_Trail_tryClock_47 (by decide) (fun c12 => ?_) (fun c12 => ?_)
          · replace hT := (if_pos c12).symm.trans hT
            exact k_Trail_tryClock_L75 l hlo k0 k1 k2 x3 x4 hk0 hk1 hk2 hx3 hx4 F hlk hr (fun a0_ a1_ => t_Trail_tryClock_L3 k0 k1 k2 x3 x4 fu a0_ a1_) ih q6 v5_ hv5_ _ _ _ hS (lv_sub hl [0, 1, 2, 3, 4, 5] rfl) hT
          · replace hT := (if_neg c12).symm.trans hT
            refine lv_aload_n F.hx F.hb d_Trail_tryClock_50 rfl (lv_at hl 0 rfl) ?_
            refine lv_aload_n F.hx F.hb d_Trail_tryClock_51 rfl (lv_at hl 0 rfl) ?_
            refine r_get (v := vI (q6.1 k0 3)) (N := 9) (T := T12) (j := 3) F hS (Trail_lt hk0) (Trail_sh hk0) (Trail_N hk0) rfl (Nat.le_of_ble_eq_true rfl) ing12 mw_406 (fv_int rfl) d_Trail_tryClock_52 ?_
            have i13 := hS.rng k0 3
            refine r_putI (N := 9) (T := T12) (j := 5) F hS (Trail_lt hk0) (Trail_sh hk0) (Trail_N hk0) rfl (Nat.le_of_ble_eq_true rfl) ing12 tyok12 nm12 rfl rfl rfl rfl rfl (Trail_dyn hk0 _) mw_411 i13 d_Trail_tryClock_55 (fun H locs hS => ?_)
            obtain ⟨M14, eM14⟩ : ∃ q, q = (setI q6 k0 5 (q6.1 k0 3)) := ⟨_, rfl⟩
            replace hS : St b C n M14 s H locs := by rw [eM14]; exact hS
            replace hT := qlet_eq hT eM14
            refine lv_aload_n F.hx F.hb d_Trail_tryClock_58 rfl (lv_at hl 0 rfl) ?_
            refine lv_iload_n F.hx F.hb d_Trail_tryClock_59 rfl (lv_at hl 3 rfl) ?_
            refine r_putI (N := 9) (T := T12) (j := 6) F hS (Trail_lt hk0) (Trail_sh hk0) (Trail_N hk0) rfl (Nat.le_of_ble_eq_true rfl) ing12 tyok12 nm12 rfl rfl rfl rfl rfl (Trail_dyn hk0 _) mw_413 hx3 d_Trail_tryClock_60 (fun H locs hS => ?_)
            obtain ⟨M15, eM15⟩ : ∃ q, q = (setI M14 k0 6 x3) := ⟨_, rfl⟩
            replace hS : St b C n M15 s H locs := by rw [eM15]; exact hS
            replace hT := qlet_eq hT eM15
            refine lv_aload_n F.hx F.hb d_Trail_tryClock_63 rfl (lv_at hl 0 rfl) ?_
            refine lv_iload F.hx F.hb d_Trail_tryClock_64 (lv_at hl 4 rfl) ?_
            refine r_putI (N := 9) (T := T12) (j := 7) F hS (Trail_lt hk0) (Trail_sh hk0) (Trail_N hk0) rfl (Nat.le_of_ble_eq_true rfl) ing12 tyok12 nm12 rfl rfl rfl rfl rfl (Trail_dyn hk0 _) mw_415 hx4 d_Trail_tryClock_66 (fun H locs hS => ?_)
            obtain ⟨M16, eM16⟩ : ∃ q, q = (setI M15 k0 7 x4) := ⟨_, rfl⟩
            replace hS : St b C n M16 s H locs := by rw [eM16]; exact hS
            replace hT := qlet_eq hT eM16
            refine lv_aload_n F.hx F.hb d_Trail_tryClock_69 rfl (lv_at hl 0 rfl) ?_
            refine lv_iload F.hx F.hb d_Trail_tryClock_70 (lv_at hl 5 rfl) ?_
            refine r_putI (N := 9) (T := T12) (j := 8) F hS (Trail_lt hk0) (Trail_sh hk0) (Trail_N hk0) rfl (Nat.le_of_ble_eq_true rfl) ing12 tyok12 nm12 rfl rfl rfl rfl rfl (Trail_dyn hk0 _) mw_417 hv5_ d_Trail_tryClock_72 (fun H locs hS => ?_)
            obtain ⟨M17, eM17⟩ : ∃ q, q = (setI M16 k0 8 v5_) := ⟨_, rfl⟩
            replace hS : St b C n M17 s H locs := by rw [eM17]; exact hS
            replace hT := qlet_eq hT eM17
            exact k_Trail_tryClock_L75 l hlo k0 k1 k2 x3 x4 hk0 hk1 hk2 hx3 hx4 F hlk hr (fun a0_ a1_ => t_Trail_tryClock_L3 k0 k1 k2 x3 x4 fu a0_ a1_) ih M17 v5_ hv5_ _ _ _ hS (lv_sub hl [0, 1, 2, 3, 4, 5] rfl) hT
set_option maxHeartbeats 4000000 in
set_option maxRecDepth 100000 in
theorem c_Trail_tryClock (l : Launch) {b n : Nat} {C : CT} (hlo : 191 ≤ n) (M : Mem) (k0 : Nat) (k1 : Nat) (k2 : Nat) (x3 : Int) (x4 : Int) (hk0 : isTrail k0) (hk1 : isTown k1) (hk2 : isScene k2) (hx3 : InR x3) (hx4 : InR x4) (res : Mem) (hT : t_Trail_tryClock M k0 k1 k2 x3 x4 = some res) : CM l b C n 4 y_Trail_tryClock b_Trail_tryClock 6 (none) [.ref (b + k0), .ref (b + k1), .ref (b + k2), vI x3, vI x4] M (QV b C n res) := by
  refine CM.of (lo := 191) (ow := "WardFalls$Trail") (by decide) rfl (Nat.le_of_ble_eq_true rfl) hlo (fun p e s m below meth c F hlk hr hS ls hl => ?_)
  have hl : lv_has ls 6 [(0, .ref (b + k0)), (1, .ref (b + k1)), (2, .ref (b + k2)), (3, vI x3), (4, vI x4)] := hl
  unfold t_Trail_tryClock at hT
  refine r_iconst F.hx F.hb d_Trail_tryClock_0 ?_
  refine lv_istore (lv' := [(5, vI 0), (0, .ref (b + k0)), (1, .ref (b + k1)), (2, .ref (b + k2)), (3, vI x3), (4, vI x4)]) F.hx F.hb d_Trail_tryClock_1 hl (Nat.le_of_ble_eq_true rfl) rfl (fun ls hl => ?_)
  exact k_Trail_tryClock_L3 l hlo k0 k1 k2 x3 x4 hk0 hk1 hk2 hx3 hx4 F hlk hr FU M 0 (inr_c rfl) _ _ _ hS (lv_sub hl [1, 2, 3, 4, 5, 0] rfl) hT
theorem d_Trail_findClock_0 : decode b_Trail_findClock 0 = .ok (.aload_n 0, 1) := dc_42 (by decide +kernel)
theorem d_Trail_findClock_1 : decode b_Trail_findClock 1 = .ok (.iconst 0, 1) := dc_3 (by decide +kernel)
theorem d_Trail_findClock_2 : decode b_Trail_findClock 2 = .ok (.putfield 60, 3) := dc_181 (by decide +kernel)
theorem d_Trail_findClock_5 : decode b_Trail_findClock 5 = .ok (.aload_n 0, 1) := dc_42 (by decide +kernel)
theorem d_Trail_findClock_6 : decode b_Trail_findClock 6 = .ok (.iconst (-1), 1) := dc_2 (by decide +kernel)
theorem d_Trail_findClock_7 : decode b_Trail_findClock 7 = .ok (.putfield 63, 3) := dc_181 (by decide +kernel)
theorem d_Trail_findClock_10 : decode b_Trail_findClock 10 = .ok (.aload_n 0, 1) := dc_42 (by decide +kernel)
theorem d_Trail_findClock_11 : decode b_Trail_findClock 11 = .ok (.iconst (-1), 1) := dc_2 (by decide +kernel)
theorem d_Trail_findClock_12 : decode b_Trail_findClock 12 = .ok (.putfield 66, 3) := dc_181 (by decide +kernel)
theorem d_Trail_findClock_15 : decode b_Trail_findClock 15 = .ok (.aload_n 0, 1) := dc_42 (by decide +kernel)
theorem d_Trail_findClock_16 : decode b_Trail_findClock 16 = .ok (.iconst (-1), 1) := dc_2 (by decide +kernel)
theorem d_Trail_findClock_17 : decode b_Trail_findClock 17 = .ok (.putfield 69, 3) := dc_181 (by decide +kernel)
theorem d_Trail_findClock_20 : decode b_Trail_findClock 20 = .ok (.aload_n 0, 1) := dc_42 (by decide +kernel)
theorem d_Trail_findClock_21 : decode b_Trail_findClock 21 = .ok (.aload_n 1, 1) := dc_43 (by decide +kernel)
theorem d_Trail_findClock_22 : decode b_Trail_findClock 22 = .ok (.aload_n 2, 1) := dc_44 (by decide +kernel)
theorem d_Trail_findClock_23 : decode b_Trail_findClock 23 = .ok (.iconst (-1), 1) := dc_2 (by decide +kernel)
theorem d_Trail_findClock_24 : decode b_Trail_findClock 24 = .ok (.iconst (-1), 1) := dc_2 (by decide +kernel)
theorem d_Trail_findClock_25 : decode b_Trail_findClock 25 = .ok (.invokevirtual 72, 3) := dc_182 (by decide +kernel)
theorem d_Trail_findClock_28 : decode b_Trail_findClock 28 = .ok (.iconst 0, 1) := dc_3 (by decide +kernel)
theorem d_Trail_findClock_29 : decode b_Trail_findClock 29 = .ok (.istore_n 3, 1) := dc_62 (by decide +kernel)
theorem d_Trail_findClock_30 : decode b_Trail_findClock 30 = .ok (.iload_n 3, 1) := dc_29 (by decide +kernel)
theorem d_Trail_findClock_31 : decode b_Trail_findClock 31 = .ok (.aload_n 1, 1) := dc_43 (by decide +kernel)
theorem d_Trail_findClock_32 : decode b_Trail_findClock 32 = .ok (.getfield 76, 3) := dc_180 (by decide +kernel)
theorem d_Trail_findClock_35 : decode b_Trail_findClock 35 = .ok (.if_icmp .ge 63, 3) := dc_162 (by decide +kernel)
theorem d_Trail_findClock_38 : decode b_Trail_findClock 38 = .ok (.aload_n 2, 1) := dc_44 (by decide +kernel)
theorem d_Trail_findClock_39 : decode b_Trail_findClock 39 = .ok (.getfield 79, 3) := dc_180 (by decide +kernel)
theorem d_Trail_findClock_42 : decode b_Trail_findClock 42 = .ok (.iload_n 3, 1) := dc_29 (by decide +kernel)
theorem d_Trail_findClock_43 : decode b_Trail_findClock 43 = .ok (.invokestatic 52, 3) := dc_184 (by decide +kernel)
theorem d_Trail_findClock_46 : decode b_Trail_findClock 46 = .ok (.istore 4, 2) := dc_54 (by decide +kernel)
theorem d_Trail_findClock_48 : decode b_Trail_findClock 48 = .ok (.iconst 0, 1) := dc_3 (by decide +kernel)
theorem d_Trail_findClock_49 : decode b_Trail_findClock 49 = .ok (.istore 5, 2) := dc_54 (by decide +kernel)
theorem d_Trail_findClock_51 : decode b_Trail_findClock 51 = .ok (.iload 5, 2) := dc_21 (by decide +kernel)
theorem d_Trail_findClock_53 : decode b_Trail_findClock 53 = .ok (.iconst 4, 1) := dc_7 (by decide +kernel)
theorem d_Trail_findClock_54 : decode b_Trail_findClock 54 = .ok (.if_icmp .gt 28, 3) := dc_163 (by decide +kernel)
theorem d_Trail_findClock_57 : decode b_Trail_findClock 57 = .ok (.aload_n 2, 1) := dc_44 (by decide +kernel)
theorem d_Trail_findClock_58 : decode b_Trail_findClock 58 = .ok (.getfield 79, 3) := dc_180 (by decide +kernel)
theorem d_Trail_findClock_61 : decode b_Trail_findClock 61 = .ok (.iload_n 3, 1) := dc_29 (by decide +kernel)
theorem d_Trail_findClock_62 : decode b_Trail_findClock 62 = .ok (.iload 5, 2) := dc_21 (by decide +kernel)
theorem d_Trail_findClock_64 : decode b_Trail_findClock 64 = .ok (.invokestatic 25, 3) := dc_184 (by decide +kernel)
theorem d_Trail_findClock_67 : decode b_Trail_findClock 67 = .ok (.aload_n 0, 1) := dc_42 (by decide +kernel)
theorem d_Trail_findClock_68 : decode b_Trail_findClock 68 = .ok (.aload_n 1, 1) := dc_43 (by decide +kernel)
theorem d_Trail_findClock_69 : decode b_Trail_findClock 69 = .ok (.aload_n 2, 1) := dc_44 (by decide +kernel)
theorem d_Trail_findClock_70 : decode b_Trail_findClock 70 = .ok (.iload_n 3, 1) := dc_29 (by decide +kernel)
theorem d_Trail_findClock_71 : decode b_Trail_findClock 71 = .ok (.iload 5, 2) := dc_21 (by decide +kernel)
theorem d_Trail_findClock_73 : decode b_Trail_findClock 73 = .ok (.invokevirtual 72, 3) := dc_182 (by decide +kernel)
theorem d_Trail_findClock_76 : decode b_Trail_findClock 76 = .ok (.iinc 5 1, 3) := dc_132 (by decide +kernel)
theorem d_Trail_findClock_79 : decode b_Trail_findClock 79 = .ok (.goto (-28), 3) := dc_167 (by decide +kernel)
theorem d_Trail_findClock_82 : decode b_Trail_findClock 82 = .ok (.aload_n 2, 1) := dc_44 (by decide +kernel)
theorem d_Trail_findClock_83 : decode b_Trail_findClock 83 = .ok (.getfield 79, 3) := dc_180 (by decide +kernel)
theorem d_Trail_findClock_86 : decode b_Trail_findClock 86 = .ok (.iload_n 3, 1) := dc_29 (by decide +kernel)
theorem d_Trail_findClock_87 : decode b_Trail_findClock 87 = .ok (.iload 4, 2) := dc_21 (by decide +kernel)
theorem d_Trail_findClock_89 : decode b_Trail_findClock 89 = .ok (.invokestatic 25, 3) := dc_184 (by decide +kernel)
theorem d_Trail_findClock_92 : decode b_Trail_findClock 92 = .ok (.iinc 3 1, 3) := dc_132 (by decide +kernel)
theorem d_Trail_findClock_95 : decode b_Trail_findClock 95 = .ok (.goto (-65), 3) := dc_167 (by decide +kernel)
theorem d_Trail_findClock_98 : decode b_Trail_findClock 98 = .ok (.return_, 1) := dc_177 (by decide +kernel)
def t_Trail_findClock_L51 (k0 : Nat) (k1 : Nat) (k2 : Nat) (bk30 : Mem → Int → Option (Mem)) : Nat → Mem → Int → Int → Int → Option (Mem)
  | 0, _, _, _, _ => none
  | fu + 1, M, v3_, v4_, v5_ => (if 4 < v5_ then (qlet (t_WF_put M (k2 + 1) 4 v3_ v4_) fun q12 => (bk30 q12 (w32 (v3_ + 1)))) else (qlet (t_WF_put M (k2 + 1) 4 v3_ v5_) fun q14 => (obind (t_Trail_tryClock q14 k0 k1 k2 v3_ v5_) fun q16 => (t_Trail_findClock_L51 k0 k1 k2 bk30 fu q16 v3_ v4_ (w32 (v5_ + 1))))))
def t_Trail_findClock_L30 (k0 : Nat) (k1 : Nat) (k2 : Nat)  : Nat → Mem → Int → Option (Mem)
  | 0, _, _ => none
  | fu + 1, M, v3_ => (if (M.1 k1 14) ≤ v3_ then (some M) else (qlet (t_WF_look M (k2 + 1) 4 v3_) fun q9 => (t_Trail_findClock_L51 k0 k1 k2 (fun a0_ a1_ => t_Trail_findClock_L30 k0 k1 k2 fu a0_ a1_) FU M v3_ q9 0)))
def t_Trail_findClock (M : Mem) (k0 : Nat) (k1 : Nat) (k2 : Nat) : Option (Mem) := (qlet (setI M k0 5 0) fun M1 => (qlet (setI M1 k0 6 (-1)) fun M2 => (qlet (setI M2 k0 7 (-1)) fun M3 => (qlet (setI M3 k0 8 (-1)) fun M4 => (obind (t_Trail_tryClock M4 k0 k1 k2 (-1) (-1)) fun q5 => (t_Trail_findClock_L30 k0 k1 k2 FU q5 0))))))
set_option maxHeartbeats 4000000 in
set_option maxRecDepth 100000 in
theorem k_Trail_findClock_L51 (l : Launch) {p : Program} {e : Env} {s : State} {m : MethodId} {below : List Frame} {meth : Method} {c : Code} {b n : Nat} {C : CT} (hlo : 191 ≤ n) (k0 : Nat) (k1 : Nat) (k2 : Nat) (hk0 : isTrail k0) (hk1 : isTown k1) (hk2 : isScene k2) (F : Cx b p m c b_Trail_findClock 6 s ([.ref (b + k0), .ref (b + k1), .ref (b + k2)] : List Value).toArray "WardFalls$Trail" C n 191) (hlk : meth.locks = false) (hr : meth.sig.returnType = none) {res : Mem} (bk30 : Mem → Int → Option (Mem)) (hbk30 : ∀ (M : Mem) (v3_ : Int) (hv3_ : InR v3_) (H : Heap) (locs : List Loc) (ls : Array Slot), St b C n M s H locs → lv_has ls 6 [(0, .ref (b + k0)), (1, .ref (b + k1)), (2, .ref (b + k2)), (3, vI v3_)] → bk30 M v3_ = some res → W p l e (headSpec (wsM y_Trail_findClock b_Trail_findClock 6 (none)) (rmD 5)).room s m ([.ref (b + k0), .ref (b + k1), .ref (b + k2)] : List Value).toArray below meth c H locs 0 0 (MQ below (QV b C n res) ([.ref (b + k0), .ref (b + k1), .ref (b + k2)] : List Value).toArray s 0 0 (frb b)) (F0 m 30 ls [])) : ∀ (fu : Nat) (M : Mem) (v3_ : Int) (hv3_ : InR v3_) (v4_ : Int) (hv4_ : InR v4_) (v5_ : Int) (hv5_ : InR v5_) (H : Heap) (locs : List Loc) (ls : Array Slot), St b C n M s H locs → lv_has ls 6 [(0, .ref (b + k0)), (1, .ref (b + k1)), (2, .ref (b + k2)), (3, vI v3_), (4, vI v4_), (5, vI v5_)] → t_Trail_findClock_L51 k0 k1 k2 bk30 fu M v3_ v4_ v5_ = some res → W p l e (headSpec (wsM y_Trail_findClock b_Trail_findClock 6 (none)) (rmD 5)).room s m ([.ref (b + k0), .ref (b + k1), .ref (b + k2)] : List Value).toArray below meth c H locs 0 0 (MQ below (QV b C n res) ([.ref (b + k0), .ref (b + k1), .ref (b + k2)] : List Value).toArray s 0 0 (frb b)) (F0 m 51 ls []) := by
  intro fu
  induction fu with
  | zero => intro M v3_ hv3_ v4_ hv4_ v5_ hv5_ H locs ls hS hl hT; exact absurd hT (by simp [t_Trail_findClock_L51])
  | succ fu ih =>
    intro M v3_ hv3_ v4_ hv4_ v5_ hv5_ H locs ls hS hl hT
    rw [t_Trail_findClock_L51] at hT
    refine lv_iload F.hx F.hb d_Trail_findClock_51 (lv_at hl 5 rfl) ?_
    refine r_iconst F.hx F.hb d_Trail_findClock_53 ?_
    refine r_icmp_gt (tgt := 82) F.hx F.hb hv5_ (inr_c rfl) d_Trail_findClock_54 (by decide) (fun c11 => ?_) (fun c11 => ?_)
    · replace hT := (if_pos c11).symm.trans hT
      refine lv_aload_n F.hx F.hb d_Trail_findClock_82 rfl (lv_at hl 2 rfl) ?_
      refine r_get (v := .ref (b + (k2 + 1))) (N := 7) (T := T9) (j := 0) F hS (Scene_lt hk2) (Scene_sh hk2) (Scene_N hk2) rfl (Nat.le_of_ble_eq_true rfl) ing9 mw_275 (Scene_g0 hk2 _) d_Trail_findClock_83 ?_
      refine lv_iload_n F.hx F.hb d_Trail_findClock_86 rfl (lv_at hl 3 rfl) ?_
      refine lv_iload F.hx F.hb d_Trail_findClock_87 (lv_at hl 4 rfl) ?_
      obtain ⟨q12, hq12⟩ : ∃ q, q = (t_WF_put M (k2 + 1) 4 v3_ v4_) := ⟨_, rfl⟩
      replace hT := qlet_eq hT hq12
      refine r_backV F hS (r_runSN (As := [.ref (b + (k2 + 1)), vI v3_, vI v4_]) F hS (c_WF_put l F.2.2.1 M (k2 + 1) 4 v3_ v4_ (Scene_f0 hk2) hv3_ hv4_ _ hq12.symm) mw_512 mw_511 mw_1 gs_Trail_25 hd_WF_put ⟨Nat.le_of_ble_eq_true rfl, Nat.le_of_ble_eq_true rfl⟩ rfl hl.1 (Nat.le_of_ble_eq_true rfl) ⟨Nat.zero_le _, Nat.zero_le _⟩ rfl d_Trail_findClock_89) (fun H locs hS => ?_)
      refine lv_iinc (v := Int32.ofInt (w32 (v3_ + 1))) (lv' := [(3, vI (w32 (v3_ + 1))), (0, .ref (b + k0)), (1, .ref (b + k1)), (2, .ref (b + k2)), (4, vI v4_), (5, vI v5_)]) F.hx F.hb d_Trail_findClock_92 hl (k := 3) rfl (q_of_add _ _) (Nat.le_of_ble_eq_true rfl) rfl (fun ls hl => ?_)
      refine lv_goto (tgt := 30) F.hx F.hb d_Trail_findClock_95 (by decide) ?_
      exact hbk30 q12 (w32 (v3_ + 1)) (inr_w32 _) _ _ _ hS (lv_sub hl [1, 2, 3, 0] rfl) hT
    · replace hT := (if_neg c11).symm.trans hT
      refine lv_aload_n F.hx F.hb d_Trail_findClock_57 rfl (lv_at hl 2 rfl) ?_
      refine r_get (v := .ref (b + (k2 + 1))) (N := 7) (T := T9) (j := 0) F hS (Scene_lt hk2) (Scene_sh hk2) (Scene_N hk2) rfl (Nat.le_of_ble_eq_true rfl) ing9 mw_275 (Scene_g0 hk2 _) d_Trail_findClock_58 ?_
      refine lv_iload_n F.hx F.hb d_Trail_findClock_61 rfl (lv_at hl 3 rfl) ?_
      refine lv_iload F.hx F.hb d_Trail_findClock_62 (lv_at hl 5 rfl) ?_
      obtain ⟨q14, hq14⟩ : ∃ q, q = (t_WF_put M (k2 + 1) 4 v3_ v5_) := ⟨_, rfl⟩
      replace hT := qlet_eq hT hq14
      refine r_backV F hS (r_runSN (As := [.ref (b + (k2 + 1)), vI v3_, vI v5_]) F hS (c_WF_put l F.2.2.1 M (k2 + 1) 4 v3_ v5_ (Scene_f0 hk2) hv3_ hv5_ _ hq14.symm) mw_512 mw_511 mw_1 gs_Trail_25 hd_WF_put ⟨Nat.le_of_ble_eq_true rfl, Nat.le_of_ble_eq_true rfl⟩ rfl hl.1 (Nat.le_of_ble_eq_true rfl) ⟨Nat.zero_le _, Nat.zero_le _⟩ rfl d_Trail_findClock_64) (fun H locs hS => ?_)
      refine lv_aload_n F.hx F.hb d_Trail_findClock_67 rfl (lv_at hl 0 rfl) ?_
      refine lv_aload_n F.hx F.hb d_Trail_findClock_68 rfl (lv_at hl 1 rfl) ?_
      refine lv_aload_n F.hx F.hb d_Trail_findClock_69 rfl (lv_at hl 2 rfl) ?_
      refine lv_iload_n F.hx F.hb d_Trail_findClock_70 rfl (lv_at hl 3 rfl) ?_
      refine lv_iload F.hx F.hb d_Trail_findClock_71 (lv_at hl 5 rfl) ?_
      obtain ⟨q16, hq16, hT⟩ := q_obind hT
      refine r_backV F hS (r_runV (k := k0) (N := 9) (T := T12) (As := [.ref (b + k1), .ref (b + k2), vI v3_, vI v5_]) F hS (Trail_lt hk0) (Trail_sh hk0) rfl (c_Trail_tryClock l F.2.2.1 q14 k0 k1 k2 v3_ v5_ hk0 hk1 hk2 hv3_ hv5_ _ hq16) gs_Trail_72 hd_Trail_tryClock ⟨Nat.le_of_ble_eq_true rfl, Nat.le_of_ble_eq_true rfl⟩ rfl hl.1 (Nat.le_of_ble_eq_true rfl) ⟨Nat.zero_le _, Nat.zero_le _⟩ rfl d_Trail_findClock_73) (fun H locs hS => ?_)
      refine lv_iinc (v := Int32.ofInt (w32 (v5_ + 1))) (lv' := [(5, vI (w32 (v5_ + 1))), (0, .ref (b + k0)), (1, .ref (b + k1)), (2, .ref (b + k2)), (3, vI v3_), (4, vI v4_)]) F.hx F.hb d_Trail_findClock_76 hl (k := 5) rfl (q_of_add _ _) (Nat.le_of_ble_eq_true rfl) rfl (fun ls hl => ?_)
      refine lv_goto (tgt := 51) F.hx F.hb d_Trail_findClock_79 (by decide) ?_
      exact ih q16 v3_ hv3_ v4_ hv4_ (w32 (v5_ + 1)) (inr_w32 _) _ _ _ hS (lv_sub hl [1, 2, 3, 4, 5, 0] rfl) hT
set_option maxHeartbeats 4000000 in
set_option maxRecDepth 100000 in
theorem k_Trail_findClock_L30 (l : Launch) {p : Program} {e : Env} {s : State} {m : MethodId} {below : List Frame} {meth : Method} {c : Code} {b n : Nat} {C : CT} (hlo : 191 ≤ n) (k0 : Nat) (k1 : Nat) (k2 : Nat) (hk0 : isTrail k0) (hk1 : isTown k1) (hk2 : isScene k2) (F : Cx b p m c b_Trail_findClock 6 s ([.ref (b + k0), .ref (b + k1), .ref (b + k2)] : List Value).toArray "WardFalls$Trail" C n 191) (hlk : meth.locks = false) (hr : meth.sig.returnType = none) {res : Mem} : ∀ (fu : Nat) (M : Mem) (v3_ : Int) (hv3_ : InR v3_) (H : Heap) (locs : List Loc) (ls : Array Slot), St b C n M s H locs → lv_has ls 6 [(0, .ref (b + k0)), (1, .ref (b + k1)), (2, .ref (b + k2)), (3, vI v3_)] → t_Trail_findClock_L30 k0 k1 k2 fu M v3_ = some res → W p l e (headSpec (wsM y_Trail_findClock b_Trail_findClock 6 (none)) (rmD 5)).room s m ([.ref (b + k0), .ref (b + k1), .ref (b + k2)] : List Value).toArray below meth c H locs 0 0 (MQ below (QV b C n res) ([.ref (b + k0), .ref (b + k1), .ref (b + k2)] : List Value).toArray s 0 0 (frb b)) (F0 m 30 ls []) := by
  intro fu
  induction fu with
  | zero => intro M v3_ hv3_ H locs ls hS hl hT; exact absurd hT (by simp [t_Trail_findClock_L30])
  | succ fu ih =>
    intro M v3_ hv3_ H locs ls hS hl hT
    rw [t_Trail_findClock_L30] at hT
    refine lv_iload_n F.hx F.hb d_Trail_findClock_30 rfl (lv_at hl 3 rfl) ?_
    refine lv_aload_n F.hx F.hb d_Trail_findClock_31 rfl (lv_at hl 1 rfl) ?_
    refine r_get (v := vI (M.1 k1 14)) (N := 20) (T := T11) (j := 14) F hS (Town_lt hk1) (Town_sh hk1) (Town_N hk1) rfl (Nat.le_of_ble_eq_true rfl) ing11 mw_138 (fv_int rfl) d_Trail_findClock_32 ?_
    have i7 := hS.rng k1 14
    refine r_icmp_ge (tgt := 98) F.hx F.hb hv3_ i7 d_Trail_findClock_35 (by decide) (fun c8 => ?_) (fun c8 => ?_)
    · replace hT := (if_pos c8).symm.trans hT
      cases hT
      exact r_vret F hlk hr hS d_Trail_findClock_98
    · replace hT := (if_neg c8).symm.trans hT
      refine lv_aload_n F.hx F.hb d_Trail_findClock_38 rfl (lv_at hl 2 rfl) ?_
      refine r_get (v := .ref (b + (k2 + 1))) (N := 7) (T := T9) (j := 0) F hS (Scene_lt hk2) (Scene_sh hk2) (Scene_N hk2) rfl (Nat.le_of_ble_eq_true rfl) ing9 mw_275 (Scene_g0 hk2 _) d_Trail_findClock_39 ?_
      refine lv_iload_n F.hx F.hb d_Trail_findClock_42 rfl (lv_at hl 3 rfl) ?_
      obtain ⟨q9, hq9⟩ : ∃ q, q = (t_WF_look M (k2 + 1) 4 v3_) := ⟨_, rfl⟩
      replace hT := qlet_eq hT hq9
      refine r_backI F hS (r_runSN (As := [.ref (b + (k2 + 1)), vI v3_]) F hS (c_WF_look l F.2.2.1 M (k2 + 1) 4 v3_ (Scene_f0 hk2) hv3_ _ hq9.symm) mw_519 mw_518 mw_1 gs_Trail_52 hd_WF_look ⟨Nat.le_of_ble_eq_true rfl, Nat.le_of_ble_eq_true rfl⟩ rfl hl.1 (Nat.le_of_ble_eq_true rfl) ⟨Nat.zero_le _, Nat.zero_le _⟩ rfl d_Trail_findClock_43) (fun H locs hS h10 => ?_)
      refine lv_istore (lv' := [(4, vI q9), (0, .ref (b + k0)), (1, .ref (b + k1)), (2, .ref (b + k2)), (3, vI v3_)]) F.hx F.hb d_Trail_findClock_46 hl (Nat.le_of_ble_eq_true rfl) rfl (fun ls hl => ?_)
      refine r_iconst F.hx F.hb d_Trail_findClock_48 ?_
      refine lv_istore (lv' := [(5, vI 0), (4, vI q9), (0, .ref (b + k0)), (1, .ref (b + k1)), (2, .ref (b + k2)), (3, vI v3_)]) F.hx F.hb d_Trail_findClock_49 hl (Nat.le_of_ble_eq_true rfl) rfl (fun ls hl => ?_)
      exact k_Trail_findClock_L51 l hlo k0 k1 k2 hk0 hk1 hk2 F hlk hr (fun a0_ a1_ => t_Trail_findClock_L30 k0 k1 k2 fu a0_ a1_) ih FU M v3_ hv3_ q9 h10 0 (inr_c rfl) _ _ _ hS (lv_sub hl [2, 3, 4, 5, 1, 0] rfl) hT
set_option maxHeartbeats 4000000 in
set_option maxRecDepth 100000 in
theorem c_Trail_findClock (l : Launch) {b n : Nat} {C : CT} (hlo : 191 ≤ n) (M : Mem) (k0 : Nat) (k1 : Nat) (k2 : Nat) (hk0 : isTrail k0) (hk1 : isTown k1) (hk2 : isScene k2) (res : Mem) (hT : t_Trail_findClock M k0 k1 k2 = some res) : CM l b C n 5 y_Trail_findClock b_Trail_findClock 6 (none) [.ref (b + k0), .ref (b + k1), .ref (b + k2)] M (QV b C n res) := by
  refine CM.of (lo := 191) (ow := "WardFalls$Trail") (by decide) rfl (Nat.le_of_ble_eq_true rfl) hlo (fun p e s m below meth c F hlk hr hS ls hl => ?_)
  have hl : lv_has ls 6 [(0, .ref (b + k0)), (1, .ref (b + k1)), (2, .ref (b + k2))] := hl
  unfold t_Trail_findClock at hT
  refine lv_aload_n F.hx F.hb d_Trail_findClock_0 rfl (lv_at hl 0 rfl) ?_
  refine r_iconst F.hx F.hb d_Trail_findClock_1 ?_
  refine r_putI (N := 9) (T := T12) (j := 5) F hS (Trail_lt hk0) (Trail_sh hk0) (Trail_N hk0) rfl (Nat.le_of_ble_eq_true rfl) ing12 tyok12 nm12 rfl rfl rfl rfl rfl (Trail_dyn hk0 _) mw_411 (inr_c rfl) d_Trail_findClock_2 (fun H locs hS => ?_)
  obtain ⟨M1, eM1⟩ : ∃ q, q = (setI M k0 5 0) := ⟨_, rfl⟩
  replace hS : St b C n M1 s H locs := by rw [eM1]; exact hS
  replace hT := qlet_eq hT eM1
  refine lv_aload_n F.hx F.hb d_Trail_findClock_5 rfl (lv_at hl 0 rfl) ?_
  refine r_iconst F.hx F.hb d_Trail_findClock_6 ?_
  refine r_putI (N := 9) (T := T12) (j := 6) F hS (Trail_lt hk0) (Trail_sh hk0) (Trail_N hk0) rfl (Nat.le_of_ble_eq_true rfl) ing12 tyok12 nm12 rfl rfl rfl rfl rfl (Trail_dyn hk0 _) mw_413 (inr_c rfl) d_Trail_findClock_7 (fun H locs hS => ?_)
  obtain ⟨M2, eM2⟩ : ∃ q, q = (setI M1 k0 6 (-1)) := ⟨_, rfl⟩
  replace hS : St b C n M2 s H locs := by rw [eM2]; exact hS
  replace hT := qlet_eq hT eM2
  refine lv_aload_n F.hx F.hb d_Trail_findClock_10 rfl (lv_at hl 0 rfl) ?_
  refine r_iconst F.hx F.hb d_Trail_findClock_11 ?_
  refine r_putI (N := 9) (T := T12) (j := 7) F hS (Trail_lt hk0) (Trail_sh hk0) (Trail_N hk0) rfl (Nat.le_of_ble_eq_true rfl) ing12 tyok12 nm12 rfl rfl rfl rfl rfl (Trail_dyn hk0 _) mw_415 (inr_c rfl) d_Trail_findClock_12 (fun H locs hS => ?_)
  obtain ⟨M3, eM3⟩ : ∃ q, q = (setI M2 k0 7 (-1)) := ⟨_, rfl⟩
  replace hS : St b C n M3 s H locs := by rw [eM3]; exact hS
  replace hT := qlet_eq hT eM3
  refine lv_aload_n F.hx F.hb d_Trail_findClock_15 rfl (lv_at hl 0 rfl) ?_
  refine r_iconst F.hx F.hb d_Trail_findClock_16 ?_
  refine r_putI (N := 9) (T := T12) (j := 8) F hS (Trail_lt hk0) (Trail_sh hk0) (Trail_N hk0) rfl (Nat.le_of_ble_eq_true rfl) ing12 tyok12 nm12 rfl rfl rfl rfl rfl (Trail_dyn hk0 _) mw_417 (inr_c rfl) d_Trail_findClock_17 (fun H locs hS => ?_)
  obtain ⟨M4, eM4⟩ : ∃ q, q = (setI M3 k0 8 (-1)) := ⟨_, rfl⟩
  replace hS : St b C n M4 s H locs := by rw [eM4]; exact hS
  replace hT := qlet_eq hT eM4
  refine lv_aload_n F.hx F.hb d_Trail_findClock_20 rfl (lv_at hl 0 rfl) ?_
  refine lv_aload_n F.hx F.hb d_Trail_findClock_21 rfl (lv_at hl 1 rfl) ?_
  refine lv_aload_n F.hx F.hb d_Trail_findClock_22 rfl (lv_at hl 2 rfl) ?_
  refine r_iconst F.hx F.hb d_Trail_findClock_23 ?_
  refine r_iconst F.hx F.hb d_Trail_findClock_24 ?_
  obtain ⟨q5, hq5, hT⟩ := q_obind hT
  refine r_backV F hS (r_runV (k := k0) (N := 9) (T := T12) (As := [.ref (b + k1), .ref (b + k2), vI (-1), vI (-1)]) F hS (Trail_lt hk0) (Trail_sh hk0) rfl (c_Trail_tryClock l F.2.2.1 M4 k0 k1 k2 (-1) (-1) hk0 hk1 hk2 (inr_c rfl) (inr_c rfl) _ hq5) gs_Trail_72 hd_Trail_tryClock ⟨Nat.le_of_ble_eq_true rfl, Nat.le_of_ble_eq_true rfl⟩ rfl hl.1 (Nat.le_of_ble_eq_true rfl) ⟨Nat.zero_le _, Nat.zero_le _⟩ rfl d_Trail_findClock_25) (fun H locs hS => ?_)
  refine r_iconst F.hx F.hb d_Trail_findClock_28 ?_
  refine lv_istore_n (lv' := [(3, vI 0), (0, .ref (b + k0)), (1, .ref (b + k1)), (2, .ref (b + k2))]) F.hx F.hb d_Trail_findClock_29 rfl hl (Nat.le_of_ble_eq_true rfl) rfl (fun ls hl => ?_)
  exact k_Trail_findClock_L30 l hlo k0 k1 k2 hk0 hk1 hk2 F hlk hr FU q5 0 (inr_c rfl) _ _ _ hS (lv_sub hl [1, 2, 3, 0] rfl) hT
theorem d_WF_clock_0 : decode b_WF_clock 0 = .ok (.iload_n 1, 1) := dc_27 (by decide +kernel)
theorem d_WF_clock_1 : decode b_WF_clock 1 = .ok (.ifCond .lt 8, 3) := dc_155 (by decide +kernel)
theorem d_WF_clock_4 : decode b_WF_clock 4 = .ok (.iload_n 1, 1) := dc_27 (by decide +kernel)
theorem d_WF_clock_5 : decode b_WF_clock 5 = .ok (.iconst 3, 1) := dc_6 (by decide +kernel)
theorem d_WF_clock_6 : decode b_WF_clock 6 = .ok (.if_icmp .le 5, 3) := dc_164 (by decide +kernel)
theorem d_WF_clock_9 : decode b_WF_clock 9 = .ok (.iconst (-1), 1) := dc_2 (by decide +kernel)
theorem d_WF_clock_10 : decode b_WF_clock 10 = .ok (.ireturn, 1) := dc_172 (by decide +kernel)
theorem d_WF_clock_11 : decode b_WF_clock 11 = .ok (.aload_n 0, 1) := dc_42 (by decide +kernel)
theorem d_WF_clock_12 : decode b_WF_clock 12 = .ok (.getfield 50, 3) := dc_180 (by decide +kernel)
theorem d_WF_clock_15 : decode b_WF_clock 15 = .ok (.aload_n 0, 1) := dc_42 (by decide +kernel)
theorem d_WF_clock_16 : decode b_WF_clock 16 = .ok (.getfield 46, 3) := dc_180 (by decide +kernel)
theorem d_WF_clock_19 : decode b_WF_clock 19 = .ok (.invokevirtual 299, 3) := dc_182 (by decide +kernel)
theorem d_WF_clock_22 : decode b_WF_clock 22 = .ok (.aload_n 0, 1) := dc_42 (by decide +kernel)
theorem d_WF_clock_23 : decode b_WF_clock 23 = .ok (.getfield 97, 3) := dc_180 (by decide +kernel)
theorem d_WF_clock_26 : decode b_WF_clock 26 = .ok (.aload_n 0, 1) := dc_42 (by decide +kernel)
theorem d_WF_clock_27 : decode b_WF_clock 27 = .ok (.getfield 22, 3) := dc_180 (by decide +kernel)
theorem d_WF_clock_30 : decode b_WF_clock 30 = .ok (.aload_n 0, 1) := dc_42 (by decide +kernel)
theorem d_WF_clock_31 : decode b_WF_clock 31 = .ok (.getfield 50, 3) := dc_180 (by decide +kernel)
theorem d_WF_clock_34 : decode b_WF_clock 34 = .ok (.invokevirtual 340, 3) := dc_182 (by decide +kernel)
theorem d_WF_clock_37 : decode b_WF_clock 37 = .ok (.iload_n 1, 1) := dc_27 (by decide +kernel)
theorem d_WF_clock_38 : decode b_WF_clock 38 = .ok (.tableswitch 50 0 2 #[26, 34, 42], 26) := by decide +kernel
theorem d_WF_clock_64 : decode b_WF_clock 64 = .ok (.aload_n 0, 1) := dc_42 (by decide +kernel)
theorem d_WF_clock_65 : decode b_WF_clock 65 = .ok (.getfield 97, 3) := dc_180 (by decide +kernel)
theorem d_WF_clock_68 : decode b_WF_clock 68 = .ok (.getfield 343, 3) := dc_180 (by decide +kernel)
theorem d_WF_clock_71 : decode b_WF_clock 71 = .ok (.ireturn, 1) := dc_172 (by decide +kernel)
theorem d_WF_clock_72 : decode b_WF_clock 72 = .ok (.aload_n 0, 1) := dc_42 (by decide +kernel)
theorem d_WF_clock_73 : decode b_WF_clock 73 = .ok (.getfield 97, 3) := dc_180 (by decide +kernel)
theorem d_WF_clock_76 : decode b_WF_clock 76 = .ok (.getfield 346, 3) := dc_180 (by decide +kernel)
theorem d_WF_clock_79 : decode b_WF_clock 79 = .ok (.ireturn, 1) := dc_172 (by decide +kernel)
theorem d_WF_clock_80 : decode b_WF_clock 80 = .ok (.aload_n 0, 1) := dc_42 (by decide +kernel)
theorem d_WF_clock_81 : decode b_WF_clock 81 = .ok (.getfield 97, 3) := dc_180 (by decide +kernel)
theorem d_WF_clock_84 : decode b_WF_clock 84 = .ok (.getfield 349, 3) := dc_180 (by decide +kernel)
theorem d_WF_clock_87 : decode b_WF_clock 87 = .ok (.ireturn, 1) := dc_172 (by decide +kernel)
theorem d_WF_clock_88 : decode b_WF_clock 88 = .ok (.aload_n 0, 1) := dc_42 (by decide +kernel)
theorem d_WF_clock_89 : decode b_WF_clock 89 = .ok (.getfield 97, 3) := dc_180 (by decide +kernel)
theorem d_WF_clock_92 : decode b_WF_clock 92 = .ok (.getfield 352, 3) := dc_180 (by decide +kernel)
theorem d_WF_clock_95 : decode b_WF_clock 95 = .ok (.ireturn, 1) := dc_172 (by decide +kernel)
def t_WF_clock (M : Mem) (x1 : Int) : Option (Mem × Int) := (if x1 < 0 then (some (M, (-1))) else (if x1 ≤ 3 then (qlet (t_Scene_copy M 52 47) fun q3 => (obind (t_Trail_findClock q3 189 ((q3.1 0 4).toNat) 52) fun q6 => (if x1 = 0 then (some (q6, (q6.1 189 5))) else (if x1 = 1 then (some (q6, (q6.1 189 6))) else (if x1 = 2 then (some (q6, (q6.1 189 7))) else (some (q6, (q6.1 189 8)))))))) else (some (M, (-1)))))
set_option maxHeartbeats 4000000 in
set_option maxRecDepth 100000 in
theorem c_WF_clock (l : Launch) {b n : Nat} {C : CT} (hlo : 191 ≤ n) (M : Mem) (x1 : Int) (hx1 : InR x1) (res : Mem × Int) (hT : t_WF_clock M x1 = some res) : CM l b C n 6 y_WF_clock b_WF_clock 2 (some .int) [.ref (b + 0), vI x1] M (QI b C n res.1 res.2) := by
  refine CM.of (lo := 191) (ow := "WardFalls") (by decide) rfl (Nat.le_of_ble_eq_true rfl) hlo (fun p e s m below meth c F hlk hr hS ls hl => ?_)
  have hl : lv_has ls 2 [(0, .ref (b + 0)), (1, vI x1)] := hl
  unfold t_WF_clock at hT
  refine lv_iload_n F.hx F.hb d_WF_clock_0 rfl (lv_at hl 1 rfl) ?_
  refine r_if_lt (tgt := 9) F.hx F.hb hx1 d_WF_clock_1 (by decide) (fun c1 => ?_) (fun c1 => ?_)
  · replace hT := (if_pos c1).symm.trans hT
    refine r_iconst F.hx F.hb d_WF_clock_9 ?_
    cases hT
    exact r_iret F hlk hr rfl hS (inr_c rfl) d_WF_clock_10
  · replace hT := (if_neg c1).symm.trans hT
    refine lv_iload_n F.hx F.hb d_WF_clock_4 rfl (lv_at hl 1 rfl) ?_
    refine r_iconst F.hx F.hb d_WF_clock_5 ?_
    refine r_icmp_le (tgt := 11) F.hx F.hb hx1 (inr_c rfl) d_WF_clock_6 (by decide) (fun c2 => ?_) (fun c2 => ?_)
    · replace hT := (if_pos c2).symm.trans hT
      refine lv_aload_n F.hx F.hb d_WF_clock_11 rfl (lv_at hl 0 rfl) ?_
      refine r_get (v := .ref (b + 52)) (N := 19) (T := T0) (j := 9) F hS (show 0 < 191 by decide) (show shK 0 = 4 from rfl) (show shN 0 = 19 from rfl) rfl (Nat.le_of_ble_eq_true rfl) ing0 mw_559 (fv_sg rfl rfl rfl) d_WF_clock_12 ?_
      refine lv_aload_n F.hx F.hb d_WF_clock_15 rfl (lv_at hl 0 rfl) ?_
      refine r_get (v := .ref (b + 47)) (N := 19) (T := T0) (j := 8) F hS (show 0 < 191 by decide) (show shK 0 = 4 from rfl) (show shN 0 = 19 from rfl) rfl (Nat.le_of_ble_eq_true rfl) ing0 mw_558 (fv_sg rfl rfl rfl) d_WF_clock_16 ?_
      obtain ⟨q3, hq3⟩ : ∃ q, q = (t_Scene_copy M 52 47) := ⟨_, rfl⟩
      replace hT := qlet_eq hT hq3
      refine r_backV F hS (r_runV (k := 52) (N := 7) (T := T9) (As := [.ref (b + 47)]) F hS (show 52 < 191 by decide) (show shK 52 = 13 from rfl) rfl (c_Scene_copy l F.2.2.1 M 52 47 (by decide : isScene 52) (by decide : isScene 47) _ hq3.symm) gs_WF_299 hd_Scene_copy ⟨Nat.le_of_ble_eq_true rfl, Nat.le_of_ble_eq_true rfl⟩ rfl hl.1 (Nat.le_of_ble_eq_true rfl) ⟨Nat.zero_le _, Nat.zero_le _⟩ rfl d_WF_clock_19) (fun H locs hS => ?_)
      refine lv_aload_n F.hx F.hb d_WF_clock_22 rfl (lv_at hl 0 rfl) ?_
      refine r_get (v := .ref (b + 189)) (N := 19) (T := T0) (j := 18) F hS (show 0 < 191 by decide) (show shK 0 = 4 from rfl) (show shN 0 = 19 from rfl) rfl (Nat.le_of_ble_eq_true rfl) ing0 mw_568 (fv_sg rfl rfl rfl) d_WF_clock_23 ?_
      refine lv_aload_n F.hx F.hb d_WF_clock_26 rfl (lv_at hl 0 rfl) ?_
      have h5 := St_town hS
      refine r_get (v := .ref (b + ((q3.1 0 4).toNat))) (N := 19) (T := T0) (j := 4) F hS (show 0 < 191 by decide) (show shK 0 = 4 from rfl) (show shN 0 = 19 from rfl) rfl (Nat.le_of_ble_eq_true rfl) ing0 mw_554 (fv_town hS) d_WF_clock_27 ?_
      refine lv_aload_n F.hx F.hb d_WF_clock_30 rfl (lv_at hl 0 rfl) ?_
      refine r_get (v := .ref (b + 52)) (N := 19) (T := T0) (j := 9) F hS (show 0 < 191 by decide) (show shK 0 = 4 from rfl) (show shN 0 = 19 from rfl) rfl (Nat.le_of_ble_eq_true rfl) ing0 mw_559 (fv_sg rfl rfl rfl) d_WF_clock_31 ?_
      obtain ⟨q6, hq6, hT⟩ := q_obind hT
      refine r_backV F hS (r_runV (k := 189) (N := 9) (T := T12) (As := [.ref (b + ((q3.1 0 4).toNat)), .ref (b + 52)]) F hS (show 189 < 191 by decide) (show shK 189 = 16 from rfl) rfl (c_Trail_findClock l F.2.2.1 q3 189 ((q3.1 0 4).toNat) 52 (by decide : isTrail 189) h5 (by decide : isScene 52) _ hq6) gs_WF_340 hd_Trail_findClock ⟨Nat.le_of_ble_eq_true rfl, Nat.le_of_ble_eq_true rfl⟩ rfl hl.1 (Nat.le_of_ble_eq_true rfl) ⟨Nat.zero_le _, Nat.zero_le _⟩ rfl d_WF_clock_34) (fun H locs hS => ?_)
      refine lv_iload_n F.hx F.hb d_WF_clock_37 rfl (lv_at hl 1 rfl) ?_
      rcases q_ite hT with ⟨c8, hT⟩ | ⟨c8, hT⟩
      · refine r_tableIn (i := 0) (tgt := 64) F.hx F.hb hx1 c8 d_WF_clock_38 (by decide) (by decide) rfl (by decide) ?_
        refine lv_aload_n F.hx F.hb d_WF_clock_64 rfl (lv_at hl 0 rfl) ?_
        refine r_get (v := .ref (b + 189)) (N := 19) (T := T0) (j := 18) F hS (show 0 < 191 by decide) (show shK 0 = 4 from rfl) (show shN 0 = 19 from rfl) rfl (Nat.le_of_ble_eq_true rfl) ing0 mw_568 (fv_sg rfl rfl rfl) d_WF_clock_65 ?_
        refine r_get (v := vI (q6.1 189 5)) (N := 9) (T := T12) (j := 5) F hS (show 189 < 191 by decide) (show shK 189 = 16 from rfl) (show shN 189 = 9 from rfl) rfl (Nat.le_of_ble_eq_true rfl) ing12 mw_412 (fv_int rfl) d_WF_clock_68 ?_
        have i9 := hS.rng 189 5
        cases hT
        exact r_iret F hlk hr rfl hS i9 d_WF_clock_71
      ·
        rcases q_ite hT with ⟨c10, hT⟩ | ⟨c10, hT⟩
        · refine r_tableIn (i := 1) (tgt := 72) F.hx F.hb hx1 c10 d_WF_clock_38 (by decide) (by decide) rfl (by decide) ?_
          refine lv_aload_n F.hx F.hb d_WF_clock_72 rfl (lv_at hl 0 rfl) ?_
          refine r_get (v := .ref (b + 189)) (N := 19) (T := T0) (j := 18) F hS (show 0 < 191 by decide) (show shK 0 = 4 from rfl) (show shN 0 = 19 from rfl) rfl (Nat.le_of_ble_eq_true rfl) ing0 mw_568 (fv_sg rfl rfl rfl) d_WF_clock_73 ?_
          refine r_get (v := vI (q6.1 189 6)) (N := 9) (T := T12) (j := 6) F hS (show 189 < 191 by decide) (show shK 189 = 16 from rfl) (show shN 189 = 9 from rfl) rfl (Nat.le_of_ble_eq_true rfl) ing12 mw_414 (fv_int rfl) d_WF_clock_76 ?_
          have i11 := hS.rng 189 6
          cases hT
          exact r_iret F hlk hr rfl hS i11 d_WF_clock_79
        ·
          rcases q_ite hT with ⟨c12, hT⟩ | ⟨c12, hT⟩
          · refine r_tableIn (i := 2) (tgt := 80) F.hx F.hb hx1 c12 d_WF_clock_38 (by decide) (by decide) rfl (by decide) ?_
            refine lv_aload_n F.hx F.hb d_WF_clock_80 rfl (lv_at hl 0 rfl) ?_
            refine r_get (v := .ref (b + 189)) (N := 19) (T := T0) (j := 18) F hS (show 0 < 191 by decide) (show shK 0 = 4 from rfl) (show shN 0 = 19 from rfl) rfl (Nat.le_of_ble_eq_true rfl) ing0 mw_568 (fv_sg rfl rfl rfl) d_WF_clock_81 ?_
            refine r_get (v := vI (q6.1 189 7)) (N := 9) (T := T12) (j := 7) F hS (show 189 < 191 by decide) (show shK 189 = 16 from rfl) (show shN 189 = 9 from rfl) rfl (Nat.le_of_ble_eq_true rfl) ing12 mw_416 (fv_int rfl) d_WF_clock_84 ?_
            have i13 := hS.rng 189 7
            cases hT
            exact r_iret F hlk hr rfl hS i13 d_WF_clock_87
          ·
            refine r_tableOut (tgt := 88) F.hx F.hb hx1 (by omega) d_WF_clock_38 (by decide) ?_
            refine lv_aload_n F.hx F.hb d_WF_clock_88 rfl (lv_at hl 0 rfl) ?_
            refine r_get (v := .ref (b + 189)) (N := 19) (T := T0) (j := 18) F hS (show 0 < 191 by decide) (show shK 0 = 4 from rfl) (show shN 0 = 19 from rfl) rfl (Nat.le_of_ble_eq_true rfl) ing0 mw_568 (fv_sg rfl rfl rfl) d_WF_clock_89 ?_
            refine r_get (v := vI (q6.1 189 8)) (N := 9) (T := T12) (j := 8) F hS (show 189 < 191 by decide) (show shK 189 = 16 from rfl) (show shN 189 = 9 from rfl) rfl (Nat.le_of_ble_eq_true rfl) ing12 mw_418 (fv_int rfl) d_WF_clock_92 ?_
            have i14 := hS.rng 189 8
            cases hT
            exact r_iret F hlk hr rfl hS i14 d_WF_clock_95
    · replace hT := (if_neg c2).symm.trans hT
      refine r_iconst F.hx F.hb d_WF_clock_9 ?_
      cases hT
      exact r_iret F hlk hr rfl hS (inr_c rfl) d_WF_clock_10
