theorem d_Scene_copy_0 : decode b_Scene_copy 0 = .ok (.aload_n 1, 1) := dc_43 (by decide +kernel)
theorem d_Scene_copy_1 : decode b_Scene_copy 1 = .ok (.getfield 9, 3) := dc_180 (by decide +kernel)
theorem d_Scene_copy_4 : decode b_Scene_copy 4 = .ok (.aload_n 0, 1) := dc_42 (by decide +kernel)
theorem d_Scene_copy_5 : decode b_Scene_copy 5 = .ok (.getfield 9, 3) := dc_180 (by decide +kernel)
theorem d_Scene_copy_8 : decode b_Scene_copy 8 = .ok (.invokestatic 29, 3) := dc_184 (by decide +kernel)
theorem d_Scene_copy_11 : decode b_Scene_copy 11 = .ok (.aload_n 1, 1) := dc_43 (by decide +kernel)
theorem d_Scene_copy_12 : decode b_Scene_copy 12 = .ok (.getfield 15, 3) := dc_180 (by decide +kernel)
theorem d_Scene_copy_15 : decode b_Scene_copy 15 = .ok (.aload_n 0, 1) := dc_42 (by decide +kernel)
theorem d_Scene_copy_16 : decode b_Scene_copy 16 = .ok (.getfield 15, 3) := dc_180 (by decide +kernel)
theorem d_Scene_copy_19 : decode b_Scene_copy 19 = .ok (.invokestatic 29, 3) := dc_184 (by decide +kernel)
theorem d_Scene_copy_22 : decode b_Scene_copy 22 = .ok (.aload_n 1, 1) := dc_43 (by decide +kernel)
theorem d_Scene_copy_23 : decode b_Scene_copy 23 = .ok (.getfield 18, 3) := dc_180 (by decide +kernel)
theorem d_Scene_copy_26 : decode b_Scene_copy 26 = .ok (.aload_n 0, 1) := dc_42 (by decide +kernel)
theorem d_Scene_copy_27 : decode b_Scene_copy 27 = .ok (.getfield 18, 3) := dc_180 (by decide +kernel)
theorem d_Scene_copy_30 : decode b_Scene_copy 30 = .ok (.invokestatic 29, 3) := dc_184 (by decide +kernel)
theorem d_Scene_copy_33 : decode b_Scene_copy 33 = .ok (.aload_n 1, 1) := dc_43 (by decide +kernel)
theorem d_Scene_copy_34 : decode b_Scene_copy 34 = .ok (.getfield 21, 3) := dc_180 (by decide +kernel)
theorem d_Scene_copy_37 : decode b_Scene_copy 37 = .ok (.aload_n 0, 1) := dc_42 (by decide +kernel)
theorem d_Scene_copy_38 : decode b_Scene_copy 38 = .ok (.getfield 21, 3) := dc_180 (by decide +kernel)
theorem d_Scene_copy_41 : decode b_Scene_copy 41 = .ok (.invokestatic 29, 3) := dc_184 (by decide +kernel)
theorem d_Scene_copy_44 : decode b_Scene_copy 44 = .ok (.aload_n 0, 1) := dc_42 (by decide +kernel)
theorem d_Scene_copy_45 : decode b_Scene_copy 45 = .ok (.aload_n 1, 1) := dc_43 (by decide +kernel)
theorem d_Scene_copy_46 : decode b_Scene_copy 46 = .ok (.getfield 46, 3) := dc_180 (by decide +kernel)
theorem d_Scene_copy_49 : decode b_Scene_copy 49 = .ok (.putfield 46, 3) := dc_181 (by decide +kernel)
theorem d_Scene_copy_52 : decode b_Scene_copy 52 = .ok (.aload_n 0, 1) := dc_42 (by decide +kernel)
theorem d_Scene_copy_53 : decode b_Scene_copy 53 = .ok (.aload_n 1, 1) := dc_43 (by decide +kernel)
theorem d_Scene_copy_54 : decode b_Scene_copy 54 = .ok (.getfield 47, 3) := dc_180 (by decide +kernel)
theorem d_Scene_copy_57 : decode b_Scene_copy 57 = .ok (.putfield 47, 3) := dc_181 (by decide +kernel)
theorem d_Scene_copy_60 : decode b_Scene_copy 60 = .ok (.aload_n 0, 1) := dc_42 (by decide +kernel)
theorem d_Scene_copy_61 : decode b_Scene_copy 61 = .ok (.aload_n 1, 1) := dc_43 (by decide +kernel)
theorem d_Scene_copy_62 : decode b_Scene_copy 62 = .ok (.getfield 50, 3) := dc_180 (by decide +kernel)
theorem d_Scene_copy_65 : decode b_Scene_copy 65 = .ok (.putfield 50, 3) := dc_181 (by decide +kernel)
theorem d_Scene_copy_68 : decode b_Scene_copy 68 = .ok (.return_, 1) := dc_177 (by decide +kernel)
def t_Scene_copy (M : Mem) (k0 : Nat) (k1 : Nat) : Mem := (qlet (t_WF_copyRow M (k1 + 1) 4 (k0 + 1) 4) fun q1 => (qlet (t_WF_copyRow q1 (k1 + 2) 8 (k0 + 2) 8) fun q3 => (qlet (t_WF_copyRow q3 (k1 + 3) 8 (k0 + 3) 8) fun q5 => (qlet (t_WF_copyRow q5 (k1 + 4) 8 (k0 + 4) 8) fun q7 => (qlet (setL q7 k0 4 (q7.2 k1 4)) fun M9 => (qlet (setL M9 k0 5 (M9.2 k1 5)) fun M10 => (qlet (setL M10 k0 6 (M10.2 k1 6)) fun M11 => M11)))))))
set_option maxHeartbeats 4000000 in
set_option maxRecDepth 100000 in
theorem c_Scene_copy (l : Launch) {b n : Nat} {C : CT} (hlo : 191 ≤ n) (M : Mem) (k0 : Nat) (k1 : Nat) (hk0 : isScene k0) (hk1 : isScene k1) (res : Mem) (hT : t_Scene_copy M k0 k1 = res) : CM l b C n 3 y_Scene_copy b_Scene_copy 2 (none) [.ref (b + k0), .ref (b + k1)] M (QV b C n res) := by
  refine CM.of (lo := 191) (ow := "WardFalls$Scene") (by decide) rfl (Nat.le_of_ble_eq_true rfl) hlo (fun p e s m below meth c F hlk hr hS ls hl => ?_)
  have hl : lv_has ls 2 [(0, .ref (b + k0)), (1, .ref (b + k1))] := hl
  unfold t_Scene_copy at hT
  refine lv_aload_n F.hx F.hb d_Scene_copy_0 rfl (lv_at hl 1 rfl) ?_
  refine r_get (v := .ref (b + (k1 + 1))) (N := 7) (T := T9) (j := 0) F hS (Scene_lt hk1) (Scene_sh hk1) (Scene_N hk1) rfl (Nat.le_of_ble_eq_true rfl) ing9 mw_272 (Scene_g0 hk1 _) d_Scene_copy_1 ?_
  refine lv_aload_n F.hx F.hb d_Scene_copy_4 rfl (lv_at hl 0 rfl) ?_
  refine r_get (v := .ref (b + (k0 + 1))) (N := 7) (T := T9) (j := 0) F hS (Scene_lt hk0) (Scene_sh hk0) (Scene_N hk0) rfl (Nat.le_of_ble_eq_true rfl) ing9 mw_272 (Scene_g0 hk0 _) d_Scene_copy_5 ?_
  obtain ⟨q1, hq1⟩ : ∃ q, q = (t_WF_copyRow M (k1 + 1) 4 (k0 + 1) 4) := ⟨_, rfl⟩
  replace hT := qlet_eq hT hq1
  refine r_backV F hS (r_runSN (As := [.ref (b + (k1 + 1)), .ref (b + (k0 + 1))]) F hS (c_WF_copyRow l F.2.2.1 M (k1 + 1) 4 (k0 + 1) 4 (Scene_f0 hk1) (Scene_f0 hk0) _ hq1.symm) mw_530 mw_529 mw_1 gs_Scene_29 hd_WF_copyRow ⟨Nat.le_of_ble_eq_true rfl, Nat.le_of_ble_eq_true rfl⟩ rfl hl.1 (Nat.le_of_ble_eq_true rfl) ⟨Nat.zero_le _, Nat.zero_le _⟩ rfl d_Scene_copy_8) (fun H locs hS => ?_)
  refine lv_aload_n F.hx F.hb d_Scene_copy_11 rfl (lv_at hl 1 rfl) ?_
  refine r_get (v := .ref (b + (k1 + 2))) (N := 7) (T := T9) (j := 1) F hS (Scene_lt hk1) (Scene_sh hk1) (Scene_N hk1) rfl (Nat.le_of_ble_eq_true rfl) ing9 mw_278 (Scene_g1 hk1 _) d_Scene_copy_12 ?_
  refine lv_aload_n F.hx F.hb d_Scene_copy_15 rfl (lv_at hl 0 rfl) ?_
  refine r_get (v := .ref (b + (k0 + 2))) (N := 7) (T := T9) (j := 1) F hS (Scene_lt hk0) (Scene_sh hk0) (Scene_N hk0) rfl (Nat.le_of_ble_eq_true rfl) ing9 mw_278 (Scene_g1 hk0 _) d_Scene_copy_16 ?_
  obtain ⟨q3, hq3⟩ : ∃ q, q = (t_WF_copyRow q1 (k1 + 2) 8 (k0 + 2) 8) := ⟨_, rfl⟩
  replace hT := qlet_eq hT hq3
  refine r_backV F hS (r_runSN (As := [.ref (b + (k1 + 2)), .ref (b + (k0 + 2))]) F hS (c_WF_copyRow l F.2.2.1 q1 (k1 + 2) 8 (k0 + 2) 8 (Scene_f1 hk1) (Scene_f1 hk0) _ hq3.symm) mw_530 mw_529 mw_1 gs_Scene_29 hd_WF_copyRow ⟨Nat.le_of_ble_eq_true rfl, Nat.le_of_ble_eq_true rfl⟩ rfl hl.1 (Nat.le_of_ble_eq_true rfl) ⟨Nat.zero_le _, Nat.zero_le _⟩ rfl d_Scene_copy_19) (fun H locs hS => ?_)
  refine lv_aload_n F.hx F.hb d_Scene_copy_22 rfl (lv_at hl 1 rfl) ?_
  refine r_get (v := .ref (b + (k1 + 3))) (N := 7) (T := T9) (j := 2) F hS (Scene_lt hk1) (Scene_sh hk1) (Scene_N hk1) rfl (Nat.le_of_ble_eq_true rfl) ing9 mw_281 (Scene_g2 hk1 _) d_Scene_copy_23 ?_
  refine lv_aload_n F.hx F.hb d_Scene_copy_26 rfl (lv_at hl 0 rfl) ?_
  refine r_get (v := .ref (b + (k0 + 3))) (N := 7) (T := T9) (j := 2) F hS (Scene_lt hk0) (Scene_sh hk0) (Scene_N hk0) rfl (Nat.le_of_ble_eq_true rfl) ing9 mw_281 (Scene_g2 hk0 _) d_Scene_copy_27 ?_
  obtain ⟨q5, hq5⟩ : ∃ q, q = (t_WF_copyRow q3 (k1 + 3) 8 (k0 + 3) 8) := ⟨_, rfl⟩
  replace hT := qlet_eq hT hq5
  refine r_backV F hS (r_runSN (As := [.ref (b + (k1 + 3)), .ref (b + (k0 + 3))]) F hS (c_WF_copyRow l F.2.2.1 q3 (k1 + 3) 8 (k0 + 3) 8 (Scene_f2 hk1) (Scene_f2 hk0) _ hq5.symm) mw_530 mw_529 mw_1 gs_Scene_29 hd_WF_copyRow ⟨Nat.le_of_ble_eq_true rfl, Nat.le_of_ble_eq_true rfl⟩ rfl hl.1 (Nat.le_of_ble_eq_true rfl) ⟨Nat.zero_le _, Nat.zero_le _⟩ rfl d_Scene_copy_30) (fun H locs hS => ?_)
  refine lv_aload_n F.hx F.hb d_Scene_copy_33 rfl (lv_at hl 1 rfl) ?_
  refine r_get (v := .ref (b + (k1 + 4))) (N := 7) (T := T9) (j := 3) F hS (Scene_lt hk1) (Scene_sh hk1) (Scene_N hk1) rfl (Nat.le_of_ble_eq_true rfl) ing9 mw_283 (Scene_g3 hk1 _) d_Scene_copy_34 ?_
  refine lv_aload_n F.hx F.hb d_Scene_copy_37 rfl (lv_at hl 0 rfl) ?_
  refine r_get (v := .ref (b + (k0 + 4))) (N := 7) (T := T9) (j := 3) F hS (Scene_lt hk0) (Scene_sh hk0) (Scene_N hk0) rfl (Nat.le_of_ble_eq_true rfl) ing9 mw_283 (Scene_g3 hk0 _) d_Scene_copy_38 ?_
  obtain ⟨q7, hq7⟩ : ∃ q, q = (t_WF_copyRow q5 (k1 + 4) 8 (k0 + 4) 8) := ⟨_, rfl⟩
  replace hT := qlet_eq hT hq7
  refine r_backV F hS (r_runSN (As := [.ref (b + (k1 + 4)), .ref (b + (k0 + 4))]) F hS (c_WF_copyRow l F.2.2.1 q5 (k1 + 4) 8 (k0 + 4) 8 (Scene_f3 hk1) (Scene_f3 hk0) _ hq7.symm) mw_530 mw_529 mw_1 gs_Scene_29 hd_WF_copyRow ⟨Nat.le_of_ble_eq_true rfl, Nat.le_of_ble_eq_true rfl⟩ rfl hl.1 (Nat.le_of_ble_eq_true rfl) ⟨Nat.zero_le _, Nat.zero_le _⟩ rfl d_Scene_copy_41) (fun H locs hS => ?_)
  refine lv_aload_n F.hx F.hb d_Scene_copy_44 rfl (lv_at hl 0 rfl) ?_
  refine lv_aload_n F.hx F.hb d_Scene_copy_45 rfl (lv_at hl 1 rfl) ?_
  refine r_get (v := .long (q7.2 k1 4)) (N := 7) (T := T9) (j := 4) F hS (Scene_lt hk1) (Scene_sh hk1) (Scene_N hk1) rfl (Nat.le_of_ble_eq_true rfl) ing9 mw_285 (fv_long rfl) d_Scene_copy_46 ?_
  refine r_putL (N := 7) (T := T9) (j := 4) F hS (Scene_lt hk0) (Scene_sh hk0) (Scene_N hk0) rfl (Nat.le_of_ble_eq_true rfl) ing9 tyok9 nm9 rfl rfl rfl mw_285 d_Scene_copy_49 (fun H locs hS => ?_)
  obtain ⟨M9, eM9⟩ : ∃ q, q = (setL q7 k0 4 (q7.2 k1 4)) := ⟨_, rfl⟩
  replace hS : St b C n M9 s H locs := by rw [eM9]; exact hS
  replace hT := qlet_eq hT eM9
  refine lv_aload_n F.hx F.hb d_Scene_copy_52 rfl (lv_at hl 0 rfl) ?_
  refine lv_aload_n F.hx F.hb d_Scene_copy_53 rfl (lv_at hl 1 rfl) ?_
  refine r_get (v := .long (M9.2 k1 5)) (N := 7) (T := T9) (j := 5) F hS (Scene_lt hk1) (Scene_sh hk1) (Scene_N hk1) rfl (Nat.le_of_ble_eq_true rfl) ing9 mw_289 (fv_long rfl) d_Scene_copy_54 ?_
  refine r_putL (N := 7) (T := T9) (j := 5) F hS (Scene_lt hk0) (Scene_sh hk0) (Scene_N hk0) rfl (Nat.le_of_ble_eq_true rfl) ing9 tyok9 nm9 rfl rfl rfl mw_289 d_Scene_copy_57 (fun H locs hS => ?_)
  obtain ⟨M10, eM10⟩ : ∃ q, q = (setL M9 k0 5 (M9.2 k1 5)) := ⟨_, rfl⟩
  replace hS : St b C n M10 s H locs := by rw [eM10]; exact hS
  replace hT := qlet_eq hT eM10
  refine lv_aload_n F.hx F.hb d_Scene_copy_60 rfl (lv_at hl 0 rfl) ?_
  refine lv_aload_n F.hx F.hb d_Scene_copy_61 rfl (lv_at hl 1 rfl) ?_
  refine r_get (v := .long (M10.2 k1 6)) (N := 7) (T := T9) (j := 6) F hS (Scene_lt hk1) (Scene_sh hk1) (Scene_N hk1) rfl (Nat.le_of_ble_eq_true rfl) ing9 mw_291 (fv_long rfl) d_Scene_copy_62 ?_
  refine r_putL (N := 7) (T := T9) (j := 6) F hS (Scene_lt hk0) (Scene_sh hk0) (Scene_N hk0) rfl (Nat.le_of_ble_eq_true rfl) ing9 tyok9 nm9 rfl rfl rfl mw_291 d_Scene_copy_65 (fun H locs hS => ?_)
  obtain ⟨M11, eM11⟩ : ∃ q, q = (setL M10 k0 6 (M10.2 k1 6)) := ⟨_, rfl⟩
  replace hS : St b C n M11 s H locs := by rw [eM11]; exact hS
  replace hT := qlet_eq hT eM11
  subst hT
  exact r_vret F hlk hr hS d_Scene_copy_68
theorem d_Past_remember_0 : decode b_Past_remember 0 = .ok (.aload_n 0, 1) := dc_42 (by decide +kernel)
theorem d_Past_remember_1 : decode b_Past_remember 1 = .ok (.aload_n 0, 1) := dc_42 (by decide +kernel)
theorem d_Past_remember_2 : decode b_Past_remember 2 = .ok (.getfield 22, 3) := dc_180 (by decide +kernel)
theorem d_Past_remember_5 : decode b_Past_remember 5 = .ok (.iconst 1, 1) := dc_4 (by decide +kernel)
theorem d_Past_remember_6 : decode b_Past_remember 6 = .ok (.iadd, 1) := dc_96 (by decide +kernel)
theorem d_Past_remember_7 : decode b_Past_remember 7 = .ok (.aload_n 0, 1) := dc_42 (by decide +kernel)
theorem d_Past_remember_8 : decode b_Past_remember 8 = .ok (.getfield 11, 3) := dc_180 (by decide +kernel)
theorem d_Past_remember_11 : decode b_Past_remember 11 = .ok (.arraylength, 1) := dc_190 (by decide +kernel)
theorem d_Past_remember_12 : decode b_Past_remember 12 = .ok (.if_icmp .ge 12, 3) := dc_162 (by decide +kernel)
theorem d_Past_remember_15 : decode b_Past_remember 15 = .ok (.aload_n 0, 1) := dc_42 (by decide +kernel)
theorem d_Past_remember_16 : decode b_Past_remember 16 = .ok (.getfield 22, 3) := dc_180 (by decide +kernel)
theorem d_Past_remember_19 : decode b_Past_remember 19 = .ok (.iconst 1, 1) := dc_4 (by decide +kernel)
theorem d_Past_remember_20 : decode b_Past_remember 20 = .ok (.iadd, 1) := dc_96 (by decide +kernel)
theorem d_Past_remember_21 : decode b_Past_remember 21 = .ok (.goto 4, 3) := dc_167 (by decide +kernel)
theorem d_Past_remember_24 : decode b_Past_remember 24 = .ok (.iconst 0, 1) := dc_3 (by decide +kernel)
theorem d_Past_remember_25 : decode b_Past_remember 25 = .ok (.putfield 22, 3) := dc_181 (by decide +kernel)
theorem d_Past_remember_28 : decode b_Past_remember 28 = .ok (.aload_n 0, 1) := dc_42 (by decide +kernel)
theorem d_Past_remember_29 : decode b_Past_remember 29 = .ok (.getfield 22, 3) := dc_180 (by decide +kernel)
theorem d_Past_remember_32 : decode b_Past_remember 32 = .ok (.ifCond .lt 40, 3) := dc_155 (by decide +kernel)
theorem d_Past_remember_35 : decode b_Past_remember 35 = .ok (.aload_n 0, 1) := dc_42 (by decide +kernel)
theorem d_Past_remember_36 : decode b_Past_remember 36 = .ok (.getfield 22, 3) := dc_180 (by decide +kernel)
theorem d_Past_remember_39 : decode b_Past_remember 39 = .ok (.aload_n 0, 1) := dc_42 (by decide +kernel)
theorem d_Past_remember_40 : decode b_Past_remember 40 = .ok (.getfield 11, 3) := dc_180 (by decide +kernel)
theorem d_Past_remember_43 : decode b_Past_remember 43 = .ok (.arraylength, 1) := dc_190 (by decide +kernel)
theorem d_Past_remember_44 : decode b_Past_remember 44 = .ok (.if_icmp .ge 28, 3) := dc_162 (by decide +kernel)
theorem d_Past_remember_47 : decode b_Past_remember 47 = .ok (.aload_n 0, 1) := dc_42 (by decide +kernel)
theorem d_Past_remember_48 : decode b_Past_remember 48 = .ok (.getfield 11, 3) := dc_180 (by decide +kernel)
theorem d_Past_remember_51 : decode b_Past_remember 51 = .ok (.aload_n 0, 1) := dc_42 (by decide +kernel)
theorem d_Past_remember_52 : decode b_Past_remember 52 = .ok (.getfield 22, 3) := dc_180 (by decide +kernel)
theorem d_Past_remember_55 : decode b_Past_remember 55 = .ok (.aaload, 1) := dc_50 (by decide +kernel)
theorem d_Past_remember_56 : decode b_Past_remember 56 = .ok (.ifnull 16, 3) := dc_198 (by decide +kernel)
theorem d_Past_remember_59 : decode b_Past_remember 59 = .ok (.aload_n 0, 1) := dc_42 (by decide +kernel)
theorem d_Past_remember_60 : decode b_Past_remember 60 = .ok (.getfield 11, 3) := dc_180 (by decide +kernel)
theorem d_Past_remember_63 : decode b_Past_remember 63 = .ok (.aload_n 0, 1) := dc_42 (by decide +kernel)
theorem d_Past_remember_64 : decode b_Past_remember 64 = .ok (.getfield 22, 3) := dc_180 (by decide +kernel)
theorem d_Past_remember_67 : decode b_Past_remember 67 = .ok (.aaload, 1) := dc_50 (by decide +kernel)
theorem d_Past_remember_68 : decode b_Past_remember 68 = .ok (.aload_n 1, 1) := dc_43 (by decide +kernel)
theorem d_Past_remember_69 : decode b_Past_remember 69 = .ok (.invokevirtual 25, 3) := dc_182 (by decide +kernel)
theorem d_Past_remember_72 : decode b_Past_remember 72 = .ok (.aload_n 0, 1) := dc_42 (by decide +kernel)
theorem d_Past_remember_73 : decode b_Past_remember 73 = .ok (.aload_n 0, 1) := dc_42 (by decide +kernel)
theorem d_Past_remember_74 : decode b_Past_remember 74 = .ok (.getfield 18, 3) := dc_180 (by decide +kernel)
theorem d_Past_remember_77 : decode b_Past_remember 77 = .ok (.iconst 1, 1) := dc_4 (by decide +kernel)
theorem d_Past_remember_78 : decode b_Past_remember 78 = .ok (.iadd, 1) := dc_96 (by decide +kernel)
theorem d_Past_remember_79 : decode b_Past_remember 79 = .ok (.bipush 20, 2) := dc_16 (by decide +kernel)
theorem d_Past_remember_81 : decode b_Past_remember 81 = .ok (.invokestatic 29, 3) := dc_184 (by decide +kernel)
theorem d_Past_remember_84 : decode b_Past_remember 84 = .ok (.putfield 18, 3) := dc_181 (by decide +kernel)
theorem d_Past_remember_87 : decode b_Past_remember 87 = .ok (.return_, 1) := dc_177 (by decide +kernel)
def t_Past_remember_L72 (k1 : Nat)  (M : Mem)  : Mem := (qlet (setI M 70 2 (q_min (w32 ((M.1 70 2) + 1)) 20)) fun M16 => M16)
def t_Past_remember_L25 (k1 : Nat)  (M : Mem) (v3_ : Int) : Mem := (qlet (setI M 70 1 v3_) fun M4 => (if (M4.1 70 1) < 0 then (t_Past_remember_L72 k1 M4) else (if 20 ≤ (M4.1 70 1) then (t_Past_remember_L72 k1 M4) else (qlet (t_Scene_copy M4 (72 + 5 * ((M4.1 70 1)).toNat) k1) fun q13 => (t_Past_remember_L72 k1 q13)))))
def t_Past_remember (M : Mem) (k1 : Nat) : Mem := (if 20 ≤ (w32 ((M.1 70 1) + 1)) then (t_Past_remember_L25 k1 M 0) else (t_Past_remember_L25 k1 M (w32 ((M.1 70 1) + 1))))
set_option maxHeartbeats 4000000 in
set_option maxRecDepth 100000 in
theorem k_Past_remember_L72 (l : Launch) {p : Program} {e : Env} {s : State} {m : MethodId} {below : List Frame} {meth : Method} {c : Code} {b n : Nat} {C : CT} (hlo : 191 ≤ n) (k1 : Nat) (hk1 : isScene k1) (F : Cx b p m c b_Past_remember 2 s ([.ref (b + 70), .ref (b + k1)] : List Value).toArray "WardFalls$Past" C n 191) (hlk : meth.locks = false) (hr : meth.sig.returnType = none) {res : Mem} (M : Mem)  (H : Heap) (locs : List Loc) (ls : Array Slot) (hS : St b C n M s H locs) (hl : lv_has ls 2 [(0, .ref (b + 70))]) (hT : t_Past_remember_L72 k1 M = res) : W p l e (headSpec (wsM y_Past_remember b_Past_remember 2 (none)) (rmD 4)).room s m ([.ref (b + 70), .ref (b + k1)] : List Value).toArray below meth c H locs 0 0 (MQ below (QV b C n res) ([.ref (b + 70), .ref (b + k1)] : List Value).toArray s 0 0 (frb b)) (F0 m 72 ls []) := by
  unfold t_Past_remember_L72 at hT
  refine lv_aload_n F.hx F.hb d_Past_remember_72 rfl (lv_at hl 0 rfl) ?_
  refine lv_aload_n F.hx F.hb d_Past_remember_73 rfl (lv_at hl 0 rfl) ?_
  refine r_get (v := vI (M.1 70 2)) (N := 3) (T := T6) (j := 2) F hS (show 70 < 191 by decide) (show shK 70 = 10 from rfl) (show shN 70 = 3 from rfl) rfl (Nat.le_of_ble_eq_true rfl) ing6 mw_349 (fv_int rfl) d_Past_remember_74 ?_
  have i15 := hS.rng 70 2
  refine r_iconst F.hx F.hb d_Past_remember_77 ?_
  refine r_iadd F.hx F.hb d_Past_remember_78 ?_
  refine r_bipush F.hx F.hb d_Past_remember_79 rfl ?_
  refine r_mmin F hl.1 mw_1004 mw_532 mw_14 mw_533 ⟨Nat.le_of_ble_eq_true rfl, Nat.le_of_ble_eq_true rfl⟩ (Nat.le_of_ble_eq_true rfl) ⟨Nat.zero_le _, Nat.zero_le _⟩ (inr_w32 _) (inr_c rfl) d_Past_remember_81 ?_
  refine r_putI (N := 3) (T := T6) (j := 2) F hS (show 70 < 191 by decide) (show shK 70 = 10 from rfl) (show shN 70 = 3 from rfl) rfl (Nat.le_of_ble_eq_true rfl) ing6 tyok6 nm6 rfl rfl rfl rfl rfl rfl mw_349 (inr_min (inr_w32 _) (inr_c rfl)) d_Past_remember_84 (fun H locs hS => ?_)
  obtain ⟨M16, eM16⟩ : ∃ q, q = (setI M 70 2 (q_min (w32 ((M.1 70 2) + 1)) 20)) := ⟨_, rfl⟩
  replace hS : St b C n M16 s H locs := by rw [eM16]; exact hS
  replace hT := qlet_eq hT eM16
  subst hT
  exact r_vret F hlk hr hS d_Past_remember_87
set_option maxHeartbeats 4000000 in
set_option maxRecDepth 100000 in
theorem k_Past_remember_L25 (l : Launch) {p : Program} {e : Env} {s : State} {m : MethodId} {below : List Frame} {meth : Method} {c : Code} {b n : Nat} {C : CT} (hlo : 191 ≤ n) (k1 : Nat) (hk1 : isScene k1) (F : Cx b p m c b_Past_remember 2 s ([.ref (b + 70), .ref (b + k1)] : List Value).toArray "WardFalls$Past" C n 191) (hlk : meth.locks = false) (hr : meth.sig.returnType = none) {res : Mem} (M : Mem) (v3_ : Int) (hv3_ : InR v3_) (H : Heap) (locs : List Loc) (ls : Array Slot) (hS : St b C n M s H locs) (hl : lv_has ls 2 [(0, .ref (b + 70)), (1, .ref (b + k1))]) (hT : t_Past_remember_L25 k1 M v3_ = res) : W p l e (headSpec (wsM y_Past_remember b_Past_remember 2 (none)) (rmD 4)).room s m ([.ref (b + 70), .ref (b + k1)] : List Value).toArray below meth c H locs 0 0 (MQ below (QV b C n res) ([.ref (b + 70), .ref (b + k1)] : List Value).toArray s 0 0 (frb b)) (F0 m 25 ls [vI v3_, .ref (b + 70)]) := by
  unfold t_Past_remember_L25 at hT
  refine r_putI (N := 3) (T := T6) (j := 1) F hS (show 70 < 191 by decide) (show shK 70 = 10 from rfl) (show shN 70 = 3 from rfl) rfl (Nat.le_of_ble_eq_true rfl) ing6 tyok6 nm6 rfl rfl rfl rfl rfl rfl mw_348 hv3_ d_Past_remember_25 (fun H locs hS => ?_)
  obtain ⟨M4, eM4⟩ : ∃ q, q = (setI M 70 1 v3_) := ⟨_, rfl⟩
  replace hS : St b C n M4 s H locs := by rw [eM4]; exact hS
  replace hT := qlet_eq hT eM4
  refine lv_aload_n F.hx F.hb d_Past_remember_28 rfl (lv_at hl 0 rfl) ?_
  refine r_get (v := vI (M4.1 70 1)) (N := 3) (T := T6) (j := 1) F hS (show 70 < 191 by decide) (show shK 70 = 10 from rfl) (show shN 70 = 3 from rfl) rfl (Nat.le_of_ble_eq_true rfl) ing6 mw_348 (fv_int rfl) d_Past_remember_29 ?_
  have i5 := hS.rng 70 1
  refine r_if_lt (tgt := 72) F.hx F.hb i5 d_Past_remember_32 (by decide) (fun c6 => ?_) (fun c6 => ?_)
  · replace hT := (if_pos c6).symm.trans hT
    exact k_Past_remember_L72 l hlo k1 hk1 F hlk hr M4 _ _ _ hS (lv_sub hl [0] rfl) hT
  · replace hT := (if_neg c6).symm.trans hT
    refine lv_aload_n F.hx F.hb d_Past_remember_35 rfl (lv_at hl 0 rfl) ?_
    refine r_get (v := vI (M4.1 70 1)) (N := 3) (T := T6) (j := 1) F hS (show 70 < 191 by decide) (show shK 70 = 10 from rfl) (show shN 70 = 3 from rfl) rfl (Nat.le_of_ble_eq_true rfl) ing6 mw_348 (fv_int rfl) d_Past_remember_36 ?_
    have i7 := hS.rng 70 1
    refine lv_aload_n F.hx F.hb d_Past_remember_39 rfl (lv_at hl 0 rfl) ?_
    refine r_get (v := .ref (b + 71)) (N := 3) (T := T6) (j := 0) F hS (show 70 < 191 by decide) (show shK 70 = 10 from rfl) (show shN 70 = 3 from rfl) rfl (Nat.le_of_ble_eq_true rfl) ing6 mw_347 (fv_sg rfl rfl rfl) d_Past_remember_40 ?_
    refine r_alen3 F hS (show 71 < 191 by decide) (show shK 71 = 3 from rfl) (show shN 71 = 20 from rfl) d_Past_remember_43 rfl ?_
    refine r_icmp_ge (tgt := 72) F.hx F.hb i7 (inr_c rfl) d_Past_remember_44 (by decide) (fun c8 => ?_) (fun c8 => ?_)
    · replace hT := (if_pos c8).symm.trans hT
      exact k_Past_remember_L72 l hlo k1 hk1 F hlk hr M4 _ _ _ hS (lv_sub hl [0] rfl) hT
    · replace hT := (if_neg c8).symm.trans hT
      refine lv_aload_n F.hx F.hb d_Past_remember_47 rfl (lv_at hl 0 rfl) ?_
      refine r_get (v := .ref (b + 71)) (N := 3) (T := T6) (j := 0) F hS (show 70 < 191 by decide) (show shK 70 = 10 from rfl) (show shN 70 = 3 from rfl) rfl (Nat.le_of_ble_eq_true rfl) ing6 mw_347 (fv_sg rfl rfl rfl) d_Past_remember_48 ?_
      refine lv_aload_n F.hx F.hb d_Past_remember_51 rfl (lv_at hl 0 rfl) ?_
      refine r_get (v := vI (M4.1 70 1)) (N := 3) (T := T6) (j := 1) F hS (show 70 < 191 by decide) (show shK 70 = 10 from rfl) (show shN 70 = 3 from rfl) rfl (Nat.le_of_ble_eq_true rfl) ing6 mw_348 (fv_int rfl) d_Past_remember_52 ?_
      have i9 := hS.rng 70 1
      have h10 : isScene (72 + 5 * ((M4.1 70 1)).toNat) := scenes_at (by omega) (by omega)
      refine r_scn F hS i9 (by omega) (by omega) d_Past_remember_55 ?_
      refine lv_ifnull F.hx F.hb d_Past_remember_56 ?_
      refine lv_aload_n F.hx F.hb d_Past_remember_59 rfl (lv_at hl 0 rfl) ?_
      refine r_get (v := .ref (b + 71)) (N := 3) (T := T6) (j := 0) F hS (show 70 < 191 by decide) (show shK 70 = 10 from rfl) (show shN 70 = 3 from rfl) rfl (Nat.le_of_ble_eq_true rfl) ing6 mw_347 (fv_sg rfl rfl rfl) d_Past_remember_60 ?_
      refine lv_aload_n F.hx F.hb d_Past_remember_63 rfl (lv_at hl 0 rfl) ?_
      refine r_get (v := vI (M4.1 70 1)) (N := 3) (T := T6) (j := 1) F hS (show 70 < 191 by decide) (show shK 70 = 10 from rfl) (show shN 70 = 3 from rfl) rfl (Nat.le_of_ble_eq_true rfl) ing6 mw_348 (fv_int rfl) d_Past_remember_64 ?_
      have i11 := hS.rng 70 1
      have h12 : isScene (72 + 5 * ((M4.1 70 1)).toNat) := scenes_at (by omega) (by omega)
      refine r_scn F hS i11 (by omega) (by omega) d_Past_remember_67 ?_
      refine lv_aload_n F.hx F.hb d_Past_remember_68 rfl (lv_at hl 1 rfl) ?_
      obtain ⟨q13, hq13⟩ : ∃ q, q = (t_Scene_copy M4 (72 + 5 * ((M4.1 70 1)).toNat) k1) := ⟨_, rfl⟩
      replace hT := qlet_eq hT hq13
      refine r_backV F hS (r_runV (k := (72 + 5 * ((M4.1 70 1)).toNat)) (N := 7) (T := T9) (As := [.ref (b + k1)]) F hS (Scene_lt h12) (Scene_sh h12) rfl (c_Scene_copy l F.2.2.1 M4 (72 + 5 * ((M4.1 70 1)).toNat) k1 h12 hk1 _ hq13.symm) gs_Past_25 hd_Scene_copy ⟨Nat.le_of_ble_eq_true rfl, Nat.le_of_ble_eq_true rfl⟩ rfl hl.1 (Nat.le_of_ble_eq_true rfl) ⟨Nat.zero_le _, Nat.zero_le _⟩ rfl d_Past_remember_69) (fun H locs hS => ?_)
      exact k_Past_remember_L72 l hlo k1 hk1 F hlk hr q13 _ _ _ hS (lv_sub hl [0] rfl) hT
set_option maxHeartbeats 4000000 in
set_option maxRecDepth 100000 in
theorem c_Past_remember (l : Launch) {b n : Nat} {C : CT} (hlo : 191 ≤ n) (M : Mem) (k1 : Nat) (hk1 : isScene k1) (res : Mem) (hT : t_Past_remember M k1 = res) : CM l b C n 4 y_Past_remember b_Past_remember 2 (none) [.ref (b + 70), .ref (b + k1)] M (QV b C n res) := by
  refine CM.of (lo := 191) (ow := "WardFalls$Past") (by decide) rfl (Nat.le_of_ble_eq_true rfl) hlo (fun p e s m below meth c F hlk hr hS ls hl => ?_)
  have hl : lv_has ls 2 [(0, .ref (b + 70)), (1, .ref (b + k1))] := hl
  unfold t_Past_remember at hT
  refine lv_aload_n F.hx F.hb d_Past_remember_0 rfl (lv_at hl 0 rfl) ?_
  refine lv_aload_n F.hx F.hb d_Past_remember_1 rfl (lv_at hl 0 rfl) ?_
  refine r_get (v := vI (M.1 70 1)) (N := 3) (T := T6) (j := 1) F hS (show 70 < 191 by decide) (show shK 70 = 10 from rfl) (show shN 70 = 3 from rfl) rfl (Nat.le_of_ble_eq_true rfl) ing6 mw_348 (fv_int rfl) d_Past_remember_2 ?_
  have i1 := hS.rng 70 1
  refine r_iconst F.hx F.hb d_Past_remember_5 ?_
  refine r_iadd F.hx F.hb d_Past_remember_6 ?_
  refine lv_aload_n F.hx F.hb d_Past_remember_7 rfl (lv_at hl 0 rfl) ?_
  refine r_get (v := .ref (b + 71)) (N := 3) (T := T6) (j := 0) F hS (show 70 < 191 by decide) (show shK 70 = 10 from rfl) (show shN 70 = 3 from rfl) rfl (Nat.le_of_ble_eq_true rfl) ing6 mw_347 (fv_sg rfl rfl rfl) d_Past_remember_8 ?_
  refine r_alen3 F hS (show 71 < 191 by decide) (show shK 71 = 3 from rfl) (show shN 71 = 20 from rfl) d_Past_remember_11 rfl ?_
  refine r_icmp_ge (tgt := 24) F.hx F.hb (inr_w32 _) (inr_c rfl) d_Past_remember_12 (by decide) (fun c2 => ?_) (fun c2 => ?_)
  · replace hT := (if_pos c2).symm.trans hT
    refine r_iconst F.hx F.hb d_Past_remember_24 ?_
    exact k_Past_remember_L25 l hlo k1 hk1 F hlk hr M 0 (inr_c rfl) _ _ _ hS (lv_sub hl [0, 1] rfl) hT
  · replace hT := (if_neg c2).symm.trans hT
    refine lv_aload_n F.hx F.hb d_Past_remember_15 rfl (lv_at hl 0 rfl) ?_
    refine r_get (v := vI (M.1 70 1)) (N := 3) (T := T6) (j := 1) F hS (show 70 < 191 by decide) (show shK 70 = 10 from rfl) (show shN 70 = 3 from rfl) rfl (Nat.le_of_ble_eq_true rfl) ing6 mw_348 (fv_int rfl) d_Past_remember_16 ?_
    have i3 := hS.rng 70 1
    refine r_iconst F.hx F.hb d_Past_remember_19 ?_
    refine r_iadd F.hx F.hb d_Past_remember_20 ?_
    refine lv_goto (tgt := 25) F.hx F.hb d_Past_remember_21 (by decide) ?_
    exact k_Past_remember_L25 l hlo k1 hk1 F hlk hr M (w32 ((M.1 70 1) + 1)) (inr_w32 _) _ _ _ hS (lv_sub hl [0, 1] rfl) hT
theorem d_Scene_pourOne_0 : decode b_Scene_pourOne 0 = .ok (.iload_n 2, 1) := dc_28 (by decide +kernel)
theorem d_Scene_pourOne_1 : decode b_Scene_pourOne 1 = .ok (.istore_n 3, 1) := dc_62 (by decide +kernel)
theorem d_Scene_pourOne_2 : decode b_Scene_pourOne 2 = .ok (.iconst 0, 1) := dc_3 (by decide +kernel)
theorem d_Scene_pourOne_3 : decode b_Scene_pourOne 3 = .ok (.istore 4, 2) := dc_54 (by decide +kernel)
theorem d_Scene_pourOne_5 : decode b_Scene_pourOne 5 = .ok (.iload 4, 2) := dc_21 (by decide +kernel)
theorem d_Scene_pourOne_7 : decode b_Scene_pourOne 7 = .ok (.bipush 48, 2) := dc_16 (by decide +kernel)
theorem d_Scene_pourOne_9 : decode b_Scene_pourOne 9 = .ok (.if_icmp .gt 71, 3) := dc_163 (by decide +kernel)
theorem d_Scene_pourOne_12 : decode b_Scene_pourOne 12 = .ok (.aload_n 0, 1) := dc_42 (by decide +kernel)
theorem d_Scene_pourOne_13 : decode b_Scene_pourOne 13 = .ok (.aload_n 1, 1) := dc_43 (by decide +kernel)
theorem d_Scene_pourOne_14 : decode b_Scene_pourOne 14 = .ok (.iload_n 3, 1) := dc_29 (by decide +kernel)
theorem d_Scene_pourOne_15 : decode b_Scene_pourOne 15 = .ok (.invokevirtual 83, 3) := dc_182 (by decide +kernel)
theorem d_Scene_pourOne_18 : decode b_Scene_pourOne 18 = .ok (.istore 5, 2) := dc_54 (by decide +kernel)
theorem d_Scene_pourOne_20 : decode b_Scene_pourOne 20 = .ok (.iload 5, 2) := dc_21 (by decide +kernel)
theorem d_Scene_pourOne_22 : decode b_Scene_pourOne 22 = .ok (.ifCond .lt 16, 3) := dc_155 (by decide +kernel)
theorem d_Scene_pourOne_25 : decode b_Scene_pourOne 25 = .ok (.aload_n 0, 1) := dc_42 (by decide +kernel)
theorem d_Scene_pourOne_26 : decode b_Scene_pourOne 26 = .ok (.getfield 50, 3) := dc_180 (by decide +kernel)
theorem d_Scene_pourOne_29 : decode b_Scene_pourOne 29 = .ok (.iload 5, 2) := dc_21 (by decide +kernel)
theorem d_Scene_pourOne_31 : decode b_Scene_pourOne 31 = .ok (.invokestatic 60, 3) := dc_184 (by decide +kernel)
theorem d_Scene_pourOne_34 : decode b_Scene_pourOne 34 = .ok (.iconst 1, 1) := dc_4 (by decide +kernel)
theorem d_Scene_pourOne_35 : decode b_Scene_pourOne 35 = .ok (.if_icmp .ne 36, 3) := dc_160 (by decide +kernel)
theorem d_Scene_pourOne_38 : decode b_Scene_pourOne 38 = .ok (.aload_n 0, 1) := dc_42 (by decide +kernel)
theorem d_Scene_pourOne_39 : decode b_Scene_pourOne 39 = .ok (.getfield 50, 3) := dc_180 (by decide +kernel)
theorem d_Scene_pourOne_42 : decode b_Scene_pourOne 42 = .ok (.iload_n 3, 1) := dc_29 (by decide +kernel)
theorem d_Scene_pourOne_43 : decode b_Scene_pourOne 43 = .ok (.invokestatic 60, 3) := dc_184 (by decide +kernel)
theorem d_Scene_pourOne_46 : decode b_Scene_pourOne 46 = .ok (.ifCond .ne 7, 3) := dc_154 (by decide +kernel)
theorem d_Scene_pourOne_49 : decode b_Scene_pourOne 49 = .ok (.iconst 1, 1) := dc_4 (by decide +kernel)
theorem d_Scene_pourOne_50 : decode b_Scene_pourOne 50 = .ok (.goto 4, 3) := dc_167 (by decide +kernel)
theorem d_Scene_pourOne_53 : decode b_Scene_pourOne 53 = .ok (.iconst 0, 1) := dc_3 (by decide +kernel)
theorem d_Scene_pourOne_54 : decode b_Scene_pourOne 54 = .ok (.istore 6, 2) := dc_54 (by decide +kernel)
theorem d_Scene_pourOne_56 : decode b_Scene_pourOne 56 = .ok (.aload_n 0, 1) := dc_42 (by decide +kernel)
theorem d_Scene_pourOne_57 : decode b_Scene_pourOne 57 = .ok (.dup, 1) := dc_89 (by decide +kernel)
theorem d_Scene_pourOne_58 : decode b_Scene_pourOne 58 = .ok (.getfield 50, 3) := dc_180 (by decide +kernel)
theorem d_Scene_pourOne_61 : decode b_Scene_pourOne 61 = .ok (.lconst 1, 1) := dc_10 (by decide +kernel)
theorem d_Scene_pourOne_62 : decode b_Scene_pourOne 62 = .ok (.iload_n 3, 1) := dc_29 (by decide +kernel)
theorem d_Scene_pourOne_63 : decode b_Scene_pourOne 63 = .ok (.lshl, 1) := dc_121 (by decide +kernel)
theorem d_Scene_pourOne_64 : decode b_Scene_pourOne 64 = .ok (.lor, 1) := dc_129 (by decide +kernel)
theorem d_Scene_pourOne_65 : decode b_Scene_pourOne 65 = .ok (.putfield 50, 3) := dc_181 (by decide +kernel)
theorem d_Scene_pourOne_68 : decode b_Scene_pourOne 68 = .ok (.iload 6, 2) := dc_21 (by decide +kernel)
theorem d_Scene_pourOne_70 : decode b_Scene_pourOne 70 = .ok (.ireturn, 1) := dc_172 (by decide +kernel)
theorem d_Scene_pourOne_71 : decode b_Scene_pourOne 71 = .ok (.iload 5, 2) := dc_21 (by decide +kernel)
theorem d_Scene_pourOne_73 : decode b_Scene_pourOne 73 = .ok (.istore_n 3, 1) := dc_62 (by decide +kernel)
theorem d_Scene_pourOne_74 : decode b_Scene_pourOne 74 = .ok (.iinc 4 1, 3) := dc_132 (by decide +kernel)
theorem d_Scene_pourOne_77 : decode b_Scene_pourOne 77 = .ok (.goto (-72), 3) := dc_167 (by decide +kernel)
theorem d_Scene_pourOne_80 : decode b_Scene_pourOne 80 = .ok (.iconst 0, 1) := dc_3 (by decide +kernel)
theorem d_Scene_pourOne_81 : decode b_Scene_pourOne 81 = .ok (.ireturn, 1) := dc_172 (by decide +kernel)
def t_Scene_pourOne_L54 (k0 : Nat) (k1 : Nat) (x2 : Int)  (M : Mem) (v1_ : Int) (v2_ : Int) : Option (Mem × Int) := (qlet (setL M k0 6 ((M.2 k0 6) ||| (q_lshl 1 v1_))) fun M11 => (some (M11, v2_)))
def t_Scene_pourOne_L38 (k0 : Nat) (k1 : Nat) (x2 : Int)  (M : Mem) (v1_ : Int) : Option (Mem × Int) := (qlet (t_WF_bitOf M (M.2 k0 6) v1_) fun q8 => (if q8 = 0 then (t_Scene_pourOne_L54 k0 k1 x2 M v1_ 1) else (t_Scene_pourOne_L54 k0 k1 x2 M v1_ 0)))
def t_Scene_pourOne_L5 (k0 : Nat) (k1 : Nat) (x2 : Int)  : Nat → Mem → Int → Int → Option (Mem × Int)
  | 0, _, _, _ => none
  | fu + 1, M, v2_, v3_ => (if 48 < v3_ then (some (M, 0)) else (qlet (t_Scene_nextOf M k0 k1 v2_) fun q2 => (if q2 < 0 then (t_Scene_pourOne_L38 k0 k1 x2 M v2_) else (qlet (t_WF_bitOf M (M.2 k0 6) q2) fun q5 => (if q5 = 1 then (t_Scene_pourOne_L38 k0 k1 x2 M v2_) else (t_Scene_pourOne_L5 k0 k1 x2 fu M q2 (w32 (v3_ + 1))))))))
def t_Scene_pourOne (M : Mem) (k0 : Nat) (k1 : Nat) (x2 : Int) : Option (Mem × Int) := (t_Scene_pourOne_L5 k0 k1 x2 FU M x2 0)
set_option maxHeartbeats 4000000 in
set_option maxRecDepth 100000 in
theorem k_Scene_pourOne_L54 (l : Launch) {p : Program} {e : Env} {s : State} {m : MethodId} {below : List Frame} {meth : Method} {c : Code} {b n : Nat} {C : CT} (hlo : 191 ≤ n) (k0 : Nat) (k1 : Nat) (x2 : Int) (hk0 : isScene k0) (hk1 : isTown k1) (hx2 : InR x2) (F : Cx b p m c b_Scene_pourOne 7 s ([.ref (b + k0), .ref (b + k1), vI x2] : List Value).toArray "WardFalls$Scene" C n 191) (hlk : meth.locks = false) (hr : meth.sig.returnType = some .boolean) {res : Mem × Int} (M : Mem) (v1_ : Int) (hv1_ : InR v1_) (v2_ : Int) (hv2_ : v2_ = 0 ∨ v2_ = 1) (H : Heap) (locs : List Loc) (ls : Array Slot) (hS : St b C n M s H locs) (hl : lv_has ls 7 [(0, .ref (b + k0)), (3, vI v1_)]) (hT : t_Scene_pourOne_L54 k0 k1 x2 M v1_ v2_ = some res) : W p l e (headSpec (wsM y_Scene_pourOne b_Scene_pourOne 7 (some .boolean)) (rmD 3)).room s m ([.ref (b + k0), .ref (b + k1), vI x2] : List Value).toArray below meth c H locs 0 0 (MQ below (QZ b C n res.1 res.2) ([.ref (b + k0), .ref (b + k1), vI x2] : List Value).toArray s 0 0 (frb b)) (F0 m 54 ls [vI v2_]) := by
  unfold t_Scene_pourOne_L54 at hT
  refine lv_istore (lv' := [(6, vI v2_), (0, .ref (b + k0)), (3, vI v1_)]) F.hx F.hb d_Scene_pourOne_54 hl (Nat.le_of_ble_eq_true rfl) rfl (fun ls hl => ?_)
  refine lv_aload_n F.hx F.hb d_Scene_pourOne_56 rfl (lv_at hl 1 rfl) ?_
  refine lv_dup F.hx F.hb d_Scene_pourOne_57 rfl ?_
  refine r_get (v := .long (M.2 k0 6)) (N := 7) (T := T9) (j := 6) F hS (Scene_lt hk0) (Scene_sh hk0) (Scene_N hk0) rfl (Nat.le_of_ble_eq_true rfl) ing9 mw_291 (fv_long rfl) d_Scene_pourOne_58 ?_
  refine lv_lconst (v := 1) F.hx F.hb d_Scene_pourOne_61 rfl ?_
  refine lv_iload_n F.hx F.hb d_Scene_pourOne_62 rfl (lv_at hl 2 rfl) ?_
  refine r_lshl F.hx F.hb d_Scene_pourOne_63 ?_
  refine lv_lor F.hx F.hb d_Scene_pourOne_64 ?_
  refine r_putL (N := 7) (T := T9) (j := 6) F hS (Scene_lt hk0) (Scene_sh hk0) (Scene_N hk0) rfl (Nat.le_of_ble_eq_true rfl) ing9 tyok9 nm9 rfl rfl rfl mw_291 d_Scene_pourOne_65 (fun H locs hS => ?_)
  obtain ⟨M11, eM11⟩ : ∃ q, q = (setL M k0 6 ((M.2 k0 6) ||| (q_lshl 1 v1_))) := ⟨_, rfl⟩
  replace hS : St b C n M11 s H locs := by rw [eM11]; exact hS
  replace hT := qlet_eq hT eM11
  refine lv_iload F.hx F.hb d_Scene_pourOne_68 (lv_at hl 0 rfl) ?_
  cases hT
  exact r_zret F hlk hr hS hv2_ d_Scene_pourOne_70
set_option maxHeartbeats 4000000 in
set_option maxRecDepth 100000 in
theorem k_Scene_pourOne_L38 (l : Launch) {p : Program} {e : Env} {s : State} {m : MethodId} {below : List Frame} {meth : Method} {c : Code} {b n : Nat} {C : CT} (hlo : 191 ≤ n) (k0 : Nat) (k1 : Nat) (x2 : Int) (hk0 : isScene k0) (hk1 : isTown k1) (hx2 : InR x2) (F : Cx b p m c b_Scene_pourOne 7 s ([.ref (b + k0), .ref (b + k1), vI x2] : List Value).toArray "WardFalls$Scene" C n 191) (hlk : meth.locks = false) (hr : meth.sig.returnType = some .boolean) {res : Mem × Int} (M : Mem) (v1_ : Int) (hv1_ : InR v1_) (H : Heap) (locs : List Loc) (ls : Array Slot) (hS : St b C n M s H locs) (hl : lv_has ls 7 [(0, .ref (b + k0)), (3, vI v1_)]) (hT : t_Scene_pourOne_L38 k0 k1 x2 M v1_ = some res) : W p l e (headSpec (wsM y_Scene_pourOne b_Scene_pourOne 7 (some .boolean)) (rmD 3)).room s m ([.ref (b + k0), .ref (b + k1), vI x2] : List Value).toArray below meth c H locs 0 0 (MQ below (QZ b C n res.1 res.2) ([.ref (b + k0), .ref (b + k1), vI x2] : List Value).toArray s 0 0 (frb b)) (F0 m 38 ls []) := by
  unfold t_Scene_pourOne_L38 at hT
  refine lv_aload_n F.hx F.hb d_Scene_pourOne_38 rfl (lv_at hl 0 rfl) ?_
  refine r_get (v := .long (M.2 k0 6)) (N := 7) (T := T9) (j := 6) F hS (Scene_lt hk0) (Scene_sh hk0) (Scene_N hk0) rfl (Nat.le_of_ble_eq_true rfl) ing9 mw_291 (fv_long rfl) d_Scene_pourOne_39 ?_
  refine lv_iload_n F.hx F.hb d_Scene_pourOne_42 rfl (lv_at hl 1 rfl) ?_
  obtain ⟨q8, hq8⟩ : ∃ q, q = (t_WF_bitOf M (M.2 k0 6) v1_) := ⟨_, rfl⟩
  replace hT := qlet_eq hT hq8
  refine r_backI F hS (r_runSN (As := [.long (M.2 k0 6), vI v1_]) F hS (c_WF_bitOf l F.2.2.1 M (M.2 k0 6) v1_ hv1_ _ hq8.symm) mw_773 mw_772 mw_1 gs_Scene_60 hd_WF_bitOf ⟨Nat.le_of_ble_eq_true rfl, Nat.le_of_ble_eq_true rfl⟩ rfl hl.1 (Nat.le_of_ble_eq_true rfl) ⟨Nat.zero_le _, Nat.zero_le _⟩ rfl d_Scene_pourOne_43) (fun H locs hS h9 => ?_)
  refine r_if_ne (tgt := 53) F.hx F.hb h9 d_Scene_pourOne_46 (by decide) (fun c10 => ?_) (fun c10 => ?_)
  · replace hT := (if_neg c10).symm.trans hT
    refine r_iconst F.hx F.hb d_Scene_pourOne_53 ?_
    exact k_Scene_pourOne_L54 l hlo k0 k1 x2 hk0 hk1 hx2 F hlk hr M v1_ hv1_ 0 (Or.inl rfl) _ _ _ hS (lv_sub hl [0, 1] rfl) hT
  · replace hT := (if_pos c10).symm.trans hT
    refine r_iconst F.hx F.hb d_Scene_pourOne_49 ?_
    refine lv_goto (tgt := 54) F.hx F.hb d_Scene_pourOne_50 (by decide) ?_
    exact k_Scene_pourOne_L54 l hlo k0 k1 x2 hk0 hk1 hx2 F hlk hr M v1_ hv1_ 1 (Or.inr rfl) _ _ _ hS (lv_sub hl [0, 1] rfl) hT
set_option maxHeartbeats 4000000 in
set_option maxRecDepth 100000 in
theorem k_Scene_pourOne_L5 (l : Launch) {p : Program} {e : Env} {s : State} {m : MethodId} {below : List Frame} {meth : Method} {c : Code} {b n : Nat} {C : CT} (hlo : 191 ≤ n) (k0 : Nat) (k1 : Nat) (x2 : Int) (hk0 : isScene k0) (hk1 : isTown k1) (hx2 : InR x2) (F : Cx b p m c b_Scene_pourOne 7 s ([.ref (b + k0), .ref (b + k1), vI x2] : List Value).toArray "WardFalls$Scene" C n 191) (hlk : meth.locks = false) (hr : meth.sig.returnType = some .boolean) {res : Mem × Int} : ∀ (fu : Nat) (M : Mem) (v2_ : Int) (hv2_ : InR v2_) (v3_ : Int) (hv3_ : InR v3_) (H : Heap) (locs : List Loc) (ls : Array Slot), St b C n M s H locs → lv_has ls 7 [(0, .ref (b + k0)), (1, .ref (b + k1)), (3, vI v2_), (4, vI v3_)] → t_Scene_pourOne_L5 k0 k1 x2 fu M v2_ v3_ = some res → W p l e (headSpec (wsM y_Scene_pourOne b_Scene_pourOne 7 (some .boolean)) (rmD 3)).room s m ([.ref (b + k0), .ref (b + k1), vI x2] : List Value).toArray below meth c H locs 0 0 (MQ below (QZ b C n res.1 res.2) ([.ref (b + k0), .ref (b + k1), vI x2] : List Value).toArray s 0 0 (frb b)) (F0 m 5 ls []) := by
  intro fu
  induction fu with
  | zero => intro M v2_ hv2_ v3_ hv3_ H locs ls hS hl hT; exact absurd hT (by simp [t_Scene_pourOne_L5])
  | succ fu ih =>
    intro M v2_ hv2_ v3_ hv3_ H locs ls hS hl hT
    rw [t_Scene_pourOne_L5] at hT
    refine lv_iload F.hx F.hb d_Scene_pourOne_5 (lv_at hl 3 rfl) ?_
    refine r_bipush F.hx F.hb d_Scene_pourOne_7 rfl ?_
    refine r_icmp_gt (tgt := 80) F.hx F.hb hv3_ (inr_c rfl) d_Scene_pourOne_9 (by decide) (fun c1 => ?_) (fun c1 => ?_)
    · replace hT := (if_pos c1).symm.trans hT
      refine r_iconst F.hx F.hb d_Scene_pourOne_80 ?_
      cases hT
      exact r_zret F hlk hr hS (Or.inl rfl) d_Scene_pourOne_81
    · replace hT := (if_neg c1).symm.trans hT
      refine lv_aload_n F.hx F.hb d_Scene_pourOne_12 rfl (lv_at hl 0 rfl) ?_
      refine lv_aload_n F.hx F.hb d_Scene_pourOne_13 rfl (lv_at hl 1 rfl) ?_
      refine lv_iload_n F.hx F.hb d_Scene_pourOne_14 rfl (lv_at hl 2 rfl) ?_
      obtain ⟨q2, hq2⟩ : ∃ q, q = (t_Scene_nextOf M k0 k1 v2_) := ⟨_, rfl⟩
      replace hT := qlet_eq hT hq2
      refine r_backI F hS (r_runV (k := k0) (N := 7) (T := T9) (As := [.ref (b + k1), vI v2_]) F hS (Scene_lt hk0) (Scene_sh hk0) rfl (c_Scene_nextOf l F.2.2.1 M k0 k1 v2_ hk0 hk1 hv2_ _ hq2.symm) gs_Scene_83 hd_Scene_nextOf ⟨Nat.le_of_ble_eq_true rfl, Nat.le_of_ble_eq_true rfl⟩ rfl hl.1 (Nat.le_of_ble_eq_true rfl) ⟨Nat.zero_le _, Nat.zero_le _⟩ rfl d_Scene_pourOne_15) (fun H locs hS h3 => ?_)
      refine lv_istore (lv' := [(5, vI q2), (0, .ref (b + k0)), (1, .ref (b + k1)), (3, vI v2_), (4, vI v3_)]) F.hx F.hb d_Scene_pourOne_18 hl (Nat.le_of_ble_eq_true rfl) rfl (fun ls hl => ?_)
      refine lv_iload F.hx F.hb d_Scene_pourOne_20 (lv_at hl 0 rfl) ?_
      refine r_if_lt (tgt := 38) F.hx F.hb h3 d_Scene_pourOne_22 (by decide) (fun c4 => ?_) (fun c4 => ?_)
      · replace hT := (if_pos c4).symm.trans hT
        exact k_Scene_pourOne_L38 l hlo k0 k1 x2 hk0 hk1 hx2 F hlk hr M v2_ hv2_ _ _ _ hS (lv_sub hl [1, 3] rfl) hT
      · replace hT := (if_neg c4).symm.trans hT
        refine lv_aload_n F.hx F.hb d_Scene_pourOne_25 rfl (lv_at hl 1 rfl) ?_
        refine r_get (v := .long (M.2 k0 6)) (N := 7) (T := T9) (j := 6) F hS (Scene_lt hk0) (Scene_sh hk0) (Scene_N hk0) rfl (Nat.le_of_ble_eq_true rfl) ing9 mw_291 (fv_long rfl) d_Scene_pourOne_26 ?_
        refine lv_iload F.hx F.hb d_Scene_pourOne_29 (lv_at hl 0 rfl) ?_
        obtain ⟨q5, hq5⟩ : ∃ q, q = (t_WF_bitOf M (M.2 k0 6) q2) := ⟨_, rfl⟩
        replace hT := qlet_eq hT hq5
        refine r_backI F hS (r_runSN (As := [.long (M.2 k0 6), vI q2]) F hS (c_WF_bitOf l F.2.2.1 M (M.2 k0 6) q2 h3 _ hq5.symm) mw_773 mw_772 mw_1 gs_Scene_60 hd_WF_bitOf ⟨Nat.le_of_ble_eq_true rfl, Nat.le_of_ble_eq_true rfl⟩ rfl hl.1 (Nat.le_of_ble_eq_true rfl) ⟨Nat.zero_le _, Nat.zero_le _⟩ rfl d_Scene_pourOne_31) (fun H locs hS h6 => ?_)
        refine r_iconst F.hx F.hb d_Scene_pourOne_34 ?_
        refine r_icmp_ne (tgt := 71) F.hx F.hb h6 (inr_c rfl) d_Scene_pourOne_35 (by decide) (fun c7 => ?_) (fun c7 => ?_)
        · replace hT := (if_neg c7).symm.trans hT
          refine lv_iload F.hx F.hb d_Scene_pourOne_71 (lv_at hl 0 rfl) ?_
          refine lv_istore_n (lv' := [(3, vI q2), (5, vI q2), (0, .ref (b + k0)), (1, .ref (b + k1)), (4, vI v3_)]) F.hx F.hb d_Scene_pourOne_73 rfl hl (Nat.le_of_ble_eq_true rfl) rfl (fun ls hl => ?_)
          refine lv_iinc (v := Int32.ofInt (w32 (v3_ + 1))) (lv' := [(4, vI (w32 (v3_ + 1))), (3, vI q2), (5, vI q2), (0, .ref (b + k0)), (1, .ref (b + k1))]) F.hx F.hb d_Scene_pourOne_74 hl (k := 4) rfl (q_of_add _ _) (Nat.le_of_ble_eq_true rfl) rfl (fun ls hl => ?_)
          refine lv_goto (tgt := 5) F.hx F.hb d_Scene_pourOne_77 (by decide) ?_
          exact ih M q2 h3 (w32 (v3_ + 1)) (inr_w32 _) _ _ _ hS (lv_sub hl [3, 4, 1, 0] rfl) hT
        · replace hT := (if_pos c7).symm.trans hT
          exact k_Scene_pourOne_L38 l hlo k0 k1 x2 hk0 hk1 hx2 F hlk hr M v2_ hv2_ _ _ _ hS (lv_sub hl [1, 3] rfl) hT
set_option maxHeartbeats 4000000 in
set_option maxRecDepth 100000 in
theorem c_Scene_pourOne (l : Launch) {b n : Nat} {C : CT} (hlo : 191 ≤ n) (M : Mem) (k0 : Nat) (k1 : Nat) (x2 : Int) (hk0 : isScene k0) (hk1 : isTown k1) (hx2 : InR x2) (res : Mem × Int) (hT : t_Scene_pourOne M k0 k1 x2 = some res) : CM l b C n 3 y_Scene_pourOne b_Scene_pourOne 7 (some .boolean) [.ref (b + k0), .ref (b + k1), vI x2] M (QZ b C n res.1 res.2) := by
  refine CM.of (lo := 191) (ow := "WardFalls$Scene") (by decide) rfl (Nat.le_of_ble_eq_true rfl) hlo (fun p e s m below meth c F hlk hr hS ls hl => ?_)
  have hl : lv_has ls 7 [(0, .ref (b + k0)), (1, .ref (b + k1)), (2, vI x2)] := hl
  unfold t_Scene_pourOne at hT
  refine lv_iload_n F.hx F.hb d_Scene_pourOne_0 rfl (lv_at hl 2 rfl) ?_
  refine lv_istore_n (lv' := [(3, vI x2), (0, .ref (b + k0)), (1, .ref (b + k1)), (2, vI x2)]) F.hx F.hb d_Scene_pourOne_1 rfl hl (Nat.le_of_ble_eq_true rfl) rfl (fun ls hl => ?_)
  refine r_iconst F.hx F.hb d_Scene_pourOne_2 ?_
  refine lv_istore (lv' := [(4, vI 0), (3, vI x2), (0, .ref (b + k0)), (1, .ref (b + k1)), (2, vI x2)]) F.hx F.hb d_Scene_pourOne_3 hl (Nat.le_of_ble_eq_true rfl) rfl (fun ls hl => ?_)
  exact k_Scene_pourOne_L5 l hlo k0 k1 x2 hk0 hk1 hx2 F hlk hr FU M x2 hx2 0 (inr_c rfl) _ _ _ hS (lv_sub hl [2, 3, 1, 0] rfl) hT
theorem d_Scene_pourAnew_0 : decode b_Scene_pourAnew 0 = .ok (.aload_n 0, 1) := dc_42 (by decide +kernel)
theorem d_Scene_pourAnew_1 : decode b_Scene_pourAnew 1 = .ok (.getfield 50, 3) := dc_180 (by decide +kernel)
theorem d_Scene_pourAnew_4 : decode b_Scene_pourAnew 4 = .ok (.lstore_n 2, 1) := dc_65 (by decide +kernel)
theorem d_Scene_pourAnew_5 : decode b_Scene_pourAnew 5 = .ok (.aload_n 0, 1) := dc_42 (by decide +kernel)
theorem d_Scene_pourAnew_6 : decode b_Scene_pourAnew 6 = .ok (.lconst 0, 1) := dc_9 (by decide +kernel)
theorem d_Scene_pourAnew_7 : decode b_Scene_pourAnew 7 = .ok (.putfield 50, 3) := dc_181 (by decide +kernel)
theorem d_Scene_pourAnew_10 : decode b_Scene_pourAnew 10 = .ok (.iconst 0, 1) := dc_3 (by decide +kernel)
theorem d_Scene_pourAnew_11 : decode b_Scene_pourAnew 11 = .ok (.istore 4, 2) := dc_54 (by decide +kernel)
theorem d_Scene_pourAnew_13 : decode b_Scene_pourAnew 13 = .ok (.iload 4, 2) := dc_21 (by decide +kernel)
theorem d_Scene_pourAnew_15 : decode b_Scene_pourAnew 15 = .ok (.aload_n 1, 1) := dc_43 (by decide +kernel)
theorem d_Scene_pourAnew_16 : decode b_Scene_pourAnew 16 = .ok (.getfield 97, 3) := dc_180 (by decide +kernel)
theorem d_Scene_pourAnew_19 : decode b_Scene_pourAnew 19 = .ok (.if_icmp .ge 27, 3) := dc_162 (by decide +kernel)
theorem d_Scene_pourAnew_22 : decode b_Scene_pourAnew 22 = .ok (.lload_n 2, 1) := dc_32 (by decide +kernel)
theorem d_Scene_pourAnew_23 : decode b_Scene_pourAnew 23 = .ok (.iload 4, 2) := dc_21 (by decide +kernel)
theorem d_Scene_pourAnew_25 : decode b_Scene_pourAnew 25 = .ok (.invokestatic 60, 3) := dc_184 (by decide +kernel)
theorem d_Scene_pourAnew_28 : decode b_Scene_pourAnew 28 = .ok (.iconst 1, 1) := dc_4 (by decide +kernel)
theorem d_Scene_pourAnew_29 : decode b_Scene_pourAnew 29 = .ok (.if_icmp .ne 11, 3) := dc_160 (by decide +kernel)
theorem d_Scene_pourAnew_32 : decode b_Scene_pourAnew 32 = .ok (.aload_n 0, 1) := dc_42 (by decide +kernel)
theorem d_Scene_pourAnew_33 : decode b_Scene_pourAnew 33 = .ok (.aload_n 1, 1) := dc_43 (by decide +kernel)
theorem d_Scene_pourAnew_34 : decode b_Scene_pourAnew 34 = .ok (.iload 4, 2) := dc_21 (by decide +kernel)
theorem d_Scene_pourAnew_36 : decode b_Scene_pourAnew 36 = .ok (.invokevirtual 100, 3) := dc_182 (by decide +kernel)
theorem d_Scene_pourAnew_39 : decode b_Scene_pourAnew 39 = .ok (.pop, 1) := dc_87 (by decide +kernel)
theorem d_Scene_pourAnew_40 : decode b_Scene_pourAnew 40 = .ok (.iinc 4 1, 3) := dc_132 (by decide +kernel)
theorem d_Scene_pourAnew_43 : decode b_Scene_pourAnew 43 = .ok (.goto (-30), 3) := dc_167 (by decide +kernel)
theorem d_Scene_pourAnew_46 : decode b_Scene_pourAnew 46 = .ok (.return_, 1) := dc_177 (by decide +kernel)
def t_Scene_pourAnew_L40 (k0 : Nat) (k1 : Nat) (bk13 : Mem → Int64 → Int → Option (Mem)) (M : Mem) (v2_ : Int64) (v3_ : Int) : Option (Mem) := (bk13 M v2_ (w32 (v3_ + 1)))
def t_Scene_pourAnew_L13 (k0 : Nat) (k1 : Nat)  : Nat → Mem → Int64 → Int → Option (Mem)
  | 0, _, _, _ => none
  | fu + 1, M, v2_, v3_ => (if (M.1 k1 13) ≤ v3_ then (some M) else (qlet (t_WF_bitOf M v2_ v3_) fun q4 => (if q4 = 1 then (obind (t_Scene_pourOne M k0 k1 v3_) fun q7 => (t_Scene_pourAnew_L40 k0 k1 (fun a0_ a1_ a2_ => t_Scene_pourAnew_L13 k0 k1 fu a0_ a1_ a2_) (q7.1) v2_ v3_)) else (t_Scene_pourAnew_L40 k0 k1 (fun a0_ a1_ a2_ => t_Scene_pourAnew_L13 k0 k1 fu a0_ a1_ a2_) M v2_ v3_))))
def t_Scene_pourAnew (M : Mem) (k0 : Nat) (k1 : Nat) : Option (Mem) := (qlet (setL M k0 6 0) fun M1 => (t_Scene_pourAnew_L13 k0 k1 FU M1 (M.2 k0 6) 0))
set_option maxHeartbeats 4000000 in
set_option maxRecDepth 100000 in
theorem k_Scene_pourAnew_L40 (l : Launch) {p : Program} {e : Env} {s : State} {m : MethodId} {below : List Frame} {meth : Method} {c : Code} {b n : Nat} {C : CT} (hlo : 191 ≤ n) (k0 : Nat) (k1 : Nat) (hk0 : isScene k0) (hk1 : isTown k1) (F : Cx b p m c b_Scene_pourAnew 5 s ([.ref (b + k0), .ref (b + k1)] : List Value).toArray "WardFalls$Scene" C n 191) (hlk : meth.locks = false) (hr : meth.sig.returnType = none) {res : Mem} (bk13 : Mem → Int64 → Int → Option (Mem)) (hbk13 : ∀ (M : Mem) (v2_ : Int64) (v3_ : Int) (hv3_ : InR v3_) (H : Heap) (locs : List Loc) (ls : Array Slot), St b C n M s H locs → lv_has ls 5 [(0, .ref (b + k0)), (1, .ref (b + k1)), (2, .long v2_), (4, vI v3_)] → bk13 M v2_ v3_ = some res → W p l e (headSpec (wsM y_Scene_pourAnew b_Scene_pourAnew 5 (none)) (rmD 4)).room s m ([.ref (b + k0), .ref (b + k1)] : List Value).toArray below meth c H locs 0 0 (MQ below (QV b C n res) ([.ref (b + k0), .ref (b + k1)] : List Value).toArray s 0 0 (frb b)) (F0 m 13 ls [])) (M : Mem) (v2_ : Int64) (v3_ : Int) (hv3_ : InR v3_) (H : Heap) (locs : List Loc) (ls : Array Slot) (hS : St b C n M s H locs) (hl : lv_has ls 5 [(0, .ref (b + k0)), (1, .ref (b + k1)), (2, .long v2_), (4, vI v3_)]) (hT : t_Scene_pourAnew_L40 k0 k1 bk13 M v2_ v3_ = some res) : W p l e (headSpec (wsM y_Scene_pourAnew b_Scene_pourAnew 5 (none)) (rmD 4)).room s m ([.ref (b + k0), .ref (b + k1)] : List Value).toArray below meth c H locs 0 0 (MQ below (QV b C n res) ([.ref (b + k0), .ref (b + k1)] : List Value).toArray s 0 0 (frb b)) (F0 m 40 ls []) := by
  unfold t_Scene_pourAnew_L40 at hT
  refine lv_iinc (v := Int32.ofInt (w32 (v3_ + 1))) (lv' := [(4, vI (w32 (v3_ + 1))), (0, .ref (b + k0)), (1, .ref (b + k1)), (2, .long v2_)]) F.hx F.hb d_Scene_pourAnew_40 hl (k := 3) rfl (q_of_add _ _) (Nat.le_of_ble_eq_true rfl) rfl (fun ls hl => ?_)
  refine lv_goto (tgt := 13) F.hx F.hb d_Scene_pourAnew_43 (by decide) ?_
  exact hbk13 M v2_ (w32 (v3_ + 1)) (inr_w32 _) _ _ _ hS (lv_sub hl [1, 2, 3, 0] rfl) hT
set_option maxHeartbeats 4000000 in
set_option maxRecDepth 100000 in
theorem k_Scene_pourAnew_L13 (l : Launch) {p : Program} {e : Env} {s : State} {m : MethodId} {below : List Frame} {meth : Method} {c : Code} {b n : Nat} {C : CT} (hlo : 191 ≤ n) (k0 : Nat) (k1 : Nat) (hk0 : isScene k0) (hk1 : isTown k1) (F : Cx b p m c b_Scene_pourAnew 5 s ([.ref (b + k0), .ref (b + k1)] : List Value).toArray "WardFalls$Scene" C n 191) (hlk : meth.locks = false) (hr : meth.sig.returnType = none) {res : Mem} : ∀ (fu : Nat) (M : Mem) (v2_ : Int64) (v3_ : Int) (hv3_ : InR v3_) (H : Heap) (locs : List Loc) (ls : Array Slot), St b C n M s H locs → lv_has ls 5 [(0, .ref (b + k0)), (1, .ref (b + k1)), (2, .long v2_), (4, vI v3_)] → t_Scene_pourAnew_L13 k0 k1 fu M v2_ v3_ = some res → W p l e (headSpec (wsM y_Scene_pourAnew b_Scene_pourAnew 5 (none)) (rmD 4)).room s m ([.ref (b + k0), .ref (b + k1)] : List Value).toArray below meth c H locs 0 0 (MQ below (QV b C n res) ([.ref (b + k0), .ref (b + k1)] : List Value).toArray s 0 0 (frb b)) (F0 m 13 ls []) := by
  intro fu
  induction fu with
  | zero => intro M v2_ v3_ hv3_ H locs ls hS hl hT; exact absurd hT (by simp [t_Scene_pourAnew_L13])
  | succ fu ih =>
    intro M v2_ v3_ hv3_ H locs ls hS hl hT
    rw [t_Scene_pourAnew_L13] at hT
    refine lv_iload F.hx F.hb d_Scene_pourAnew_13 (lv_at hl 3 rfl) ?_
    refine lv_aload_n F.hx F.hb d_Scene_pourAnew_15 rfl (lv_at hl 1 rfl) ?_
    refine r_get (v := vI (M.1 k1 13)) (N := 20) (T := T11) (j := 13) F hS (Town_lt hk1) (Town_sh hk1) (Town_N hk1) rfl (Nat.le_of_ble_eq_true rfl) ing11 mw_131 (fv_int rfl) d_Scene_pourAnew_16 ?_
    have i2 := hS.rng k1 13
    refine r_icmp_ge (tgt := 46) F.hx F.hb hv3_ i2 d_Scene_pourAnew_19 (by decide) (fun c3 => ?_) (fun c3 => ?_)
    · replace hT := (if_pos c3).symm.trans hT
      cases hT
      exact r_vret F hlk hr hS d_Scene_pourAnew_46
    · replace hT := (if_neg c3).symm.trans hT
      refine lv_lload_n F.hx F.hb d_Scene_pourAnew_22 rfl (lv_at hl 2 rfl) ?_
      refine lv_iload F.hx F.hb d_Scene_pourAnew_23 (lv_at hl 3 rfl) ?_
      obtain ⟨q4, hq4⟩ : ∃ q, q = (t_WF_bitOf M v2_ v3_) := ⟨_, rfl⟩
      replace hT := qlet_eq hT hq4
      refine r_backI F hS (r_runSN (As := [.long v2_, vI v3_]) F hS (c_WF_bitOf l F.2.2.1 M v2_ v3_ hv3_ _ hq4.symm) mw_773 mw_772 mw_1 gs_Scene_60 hd_WF_bitOf ⟨Nat.le_of_ble_eq_true rfl, Nat.le_of_ble_eq_true rfl⟩ rfl hl.1 (Nat.le_of_ble_eq_true rfl) ⟨Nat.zero_le _, Nat.zero_le _⟩ rfl d_Scene_pourAnew_25) (fun H locs hS h5 => ?_)
      refine r_iconst F.hx F.hb d_Scene_pourAnew_28 ?_
      refine r_icmp_ne (tgt := 40) F.hx F.hb h5 (inr_c rfl) d_Scene_pourAnew_29 (by decide) (fun c6 => ?_) (fun c6 => ?_)
      · replace hT := (if_neg c6).symm.trans hT
        exact k_Scene_pourAnew_L40 l hlo k0 k1 hk0 hk1 F hlk hr (fun a0_ a1_ a2_ => t_Scene_pourAnew_L13 k0 k1 fu a0_ a1_ a2_) ih M v2_ v3_ hv3_ _ _ _ hS (lv_sub hl [0, 1, 2, 3] rfl) hT
      · replace hT := (if_pos c6).symm.trans hT
        refine lv_aload_n F.hx F.hb d_Scene_pourAnew_32 rfl (lv_at hl 0 rfl) ?_
        refine lv_aload_n F.hx F.hb d_Scene_pourAnew_33 rfl (lv_at hl 1 rfl) ?_
        refine lv_iload F.hx F.hb d_Scene_pourAnew_34 (lv_at hl 3 rfl) ?_
        obtain ⟨q7, hq7, hT⟩ := q_obind hT
        refine r_backZ F hS (r_runV (k := k0) (N := 7) (T := T9) (As := [.ref (b + k1), vI v3_]) F hS (Scene_lt hk0) (Scene_sh hk0) rfl (c_Scene_pourOne l F.2.2.1 M k0 k1 v3_ hk0 hk1 hv3_ _ hq7) gs_Scene_100 hd_Scene_pourOne ⟨Nat.le_of_ble_eq_true rfl, Nat.le_of_ble_eq_true rfl⟩ rfl hl.1 (Nat.le_of_ble_eq_true rfl) ⟨Nat.zero_le _, Nat.zero_le _⟩ rfl d_Scene_pourAnew_36) (fun H locs hS h8 => ?_)
        refine lv_pop F.hx F.hb d_Scene_pourAnew_39 rfl ?_
        exact k_Scene_pourAnew_L40 l hlo k0 k1 hk0 hk1 F hlk hr (fun a0_ a1_ a2_ => t_Scene_pourAnew_L13 k0 k1 fu a0_ a1_ a2_) ih (q7.1) v2_ v3_ hv3_ _ _ _ hS (lv_sub hl [0, 1, 2, 3] rfl) hT
set_option maxHeartbeats 4000000 in
set_option maxRecDepth 100000 in
theorem c_Scene_pourAnew (l : Launch) {b n : Nat} {C : CT} (hlo : 191 ≤ n) (M : Mem) (k0 : Nat) (k1 : Nat) (hk0 : isScene k0) (hk1 : isTown k1) (res : Mem) (hT : t_Scene_pourAnew M k0 k1 = some res) : CM l b C n 4 y_Scene_pourAnew b_Scene_pourAnew 5 (none) [.ref (b + k0), .ref (b + k1)] M (QV b C n res) := by
  refine CM.of (lo := 191) (ow := "WardFalls$Scene") (by decide) rfl (Nat.le_of_ble_eq_true rfl) hlo (fun p e s m below meth c F hlk hr hS ls hl => ?_)
  have hl : lv_has ls 5 [(0, .ref (b + k0)), (1, .ref (b + k1))] := hl
  unfold t_Scene_pourAnew at hT
  refine lv_aload_n F.hx F.hb d_Scene_pourAnew_0 rfl (lv_at hl 0 rfl) ?_
  refine r_get (v := .long (M.2 k0 6)) (N := 7) (T := T9) (j := 6) F hS (Scene_lt hk0) (Scene_sh hk0) (Scene_N hk0) rfl (Nat.le_of_ble_eq_true rfl) ing9 mw_291 (fv_long rfl) d_Scene_pourAnew_1 ?_
  refine lv_lstore_n (lv' := [(2, .long (M.2 k0 6)), (0, .ref (b + k0)), (1, .ref (b + k1))]) F.hx F.hb d_Scene_pourAnew_4 rfl hl (Nat.le_of_ble_eq_true rfl) rfl (fun ls hl => ?_)
  refine lv_aload_n F.hx F.hb d_Scene_pourAnew_5 rfl (lv_at hl 1 rfl) ?_
  refine lv_lconst (v := 0) F.hx F.hb d_Scene_pourAnew_6 rfl ?_
  refine r_putL (N := 7) (T := T9) (j := 6) F hS (Scene_lt hk0) (Scene_sh hk0) (Scene_N hk0) rfl (Nat.le_of_ble_eq_true rfl) ing9 tyok9 nm9 rfl rfl rfl mw_291 d_Scene_pourAnew_7 (fun H locs hS => ?_)
  obtain ⟨M1, eM1⟩ : ∃ q, q = (setL M k0 6 0) := ⟨_, rfl⟩
  replace hS : St b C n M1 s H locs := by rw [eM1]; exact hS
  replace hT := qlet_eq hT eM1
  refine r_iconst F.hx F.hb d_Scene_pourAnew_10 ?_
  refine lv_istore (lv' := [(4, vI 0), (2, .long (M.2 k0 6)), (0, .ref (b + k0)), (1, .ref (b + k1))]) F.hx F.hb d_Scene_pourAnew_11 hl (Nat.le_of_ble_eq_true rfl) rfl (fun ls hl => ?_)
  exact k_Scene_pourAnew_L13 l hlo k0 k1 hk0 hk1 F hlk hr FU M1 (M.2 k0 6) 0 (inr_c rfl) _ _ _ hS (lv_sub hl [2, 3, 1, 0] rfl) hT
theorem d_WF_vote_0 : decode b_WF_vote 0 = .ok (.aload_n 0, 1) := dc_42 (by decide +kernel)
theorem d_WF_vote_1 : decode b_WF_vote 1 = .ok (.getfield 22, 3) := dc_180 (by decide +kernel)
theorem d_WF_vote_4 : decode b_WF_vote 4 = .ok (.iload_n 1, 1) := dc_27 (by decide +kernel)
theorem d_WF_vote_5 : decode b_WF_vote 5 = .ok (.invokevirtual 198, 3) := dc_182 (by decide +kernel)
theorem d_WF_vote_8 : decode b_WF_vote 8 = .ok (.ifCond .eq 25, 3) := dc_153 (by decide +kernel)
theorem d_WF_vote_11 : decode b_WF_vote 11 = .ok (.iload_n 2, 1) := dc_28 (by decide +kernel)
theorem d_WF_vote_12 : decode b_WF_vote 12 = .ok (.invokestatic 284, 3) := dc_184 (by decide +kernel)
theorem d_WF_vote_15 : decode b_WF_vote 15 = .ok (.ifCond .eq 18, 3) := dc_153 (by decide +kernel)
theorem d_WF_vote_18 : decode b_WF_vote 18 = .ok (.aload_n 0, 1) := dc_42 (by decide +kernel)
theorem d_WF_vote_19 : decode b_WF_vote 19 = .ok (.getfield 46, 3) := dc_180 (by decide +kernel)
theorem d_WF_vote_22 : decode b_WF_vote 22 = .ok (.getfield 201, 3) := dc_180 (by decide +kernel)
theorem d_WF_vote_25 : decode b_WF_vote 25 = .ok (.iload_n 1, 1) := dc_27 (by decide +kernel)
theorem d_WF_vote_26 : decode b_WF_vote 26 = .ok (.invokestatic 204, 3) := dc_184 (by decide +kernel)
theorem d_WF_vote_29 : decode b_WF_vote 29 = .ok (.iload_n 2, 1) := dc_28 (by decide +kernel)
theorem d_WF_vote_30 : decode b_WF_vote 30 = .ok (.if_icmp .ne 5, 3) := dc_160 (by decide +kernel)
theorem d_WF_vote_33 : decode b_WF_vote 33 = .ok (.iconst 0, 1) := dc_3 (by decide +kernel)
theorem d_WF_vote_34 : decode b_WF_vote 34 = .ok (.ireturn, 1) := dc_172 (by decide +kernel)
theorem d_WF_vote_35 : decode b_WF_vote 35 = .ok (.aload_n 0, 1) := dc_42 (by decide +kernel)
theorem d_WF_vote_36 : decode b_WF_vote 36 = .ok (.getfield 69, 3) := dc_180 (by decide +kernel)
theorem d_WF_vote_39 : decode b_WF_vote 39 = .ok (.aload_n 0, 1) := dc_42 (by decide +kernel)
theorem d_WF_vote_40 : decode b_WF_vote 40 = .ok (.getfield 46, 3) := dc_180 (by decide +kernel)
theorem d_WF_vote_43 : decode b_WF_vote 43 = .ok (.invokevirtual 287, 3) := dc_182 (by decide +kernel)
theorem d_WF_vote_46 : decode b_WF_vote 46 = .ok (.aload_n 0, 1) := dc_42 (by decide +kernel)
theorem d_WF_vote_47 : decode b_WF_vote 47 = .ok (.getfield 46, 3) := dc_180 (by decide +kernel)
theorem d_WF_vote_50 : decode b_WF_vote 50 = .ok (.getfield 201, 3) := dc_180 (by decide +kernel)
theorem d_WF_vote_53 : decode b_WF_vote 53 = .ok (.iload_n 1, 1) := dc_27 (by decide +kernel)
theorem d_WF_vote_54 : decode b_WF_vote 54 = .ok (.iload_n 2, 1) := dc_28 (by decide +kernel)
theorem d_WF_vote_55 : decode b_WF_vote 55 = .ok (.invokestatic 291, 3) := dc_184 (by decide +kernel)
theorem d_WF_vote_58 : decode b_WF_vote 58 = .ok (.aload_n 0, 1) := dc_42 (by decide +kernel)
theorem d_WF_vote_59 : decode b_WF_vote 59 = .ok (.getfield 46, 3) := dc_180 (by decide +kernel)
theorem d_WF_vote_62 : decode b_WF_vote 62 = .ok (.aload_n 0, 1) := dc_42 (by decide +kernel)
theorem d_WF_vote_63 : decode b_WF_vote 63 = .ok (.getfield 22, 3) := dc_180 (by decide +kernel)
theorem d_WF_vote_66 : decode b_WF_vote 66 = .ok (.invokevirtual 295, 3) := dc_182 (by decide +kernel)
theorem d_WF_vote_69 : decode b_WF_vote 69 = .ok (.iconst 1, 1) := dc_4 (by decide +kernel)
theorem d_WF_vote_70 : decode b_WF_vote 70 = .ok (.ireturn, 1) := dc_172 (by decide +kernel)
def t_WF_vote (M : Mem) (x1 : Int) (x2 : Int) : Option (Mem × Int) := (qlet (t_Town_hasWard M ((M.1 0 4).toNat) x1) fun q2 => (if q2 = 0 then (some (M, 0)) else (qlet (t_WF_isDown M x2) fun q5 => (if q5 = 0 then (some (M, 0)) else (qlet (t_WF_look M 48 4 x1) fun q8 => (if q8 = x2 then (some (M, 0)) else (qlet (t_Past_remember M 47) fun q11 => (qlet (t_WF_put q11 48 4 x1 x2) fun q13 => (obind (t_Scene_pourAnew q13 47 ((q13.1 0 4).toNat)) fun q16 => (some (q16, 1)))))))))))
set_option maxHeartbeats 4000000 in
set_option maxRecDepth 100000 in
theorem c_WF_vote (l : Launch) {b n : Nat} {C : CT} (hlo : 191 ≤ n) (M : Mem) (x1 : Int) (x2 : Int) (hx1 : InR x1) (hx2 : InR x2) (res : Mem × Int) (hT : t_WF_vote M x1 x2 = some res) : CM l b C n 5 y_WF_vote b_WF_vote 3 (some .boolean) [.ref (b + 0), vI x1, vI x2] M (QZ b C n res.1 res.2) := by
  refine CM.of (lo := 191) (ow := "WardFalls") (by decide) rfl (Nat.le_of_ble_eq_true rfl) hlo (fun p e s m below meth c F hlk hr hS ls hl => ?_)
  have hl : lv_has ls 3 [(0, .ref (b + 0)), (1, vI x1), (2, vI x2)] := hl
  unfold t_WF_vote at hT
  refine lv_aload_n F.hx F.hb d_WF_vote_0 rfl (lv_at hl 0 rfl) ?_
  have h1 := St_town hS
  refine r_get (v := .ref (b + ((M.1 0 4).toNat))) (N := 19) (T := T0) (j := 4) F hS (show 0 < 191 by decide) (show shK 0 = 4 from rfl) (show shN 0 = 19 from rfl) rfl (Nat.le_of_ble_eq_true rfl) ing0 mw_554 (fv_town hS) d_WF_vote_1 ?_
  refine lv_iload_n F.hx F.hb d_WF_vote_4 rfl (lv_at hl 1 rfl) ?_
  obtain ⟨q2, hq2⟩ : ∃ q, q = (t_Town_hasWard M ((M.1 0 4).toNat) x1) := ⟨_, rfl⟩
  replace hT := qlet_eq hT hq2
  refine r_backZ F hS (r_runV (k := ((M.1 0 4).toNat)) (N := 20) (T := T11) (As := [vI x1]) F hS (Town_lt h1) (Town_sh h1) rfl (c_Town_hasWard l F.2.2.1 M ((M.1 0 4).toNat) x1 h1 hx1 _ hq2.symm) gs_WF_198 hd_Town_hasWard ⟨Nat.le_of_ble_eq_true rfl, Nat.le_of_ble_eq_true rfl⟩ rfl hl.1 (Nat.le_of_ble_eq_true rfl) ⟨Nat.zero_le _, Nat.zero_le _⟩ rfl d_WF_vote_5) (fun H locs hS h3 => ?_)
  refine r_if_eq (tgt := 33) F.hx F.hb (inr_z h3) d_WF_vote_8 (by decide) (fun c4 => ?_) (fun c4 => ?_)
  · replace hT := (if_pos c4).symm.trans hT
    refine r_iconst F.hx F.hb d_WF_vote_33 ?_
    cases hT
    exact r_zret F hlk hr hS (Or.inl rfl) d_WF_vote_34
  · replace hT := (if_neg c4).symm.trans hT
    refine lv_iload_n F.hx F.hb d_WF_vote_11 rfl (lv_at hl 2 rfl) ?_
    obtain ⟨q5, hq5⟩ : ∃ q, q = (t_WF_isDown M x2) := ⟨_, rfl⟩
    replace hT := qlet_eq hT hq5
    refine r_backZ F hS (r_runS (As := [vI x2]) F hS (c_WF_isDown l F.2.2.1 M x2 hx2 _ hq5.symm) gs_WF_284 hd_WF_isDown ⟨Nat.le_of_ble_eq_true rfl, Nat.le_of_ble_eq_true rfl⟩ rfl hl.1 (Nat.le_of_ble_eq_true rfl) ⟨Nat.zero_le _, Nat.zero_le _⟩ rfl d_WF_vote_12) (fun H locs hS h6 => ?_)
    refine r_if_eq (tgt := 33) F.hx F.hb (inr_z h6) d_WF_vote_15 (by decide) (fun c7 => ?_) (fun c7 => ?_)
    · replace hT := (if_pos c7).symm.trans hT
      refine r_iconst F.hx F.hb d_WF_vote_33 ?_
      cases hT
      exact r_zret F hlk hr hS (Or.inl rfl) d_WF_vote_34
    · replace hT := (if_neg c7).symm.trans hT
      refine lv_aload_n F.hx F.hb d_WF_vote_18 rfl (lv_at hl 0 rfl) ?_
      refine r_get (v := .ref (b + 47)) (N := 19) (T := T0) (j := 8) F hS (show 0 < 191 by decide) (show shK 0 = 4 from rfl) (show shN 0 = 19 from rfl) rfl (Nat.le_of_ble_eq_true rfl) ing0 mw_558 (fv_sg rfl rfl rfl) d_WF_vote_19 ?_
      refine r_get (v := .ref (b + 48)) (N := 7) (T := T9) (j := 0) F hS (show 47 < 191 by decide) (show shK 47 = 13 from rfl) (show shN 47 = 7 from rfl) rfl (Nat.le_of_ble_eq_true rfl) ing9 mw_276 (fv_sg rfl rfl rfl) d_WF_vote_22 ?_
      refine lv_iload_n F.hx F.hb d_WF_vote_25 rfl (lv_at hl 1 rfl) ?_
      obtain ⟨q8, hq8⟩ : ∃ q, q = (t_WF_look M 48 4 x1) := ⟨_, rfl⟩
      replace hT := qlet_eq hT hq8
      refine r_backI F hS (r_runS (As := [.ref (b + 48), vI x1]) F hS (c_WF_look l F.2.2.1 M 48 4 x1 (show arrP 0 48 4 191 from ⟨rfl, rfl, by decide⟩) hx1 _ hq8.symm) gs_WF_204 hd_WF_look ⟨Nat.le_of_ble_eq_true rfl, Nat.le_of_ble_eq_true rfl⟩ rfl hl.1 (Nat.le_of_ble_eq_true rfl) ⟨Nat.zero_le _, Nat.zero_le _⟩ rfl d_WF_vote_26) (fun H locs hS h9 => ?_)
      refine lv_iload_n F.hx F.hb d_WF_vote_29 rfl (lv_at hl 2 rfl) ?_
      refine r_icmp_ne (tgt := 35) F.hx F.hb h9 hx2 d_WF_vote_30 (by decide) (fun c10 => ?_) (fun c10 => ?_)
      · replace hT := (if_neg c10).symm.trans hT
        refine lv_aload_n F.hx F.hb d_WF_vote_35 rfl (lv_at hl 0 rfl) ?_
        refine r_get (v := .ref (b + 70)) (N := 19) (T := T0) (j := 14) F hS (show 0 < 191 by decide) (show shK 0 = 4 from rfl) (show shN 0 = 19 from rfl) rfl (Nat.le_of_ble_eq_true rfl) ing0 mw_564 (fv_sg rfl rfl rfl) d_WF_vote_36 ?_
        refine lv_aload_n F.hx F.hb d_WF_vote_39 rfl (lv_at hl 0 rfl) ?_
        refine r_get (v := .ref (b + 47)) (N := 19) (T := T0) (j := 8) F hS (show 0 < 191 by decide) (show shK 0 = 4 from rfl) (show shN 0 = 19 from rfl) rfl (Nat.le_of_ble_eq_true rfl) ing0 mw_558 (fv_sg rfl rfl rfl) d_WF_vote_40 ?_
        obtain ⟨q11, hq11⟩ : ∃ q, q = (t_Past_remember M 47) := ⟨_, rfl⟩
        replace hT := qlet_eq hT hq11
        refine r_backV F hS (r_runV (k := 70) (N := 3) (T := T6) (As := [.ref (b + 47)]) F hS (show 70 < 191 by decide) (show shK 70 = 10 from rfl) rfl (c_Past_remember l F.2.2.1 M 47 (by decide : isScene 47) _ hq11.symm) gs_WF_287 hd_Past_remember ⟨Nat.le_of_ble_eq_true rfl, Nat.le_of_ble_eq_true rfl⟩ rfl hl.1 (Nat.le_of_ble_eq_true rfl) ⟨Nat.zero_le _, Nat.zero_le _⟩ rfl d_WF_vote_43) (fun H locs hS => ?_)
        refine lv_aload_n F.hx F.hb d_WF_vote_46 rfl (lv_at hl 0 rfl) ?_
        refine r_get (v := .ref (b + 47)) (N := 19) (T := T0) (j := 8) F hS (show 0 < 191 by decide) (show shK 0 = 4 from rfl) (show shN 0 = 19 from rfl) rfl (Nat.le_of_ble_eq_true rfl) ing0 mw_558 (fv_sg rfl rfl rfl) d_WF_vote_47 ?_
        refine r_get (v := .ref (b + 48)) (N := 7) (T := T9) (j := 0) F hS (show 47 < 191 by decide) (show shK 47 = 13 from rfl) (show shN 47 = 7 from rfl) rfl (Nat.le_of_ble_eq_true rfl) ing9 mw_276 (fv_sg rfl rfl rfl) d_WF_vote_50 ?_
        refine lv_iload_n F.hx F.hb d_WF_vote_53 rfl (lv_at hl 1 rfl) ?_
        refine lv_iload_n F.hx F.hb d_WF_vote_54 rfl (lv_at hl 2 rfl) ?_
        obtain ⟨q13, hq13⟩ : ∃ q, q = (t_WF_put q11 48 4 x1 x2) := ⟨_, rfl⟩
        replace hT := qlet_eq hT hq13
        refine r_backV F hS (r_runS (As := [.ref (b + 48), vI x1, vI x2]) F hS (c_WF_put l F.2.2.1 q11 48 4 x1 x2 (show arrP 0 48 4 191 from ⟨rfl, rfl, by decide⟩) hx1 hx2 _ hq13.symm) gs_WF_291 hd_WF_put ⟨Nat.le_of_ble_eq_true rfl, Nat.le_of_ble_eq_true rfl⟩ rfl hl.1 (Nat.le_of_ble_eq_true rfl) ⟨Nat.zero_le _, Nat.zero_le _⟩ rfl d_WF_vote_55) (fun H locs hS => ?_)
        refine lv_aload_n F.hx F.hb d_WF_vote_58 rfl (lv_at hl 0 rfl) ?_
        refine r_get (v := .ref (b + 47)) (N := 19) (T := T0) (j := 8) F hS (show 0 < 191 by decide) (show shK 0 = 4 from rfl) (show shN 0 = 19 from rfl) rfl (Nat.le_of_ble_eq_true rfl) ing0 mw_558 (fv_sg rfl rfl rfl) d_WF_vote_59 ?_
        refine lv_aload_n F.hx F.hb d_WF_vote_62 rfl (lv_at hl 0 rfl) ?_
        have h15 := St_town hS
        refine r_get (v := .ref (b + ((q13.1 0 4).toNat))) (N := 19) (T := T0) (j := 4) F hS (show 0 < 191 by decide) (show shK 0 = 4 from rfl) (show shN 0 = 19 from rfl) rfl (Nat.le_of_ble_eq_true rfl) ing0 mw_554 (fv_town hS) d_WF_vote_63 ?_
        obtain ⟨q16, hq16, hT⟩ := q_obind hT
        refine r_backV F hS (r_runV (k := 47) (N := 7) (T := T9) (As := [.ref (b + ((q13.1 0 4).toNat))]) F hS (show 47 < 191 by decide) (show shK 47 = 13 from rfl) rfl (c_Scene_pourAnew l F.2.2.1 q13 47 ((q13.1 0 4).toNat) (by decide : isScene 47) h15 _ hq16) gs_WF_295 hd_Scene_pourAnew ⟨Nat.le_of_ble_eq_true rfl, Nat.le_of_ble_eq_true rfl⟩ rfl hl.1 (Nat.le_of_ble_eq_true rfl) ⟨Nat.zero_le _, Nat.zero_le _⟩ rfl d_WF_vote_66) (fun H locs hS => ?_)
        refine r_iconst F.hx F.hb d_WF_vote_69 ?_
        cases hT
        exact r_zret F hlk hr hS (Or.inr rfl) d_WF_vote_70
      · replace hT := (if_pos c10).symm.trans hT
        refine r_iconst F.hx F.hb d_WF_vote_33 ?_
        cases hT
        exact r_zret F hlk hr hS (Or.inl rfl) d_WF_vote_34
theorem d_WF_net_0 : decode b_WF_net 0 = .ok (.aload_n 0, 1) := dc_42 (by decide +kernel)
theorem d_WF_net_1 : decode b_WF_net 1 = .ok (.iload_n 1, 1) := dc_27 (by decide +kernel)
theorem d_WF_net_2 : decode b_WF_net 2 = .ok (.invokevirtual 250, 3) := dc_182 (by decide +kernel)
theorem d_WF_net_5 : decode b_WF_net 5 = .ok (.ifCond .eq 27, 3) := dc_153 (by decide +kernel)
theorem d_WF_net_8 : decode b_WF_net 8 = .ok (.aload_n 0, 1) := dc_42 (by decide +kernel)
theorem d_WF_net_9 : decode b_WF_net 9 = .ok (.getfield 46, 3) := dc_180 (by decide +kernel)
theorem d_WF_net_12 : decode b_WF_net 12 = .ok (.getfield 176, 3) := dc_180 (by decide +kernel)
theorem d_WF_net_15 : decode b_WF_net 15 = .ok (.iload_n 1, 1) := dc_27 (by decide +kernel)
theorem d_WF_net_16 : decode b_WF_net 16 = .ok (.invokestatic 169, 3) := dc_184 (by decide +kernel)
theorem d_WF_net_19 : decode b_WF_net 19 = .ok (.iconst 1, 1) := dc_4 (by decide +kernel)
theorem d_WF_net_20 : decode b_WF_net 20 = .ok (.if_icmp .ne 7, 3) := dc_160 (by decide +kernel)
theorem d_WF_net_23 : decode b_WF_net 23 = .ok (.iconst 1, 1) := dc_4 (by decide +kernel)
theorem d_WF_net_24 : decode b_WF_net 24 = .ok (.goto 4, 3) := dc_167 (by decide +kernel)
theorem d_WF_net_27 : decode b_WF_net 27 = .ok (.iconst 0, 1) := dc_3 (by decide +kernel)
theorem d_WF_net_28 : decode b_WF_net 28 = .ok (.iload_n 2, 1) := dc_28 (by decide +kernel)
theorem d_WF_net_29 : decode b_WF_net 29 = .ok (.if_icmp .ne 5, 3) := dc_160 (by decide +kernel)
theorem d_WF_net_32 : decode b_WF_net 32 = .ok (.iconst 0, 1) := dc_3 (by decide +kernel)
theorem d_WF_net_33 : decode b_WF_net 33 = .ok (.ireturn, 1) := dc_172 (by decide +kernel)
theorem d_WF_net_34 : decode b_WF_net 34 = .ok (.aload_n 0, 1) := dc_42 (by decide +kernel)
theorem d_WF_net_35 : decode b_WF_net 35 = .ok (.getfield 69, 3) := dc_180 (by decide +kernel)
theorem d_WF_net_38 : decode b_WF_net 38 = .ok (.aload_n 0, 1) := dc_42 (by decide +kernel)
theorem d_WF_net_39 : decode b_WF_net 39 = .ok (.getfield 46, 3) := dc_180 (by decide +kernel)
theorem d_WF_net_42 : decode b_WF_net 42 = .ok (.invokevirtual 287, 3) := dc_182 (by decide +kernel)
theorem d_WF_net_45 : decode b_WF_net 45 = .ok (.aload_n 0, 1) := dc_42 (by decide +kernel)
theorem d_WF_net_46 : decode b_WF_net 46 = .ok (.getfield 46, 3) := dc_180 (by decide +kernel)
theorem d_WF_net_49 : decode b_WF_net 49 = .ok (.dup, 1) := dc_89 (by decide +kernel)
theorem d_WF_net_50 : decode b_WF_net 50 = .ok (.getfield 176, 3) := dc_180 (by decide +kernel)
theorem d_WF_net_53 : decode b_WF_net 53 = .ok (.lconst 1, 1) := dc_10 (by decide +kernel)
theorem d_WF_net_54 : decode b_WF_net 54 = .ok (.iload_n 1, 1) := dc_27 (by decide +kernel)
theorem d_WF_net_55 : decode b_WF_net 55 = .ok (.lshl, 1) := dc_121 (by decide +kernel)
theorem d_WF_net_56 : decode b_WF_net 56 = .ok (.lxor, 1) := dc_131 (by decide +kernel)
theorem d_WF_net_57 : decode b_WF_net 57 = .ok (.putfield 176, 3) := dc_181 (by decide +kernel)
theorem d_WF_net_60 : decode b_WF_net 60 = .ok (.aload_n 0, 1) := dc_42 (by decide +kernel)
theorem d_WF_net_61 : decode b_WF_net 61 = .ok (.getfield 83, 3) := dc_180 (by decide +kernel)
theorem d_WF_net_64 : decode b_WF_net 64 = .ok (.iconst 0, 1) := dc_3 (by decide +kernel)
theorem d_WF_net_65 : decode b_WF_net 65 = .ok (.putfield 280, 3) := dc_181 (by decide +kernel)
theorem d_WF_net_68 : decode b_WF_net 68 = .ok (.iconst 1, 1) := dc_4 (by decide +kernel)
theorem d_WF_net_69 : decode b_WF_net 69 = .ok (.ireturn, 1) := dc_172 (by decide +kernel)
def t_WF_net_L28 (x1 : Int) (x2 : Int)  (M : Mem) (v3_ : Int) : Mem × Int := (if v3_ = x2 then (M, 0) else (qlet (t_Past_remember M 47) fun q8 => (qlet (setL q8 47 5 ((q8.2 47 5) ^^^ (q_lshl 1 x1))) fun M10 => (qlet (setI M10 177 8 0) fun M11 => (M11, 1)))))
def t_WF_net (M : Mem) (x1 : Int) (x2 : Int) : Mem × Int := (qlet (t_WF_isFree M x1) fun q1 => (if q1 = 0 then (M, 0) else (qlet (t_WF_bitOf M (M.2 47 5) x1) fun q4 => (if q4 = 1 then (t_WF_net_L28 x1 x2 M 1) else (t_WF_net_L28 x1 x2 M 0)))))
set_option maxHeartbeats 4000000 in
set_option maxRecDepth 100000 in
theorem k_WF_net_L28 (l : Launch) {p : Program} {e : Env} {s : State} {m : MethodId} {below : List Frame} {meth : Method} {c : Code} {b n : Nat} {C : CT} (hlo : 191 ≤ n) (x1 : Int) (x2 : Int) (hx1 : InR x1) (hx2 : InR x2) (F : Cx b p m c b_WF_net 3 s ([.ref (b + 0), vI x1, vI x2] : List Value).toArray "WardFalls" C n 191) (hlk : meth.locks = false) (hr : meth.sig.returnType = some .boolean) {res : Mem × Int} (M : Mem) (v3_ : Int) (hv3_ : v3_ = 0 ∨ v3_ = 1) (H : Heap) (locs : List Loc) (ls : Array Slot) (hS : St b C n M s H locs) (hl : lv_has ls 3 [(0, .ref (b + 0)), (1, vI x1), (2, vI x2)]) (hT : t_WF_net_L28 x1 x2 M v3_ = res) : W p l e (headSpec (wsM y_WF_net b_WF_net 3 (some .boolean)) (rmD 5)).room s m ([.ref (b + 0), vI x1, vI x2] : List Value).toArray below meth c H locs 0 0 (MQ below (QZ b C n res.1 res.2) ([.ref (b + 0), vI x1, vI x2] : List Value).toArray s 0 0 (frb b)) (F0 m 28 ls [vI v3_]) := by
  unfold t_WF_net_L28 at hT
  refine lv_iload_n F.hx F.hb d_WF_net_28 rfl (lv_at hl 2 rfl) ?_
  refine r_icmp_ne (tgt := 34) F.hx F.hb (inr_z hv3_) hx2 d_WF_net_29 (by decide) (fun c7 => ?_) (fun c7 => ?_)
  · replace hT := (if_neg c7).symm.trans hT
    refine lv_aload_n F.hx F.hb d_WF_net_34 rfl (lv_at hl 0 rfl) ?_
    refine r_get (v := .ref (b + 70)) (N := 19) (T := T0) (j := 14) F hS (show 0 < 191 by decide) (show shK 0 = 4 from rfl) (show shN 0 = 19 from rfl) rfl (Nat.le_of_ble_eq_true rfl) ing0 mw_564 (fv_sg rfl rfl rfl) d_WF_net_35 ?_
    refine lv_aload_n F.hx F.hb d_WF_net_38 rfl (lv_at hl 0 rfl) ?_
    refine r_get (v := .ref (b + 47)) (N := 19) (T := T0) (j := 8) F hS (show 0 < 191 by decide) (show shK 0 = 4 from rfl) (show shN 0 = 19 from rfl) rfl (Nat.le_of_ble_eq_true rfl) ing0 mw_558 (fv_sg rfl rfl rfl) d_WF_net_39 ?_
    obtain ⟨q8, hq8⟩ : ∃ q, q = (t_Past_remember M 47) := ⟨_, rfl⟩
    replace hT := qlet_eq hT hq8
    refine r_backV F hS (r_runV (k := 70) (N := 3) (T := T6) (As := [.ref (b + 47)]) F hS (show 70 < 191 by decide) (show shK 70 = 10 from rfl) rfl (c_Past_remember l F.2.2.1 M 47 (by decide : isScene 47) _ hq8.symm) gs_WF_287 hd_Past_remember ⟨Nat.le_of_ble_eq_true rfl, Nat.le_of_ble_eq_true rfl⟩ rfl hl.1 (Nat.le_of_ble_eq_true rfl) ⟨Nat.zero_le _, Nat.zero_le _⟩ rfl d_WF_net_42) (fun H locs hS => ?_)
    refine lv_aload_n F.hx F.hb d_WF_net_45 rfl (lv_at hl 0 rfl) ?_
    refine r_get (v := .ref (b + 47)) (N := 19) (T := T0) (j := 8) F hS (show 0 < 191 by decide) (show shK 0 = 4 from rfl) (show shN 0 = 19 from rfl) rfl (Nat.le_of_ble_eq_true rfl) ing0 mw_558 (fv_sg rfl rfl rfl) d_WF_net_46 ?_
    refine lv_dup F.hx F.hb d_WF_net_49 rfl ?_
    refine r_get (v := .long (q8.2 47 5)) (N := 7) (T := T9) (j := 5) F hS (show 47 < 191 by decide) (show shK 47 = 13 from rfl) (show shN 47 = 7 from rfl) rfl (Nat.le_of_ble_eq_true rfl) ing9 mw_290 (fv_long rfl) d_WF_net_50 ?_
    refine lv_lconst (v := 1) F.hx F.hb d_WF_net_53 rfl ?_
    refine lv_iload_n F.hx F.hb d_WF_net_54 rfl (lv_at hl 1 rfl) ?_
    refine r_lshl F.hx F.hb d_WF_net_55 ?_
    refine lv_lxor F.hx F.hb d_WF_net_56 ?_
    refine r_putL (N := 7) (T := T9) (j := 5) F hS (show 47 < 191 by decide) (show shK 47 = 13 from rfl) (show shN 47 = 7 from rfl) rfl (Nat.le_of_ble_eq_true rfl) ing9 tyok9 nm9 rfl rfl rfl mw_290 d_WF_net_57 (fun H locs hS => ?_)
    obtain ⟨M10, eM10⟩ : ∃ q, q = (setL q8 47 5 ((q8.2 47 5) ^^^ (q_lshl 1 x1))) := ⟨_, rfl⟩
    replace hS : St b C n M10 s H locs := by rw [eM10]; exact hS
    replace hT := qlet_eq hT eM10
    refine lv_aload_n F.hx F.hb d_WF_net_60 rfl (lv_at hl 0 rfl) ?_
    refine r_get (v := .ref (b + 177)) (N := 19) (T := T0) (j := 16) F hS (show 0 < 191 by decide) (show shK 0 = 4 from rfl) (show shN 0 = 19 from rfl) rfl (Nat.le_of_ble_eq_true rfl) ing0 mw_566 (fv_sg rfl rfl rfl) d_WF_net_61 ?_
    refine r_iconst F.hx F.hb d_WF_net_64 ?_
    refine r_putI (N := 9) (T := T4) (j := 8) F hS (show 177 < 191 by decide) (show shK 177 = 8 from rfl) (show shN 177 = 9 from rfl) rfl (Nat.le_of_ble_eq_true rfl) ing4 tyok4 nm4 rfl rfl (nar_z (Or.inl rfl)) (fit_z (Or.inl rfl)) rfl rfl mw_448 (inr_c rfl) d_WF_net_65 (fun H locs hS => ?_)
    obtain ⟨M11, eM11⟩ : ∃ q, q = (setI M10 177 8 0) := ⟨_, rfl⟩
    replace hS : St b C n M11 s H locs := by rw [eM11]; exact hS
    replace hT := qlet_eq hT eM11
    refine r_iconst F.hx F.hb d_WF_net_68 ?_
    subst hT
    exact r_zret F hlk hr hS (Or.inr rfl) d_WF_net_69
  · replace hT := (if_pos c7).symm.trans hT
    refine r_iconst F.hx F.hb d_WF_net_32 ?_
    subst hT
    exact r_zret F hlk hr hS (Or.inl rfl) d_WF_net_33
set_option maxHeartbeats 4000000 in
set_option maxRecDepth 100000 in
theorem c_WF_net (l : Launch) {b n : Nat} {C : CT} (hlo : 191 ≤ n) (M : Mem) (x1 : Int) (x2 : Int) (hx1 : InR x1) (hx2 : InR x2) (res : Mem × Int) (hT : t_WF_net M x1 x2 = res) : CM l b C n 5 y_WF_net b_WF_net 3 (some .boolean) [.ref (b + 0), vI x1, vI x2] M (QZ b C n res.1 res.2) := by
  refine CM.of (lo := 191) (ow := "WardFalls") (by decide) rfl (Nat.le_of_ble_eq_true rfl) hlo (fun p e s m below meth c F hlk hr hS ls hl => ?_)
  have hl : lv_has ls 3 [(0, .ref (b + 0)), (1, vI x1), (2, vI x2)] := hl
  unfold t_WF_net at hT
  refine lv_aload_n F.hx F.hb d_WF_net_0 rfl (lv_at hl 0 rfl) ?_
  refine lv_iload_n F.hx F.hb d_WF_net_1 rfl (lv_at hl 1 rfl) ?_
  obtain ⟨q1, hq1⟩ : ∃ q, q = (t_WF_isFree M x1) := ⟨_, rfl⟩
  replace hT := qlet_eq hT hq1
  refine r_backZ F hS (r_runV (k := 0) (N := 19) (T := T0) (As := [vI x1]) F hS (show 0 < 191 by decide) (show shK 0 = 4 from rfl) rfl (c_WF_isFree l F.2.2.1 M x1 hx1 _ hq1.symm) gs_WF_250 hd_WF_isFree ⟨Nat.le_of_ble_eq_true rfl, Nat.le_of_ble_eq_true rfl⟩ rfl hl.1 (Nat.le_of_ble_eq_true rfl) ⟨Nat.zero_le _, Nat.zero_le _⟩ rfl d_WF_net_2) (fun H locs hS h2 => ?_)
  refine r_if_eq (tgt := 32) F.hx F.hb (inr_z h2) d_WF_net_5 (by decide) (fun c3 => ?_) (fun c3 => ?_)
  · replace hT := (if_pos c3).symm.trans hT
    refine r_iconst F.hx F.hb d_WF_net_32 ?_
    subst hT
    exact r_zret F hlk hr hS (Or.inl rfl) d_WF_net_33
  · replace hT := (if_neg c3).symm.trans hT
    refine lv_aload_n F.hx F.hb d_WF_net_8 rfl (lv_at hl 0 rfl) ?_
    refine r_get (v := .ref (b + 47)) (N := 19) (T := T0) (j := 8) F hS (show 0 < 191 by decide) (show shK 0 = 4 from rfl) (show shN 0 = 19 from rfl) rfl (Nat.le_of_ble_eq_true rfl) ing0 mw_558 (fv_sg rfl rfl rfl) d_WF_net_9 ?_
    refine r_get (v := .long (M.2 47 5)) (N := 7) (T := T9) (j := 5) F hS (show 47 < 191 by decide) (show shK 47 = 13 from rfl) (show shN 47 = 7 from rfl) rfl (Nat.le_of_ble_eq_true rfl) ing9 mw_290 (fv_long rfl) d_WF_net_12 ?_
    refine lv_iload_n F.hx F.hb d_WF_net_15 rfl (lv_at hl 1 rfl) ?_
    obtain ⟨q4, hq4⟩ : ∃ q, q = (t_WF_bitOf M (M.2 47 5) x1) := ⟨_, rfl⟩
    replace hT := qlet_eq hT hq4
    refine r_backI F hS (r_runS (As := [.long (M.2 47 5), vI x1]) F hS (c_WF_bitOf l F.2.2.1 M (M.2 47 5) x1 hx1 _ hq4.symm) gs_WF_169 hd_WF_bitOf ⟨Nat.le_of_ble_eq_true rfl, Nat.le_of_ble_eq_true rfl⟩ rfl hl.1 (Nat.le_of_ble_eq_true rfl) ⟨Nat.zero_le _, Nat.zero_le _⟩ rfl d_WF_net_16) (fun H locs hS h5 => ?_)
    refine r_iconst F.hx F.hb d_WF_net_19 ?_
    refine r_icmp_ne (tgt := 27) F.hx F.hb h5 (inr_c rfl) d_WF_net_20 (by decide) (fun c6 => ?_) (fun c6 => ?_)
    · replace hT := (if_neg c6).symm.trans hT
      refine r_iconst F.hx F.hb d_WF_net_27 ?_
      exact k_WF_net_L28 l hlo x1 x2 hx1 hx2 F hlk hr M 0 (Or.inl rfl) _ _ _ hS (lv_sub hl [0, 1, 2] rfl) hT
    · replace hT := (if_pos c6).symm.trans hT
      refine r_iconst F.hx F.hb d_WF_net_23 ?_
      refine lv_goto (tgt := 28) F.hx F.hb d_WF_net_24 (by decide) ?_
      exact k_WF_net_L28 l hlo x1 x2 hx1 hx2 F hlk hr M 1 (Or.inr rfl) _ _ _ hS (lv_sub hl [0, 1, 2] rfl) hT
theorem d_WF_lay_0 : decode b_WF_lay 0 = .ok (.aload_n 0, 1) := dc_42 (by decide +kernel)
theorem d_WF_lay_1 : decode b_WF_lay 1 = .ok (.getfield 22, 3) := dc_180 (by decide +kernel)
theorem d_WF_lay_4 : decode b_WF_lay 4 = .ok (.iload_n 1, 1) := dc_27 (by decide +kernel)
theorem d_WF_lay_5 : decode b_WF_lay 5 = .ok (.invokevirtual 225, 3) := dc_182 (by decide +kernel)
theorem d_WF_lay_8 : decode b_WF_lay 8 = .ok (.ifCond .eq 26, 3) := dc_153 (by decide +kernel)
theorem d_WF_lay_11 : decode b_WF_lay 11 = .ok (.aload_n 0, 1) := dc_42 (by decide +kernel)
theorem d_WF_lay_12 : decode b_WF_lay 12 = .ok (.iload_n 2, 1) := dc_28 (by decide +kernel)
theorem d_WF_lay_13 : decode b_WF_lay 13 = .ok (.invokevirtual 250, 3) := dc_182 (by decide +kernel)
theorem d_WF_lay_16 : decode b_WF_lay 16 = .ok (.ifCond .eq 18, 3) := dc_153 (by decide +kernel)
theorem d_WF_lay_19 : decode b_WF_lay 19 = .ok (.aload_n 0, 1) := dc_42 (by decide +kernel)
theorem d_WF_lay_20 : decode b_WF_lay 20 = .ok (.getfield 46, 3) := dc_180 (by decide +kernel)
theorem d_WF_lay_23 : decode b_WF_lay 23 = .ok (.aload_n 0, 1) := dc_42 (by decide +kernel)
theorem d_WF_lay_24 : decode b_WF_lay 24 = .ok (.getfield 22, 3) := dc_180 (by decide +kernel)
theorem d_WF_lay_27 : decode b_WF_lay 27 = .ok (.iload_n 2, 1) := dc_28 (by decide +kernel)
theorem d_WF_lay_28 : decode b_WF_lay 28 = .ok (.invokevirtual 182, 3) := dc_182 (by decide +kernel)
theorem d_WF_lay_31 : decode b_WF_lay 31 = .ok (.ifCond .lt 5, 3) := dc_155 (by decide +kernel)
theorem d_WF_lay_34 : decode b_WF_lay 34 = .ok (.iconst 0, 1) := dc_3 (by decide +kernel)
theorem d_WF_lay_35 : decode b_WF_lay 35 = .ok (.ireturn, 1) := dc_172 (by decide +kernel)
theorem d_WF_lay_36 : decode b_WF_lay 36 = .ok (.aload_n 0, 1) := dc_42 (by decide +kernel)
theorem d_WF_lay_37 : decode b_WF_lay 37 = .ok (.getfield 69, 3) := dc_180 (by decide +kernel)
theorem d_WF_lay_40 : decode b_WF_lay 40 = .ok (.aload_n 0, 1) := dc_42 (by decide +kernel)
theorem d_WF_lay_41 : decode b_WF_lay 41 = .ok (.getfield 46, 3) := dc_180 (by decide +kernel)
theorem d_WF_lay_44 : decode b_WF_lay 44 = .ok (.invokevirtual 287, 3) := dc_182 (by decide +kernel)
theorem d_WF_lay_47 : decode b_WF_lay 47 = .ok (.aload_n 0, 1) := dc_42 (by decide +kernel)
theorem d_WF_lay_48 : decode b_WF_lay 48 = .ok (.getfield 46, 3) := dc_180 (by decide +kernel)
theorem d_WF_lay_51 : decode b_WF_lay 51 = .ok (.getfield 228, 3) := dc_180 (by decide +kernel)
theorem d_WF_lay_54 : decode b_WF_lay 54 = .ok (.iload_n 1, 1) := dc_27 (by decide +kernel)
theorem d_WF_lay_55 : decode b_WF_lay 55 = .ok (.iload_n 2, 1) := dc_28 (by decide +kernel)
theorem d_WF_lay_56 : decode b_WF_lay 56 = .ok (.invokestatic 291, 3) := dc_184 (by decide +kernel)
theorem d_WF_lay_59 : decode b_WF_lay 59 = .ok (.aload_n 0, 1) := dc_42 (by decide +kernel)
theorem d_WF_lay_60 : decode b_WF_lay 60 = .ok (.getfield 83, 3) := dc_180 (by decide +kernel)
theorem d_WF_lay_63 : decode b_WF_lay 63 = .ok (.iconst 0, 1) := dc_3 (by decide +kernel)
theorem d_WF_lay_64 : decode b_WF_lay 64 = .ok (.putfield 280, 3) := dc_181 (by decide +kernel)
theorem d_WF_lay_67 : decode b_WF_lay 67 = .ok (.iconst 1, 1) := dc_4 (by decide +kernel)
theorem d_WF_lay_68 : decode b_WF_lay 68 = .ok (.ireturn, 1) := dc_172 (by decide +kernel)
def t_WF_lay (M : Mem) (x1 : Int) (x2 : Int) : Option (Mem × Int) := (qlet (t_Town_hasThing M ((M.1 0 4).toNat) x1) fun q2 => (if q2 = 0 then (some (M, 0)) else (qlet (t_WF_isFree M x2) fun q5 => (if q5 = 0 then (some (M, 0)) else (obind (t_Scene_thingIn M 47 ((M.1 0 4).toNat) x2) fun q9 => (if q9 < 0 then (qlet (t_Past_remember M 47) fun q12 => (qlet (t_WF_put q12 49 8 x1 x2) fun q14 => (qlet (setI q14 177 8 0) fun M16 => (some (M16, 1))))) else (some (M, 0))))))))
set_option maxHeartbeats 4000000 in
set_option maxRecDepth 100000 in
theorem c_WF_lay (l : Launch) {b n : Nat} {C : CT} (hlo : 191 ≤ n) (M : Mem) (x1 : Int) (x2 : Int) (hx1 : InR x1) (hx2 : InR x2) (res : Mem × Int) (hT : t_WF_lay M x1 x2 = some res) : CM l b C n 5 y_WF_lay b_WF_lay 3 (some .boolean) [.ref (b + 0), vI x1, vI x2] M (QZ b C n res.1 res.2) := by
  refine CM.of (lo := 191) (ow := "WardFalls") (by decide) rfl (Nat.le_of_ble_eq_true rfl) hlo (fun p e s m below meth c F hlk hr hS ls hl => ?_)
  have hl : lv_has ls 3 [(0, .ref (b + 0)), (1, vI x1), (2, vI x2)] := hl
  unfold t_WF_lay at hT
  refine lv_aload_n F.hx F.hb d_WF_lay_0 rfl (lv_at hl 0 rfl) ?_
  have h1 := St_town hS
  refine r_get (v := .ref (b + ((M.1 0 4).toNat))) (N := 19) (T := T0) (j := 4) F hS (show 0 < 191 by decide) (show shK 0 = 4 from rfl) (show shN 0 = 19 from rfl) rfl (Nat.le_of_ble_eq_true rfl) ing0 mw_554 (fv_town hS) d_WF_lay_1 ?_
  refine lv_iload_n F.hx F.hb d_WF_lay_4 rfl (lv_at hl 1 rfl) ?_
  obtain ⟨q2, hq2⟩ : ∃ q, q = (t_Town_hasThing M ((M.1 0 4).toNat) x1) := ⟨_, rfl⟩
  replace hT := qlet_eq hT hq2
  refine r_backZ F hS (r_runV (k := ((M.1 0 4).toNat)) (N := 20) (T := T11) (As := [vI x1]) F hS (Town_lt h1) (Town_sh h1) rfl (c_Town_hasThing l F.2.2.1 M ((M.1 0 4).toNat) x1 h1 hx1 _ hq2.symm) gs_WF_225 hd_Town_hasThing ⟨Nat.le_of_ble_eq_true rfl, Nat.le_of_ble_eq_true rfl⟩ rfl hl.1 (Nat.le_of_ble_eq_true rfl) ⟨Nat.zero_le _, Nat.zero_le _⟩ rfl d_WF_lay_5) (fun H locs hS h3 => ?_)
  refine r_if_eq (tgt := 34) F.hx F.hb (inr_z h3) d_WF_lay_8 (by decide) (fun c4 => ?_) (fun c4 => ?_)
  · replace hT := (if_pos c4).symm.trans hT
    refine r_iconst F.hx F.hb d_WF_lay_34 ?_
    cases hT
    exact r_zret F hlk hr hS (Or.inl rfl) d_WF_lay_35
  · replace hT := (if_neg c4).symm.trans hT
    refine lv_aload_n F.hx F.hb d_WF_lay_11 rfl (lv_at hl 0 rfl) ?_
    refine lv_iload_n F.hx F.hb d_WF_lay_12 rfl (lv_at hl 2 rfl) ?_
    obtain ⟨q5, hq5⟩ : ∃ q, q = (t_WF_isFree M x2) := ⟨_, rfl⟩
    replace hT := qlet_eq hT hq5
    refine r_backZ F hS (r_runV (k := 0) (N := 19) (T := T0) (As := [vI x2]) F hS (show 0 < 191 by decide) (show shK 0 = 4 from rfl) rfl (c_WF_isFree l F.2.2.1 M x2 hx2 _ hq5.symm) gs_WF_250 hd_WF_isFree ⟨Nat.le_of_ble_eq_true rfl, Nat.le_of_ble_eq_true rfl⟩ rfl hl.1 (Nat.le_of_ble_eq_true rfl) ⟨Nat.zero_le _, Nat.zero_le _⟩ rfl d_WF_lay_13) (fun H locs hS h6 => ?_)
    refine r_if_eq (tgt := 34) F.hx F.hb (inr_z h6) d_WF_lay_16 (by decide) (fun c7 => ?_) (fun c7 => ?_)
    · replace hT := (if_pos c7).symm.trans hT
      refine r_iconst F.hx F.hb d_WF_lay_34 ?_
      cases hT
      exact r_zret F hlk hr hS (Or.inl rfl) d_WF_lay_35
    · replace hT := (if_neg c7).symm.trans hT
      refine lv_aload_n F.hx F.hb d_WF_lay_19 rfl (lv_at hl 0 rfl) ?_
      refine r_get (v := .ref (b + 47)) (N := 19) (T := T0) (j := 8) F hS (show 0 < 191 by decide) (show shK 0 = 4 from rfl) (show shN 0 = 19 from rfl) rfl (Nat.le_of_ble_eq_true rfl) ing0 mw_558 (fv_sg rfl rfl rfl) d_WF_lay_20 ?_
      refine lv_aload_n F.hx F.hb d_WF_lay_23 rfl (lv_at hl 0 rfl) ?_
      have h8 := St_town hS
      refine r_get (v := .ref (b + ((M.1 0 4).toNat))) (N := 19) (T := T0) (j := 4) F hS (show 0 < 191 by decide) (show shK 0 = 4 from rfl) (show shN 0 = 19 from rfl) rfl (Nat.le_of_ble_eq_true rfl) ing0 mw_554 (fv_town hS) d_WF_lay_24 ?_
      refine lv_iload_n F.hx F.hb d_WF_lay_27 rfl (lv_at hl 2 rfl) ?_
      obtain ⟨q9, hq9, hT⟩ := q_obind hT
      refine r_backI F hS (r_runV (k := 47) (N := 7) (T := T9) (As := [.ref (b + ((M.1 0 4).toNat)), vI x2]) F hS (show 47 < 191 by decide) (show shK 47 = 13 from rfl) rfl (c_Scene_thingIn l F.2.2.1 M 47 ((M.1 0 4).toNat) x2 (by decide : isScene 47) h8 hx2 _ hq9) gs_WF_182 hd_Scene_thingIn ⟨Nat.le_of_ble_eq_true rfl, Nat.le_of_ble_eq_true rfl⟩ rfl hl.1 (Nat.le_of_ble_eq_true rfl) ⟨Nat.zero_le _, Nat.zero_le _⟩ rfl d_WF_lay_28) (fun H locs hS h10 => ?_)
      refine r_if_lt (tgt := 36) F.hx F.hb h10 d_WF_lay_31 (by decide) (fun c11 => ?_) (fun c11 => ?_)
      · replace hT := (if_pos c11).symm.trans hT
        refine lv_aload_n F.hx F.hb d_WF_lay_36 rfl (lv_at hl 0 rfl) ?_
        refine r_get (v := .ref (b + 70)) (N := 19) (T := T0) (j := 14) F hS (show 0 < 191 by decide) (show shK 0 = 4 from rfl) (show shN 0 = 19 from rfl) rfl (Nat.le_of_ble_eq_true rfl) ing0 mw_564 (fv_sg rfl rfl rfl) d_WF_lay_37 ?_
        refine lv_aload_n F.hx F.hb d_WF_lay_40 rfl (lv_at hl 0 rfl) ?_
        refine r_get (v := .ref (b + 47)) (N := 19) (T := T0) (j := 8) F hS (show 0 < 191 by decide) (show shK 0 = 4 from rfl) (show shN 0 = 19 from rfl) rfl (Nat.le_of_ble_eq_true rfl) ing0 mw_558 (fv_sg rfl rfl rfl) d_WF_lay_41 ?_
        obtain ⟨q12, hq12⟩ : ∃ q, q = (t_Past_remember M 47) := ⟨_, rfl⟩
        replace hT := qlet_eq hT hq12
        refine r_backV F hS (r_runV (k := 70) (N := 3) (T := T6) (As := [.ref (b + 47)]) F hS (show 70 < 191 by decide) (show shK 70 = 10 from rfl) rfl (c_Past_remember l F.2.2.1 M 47 (by decide : isScene 47) _ hq12.symm) gs_WF_287 hd_Past_remember ⟨Nat.le_of_ble_eq_true rfl, Nat.le_of_ble_eq_true rfl⟩ rfl hl.1 (Nat.le_of_ble_eq_true rfl) ⟨Nat.zero_le _, Nat.zero_le _⟩ rfl d_WF_lay_44) (fun H locs hS => ?_)
        refine lv_aload_n F.hx F.hb d_WF_lay_47 rfl (lv_at hl 0 rfl) ?_
        refine r_get (v := .ref (b + 47)) (N := 19) (T := T0) (j := 8) F hS (show 0 < 191 by decide) (show shK 0 = 4 from rfl) (show shN 0 = 19 from rfl) rfl (Nat.le_of_ble_eq_true rfl) ing0 mw_558 (fv_sg rfl rfl rfl) d_WF_lay_48 ?_
        refine r_get (v := .ref (b + 49)) (N := 7) (T := T9) (j := 1) F hS (show 47 < 191 by decide) (show shK 47 = 13 from rfl) (show shN 47 = 7 from rfl) rfl (Nat.le_of_ble_eq_true rfl) ing9 mw_280 (fv_sg rfl rfl rfl) d_WF_lay_51 ?_
        refine lv_iload_n F.hx F.hb d_WF_lay_54 rfl (lv_at hl 1 rfl) ?_
        refine lv_iload_n F.hx F.hb d_WF_lay_55 rfl (lv_at hl 2 rfl) ?_
        obtain ⟨q14, hq14⟩ : ∃ q, q = (t_WF_put q12 49 8 x1 x2) := ⟨_, rfl⟩
        replace hT := qlet_eq hT hq14
        refine r_backV F hS (r_runS (As := [.ref (b + 49), vI x1, vI x2]) F hS (c_WF_put l F.2.2.1 q12 49 8 x1 x2 (show arrP 0 49 8 191 from ⟨rfl, rfl, by decide⟩) hx1 hx2 _ hq14.symm) gs_WF_291 hd_WF_put ⟨Nat.le_of_ble_eq_true rfl, Nat.le_of_ble_eq_true rfl⟩ rfl hl.1 (Nat.le_of_ble_eq_true rfl) ⟨Nat.zero_le _, Nat.zero_le _⟩ rfl d_WF_lay_56) (fun H locs hS => ?_)
        refine lv_aload_n F.hx F.hb d_WF_lay_59 rfl (lv_at hl 0 rfl) ?_
        refine r_get (v := .ref (b + 177)) (N := 19) (T := T0) (j := 16) F hS (show 0 < 191 by decide) (show shK 0 = 4 from rfl) (show shN 0 = 19 from rfl) rfl (Nat.le_of_ble_eq_true rfl) ing0 mw_566 (fv_sg rfl rfl rfl) d_WF_lay_60 ?_
        refine r_iconst F.hx F.hb d_WF_lay_63 ?_
        refine r_putI (N := 9) (T := T4) (j := 8) F hS (show 177 < 191 by decide) (show shK 177 = 8 from rfl) (show shN 177 = 9 from rfl) rfl (Nat.le_of_ble_eq_true rfl) ing4 tyok4 nm4 rfl rfl (nar_z (Or.inl rfl)) (fit_z (Or.inl rfl)) rfl rfl mw_448 (inr_c rfl) d_WF_lay_64 (fun H locs hS => ?_)
        obtain ⟨M16, eM16⟩ : ∃ q, q = (setI q14 177 8 0) := ⟨_, rfl⟩
        replace hS : St b C n M16 s H locs := by rw [eM16]; exact hS
        replace hT := qlet_eq hT eM16
        refine r_iconst F.hx F.hb d_WF_lay_67 ?_
        cases hT
        exact r_zret F hlk hr hS (Or.inr rfl) d_WF_lay_68
      · replace hT := (if_neg c11).symm.trans hT
        refine r_iconst F.hx F.hb d_WF_lay_34 ?_
        cases hT
        exact r_zret F hlk hr hS (Or.inl rfl) d_WF_lay_35
theorem d_WF_pour_0 : decode b_WF_pour 0 = .ok (.aload_n 0, 1) := dc_42 (by decide +kernel)
theorem d_WF_pour_1 : decode b_WF_pour 1 = .ok (.iload_n 1, 1) := dc_27 (by decide +kernel)
theorem d_WF_pour_2 : decode b_WF_pour 2 = .ok (.invokevirtual 250, 3) := dc_182 (by decide +kernel)
theorem d_WF_pour_5 : decode b_WF_pour 5 = .ok (.ifCond .eq 14, 3) := dc_153 (by decide +kernel)
theorem d_WF_pour_8 : decode b_WF_pour 8 = .ok (.iload_n 2, 1) := dc_28 (by decide +kernel)
theorem d_WF_pour_9 : decode b_WF_pour 9 = .ok (.iconst 1, 1) := dc_4 (by decide +kernel)
theorem d_WF_pour_10 : decode b_WF_pour 10 = .ok (.if_icmp .lt 9, 3) := dc_161 (by decide +kernel)
theorem d_WF_pour_13 : decode b_WF_pour 13 = .ok (.iload_n 2, 1) := dc_28 (by decide +kernel)
theorem d_WF_pour_14 : decode b_WF_pour 14 = .ok (.bipush 99, 2) := dc_16 (by decide +kernel)
theorem d_WF_pour_16 : decode b_WF_pour 16 = .ok (.if_icmp .le 5, 3) := dc_164 (by decide +kernel)
theorem d_WF_pour_19 : decode b_WF_pour 19 = .ok (.iconst (-1), 1) := dc_2 (by decide +kernel)
theorem d_WF_pour_20 : decode b_WF_pour 20 = .ok (.ireturn, 1) := dc_172 (by decide +kernel)
theorem d_WF_pour_21 : decode b_WF_pour 21 = .ok (.aload_n 0, 1) := dc_42 (by decide +kernel)
theorem d_WF_pour_22 : decode b_WF_pour 22 = .ok (.getfield 50, 3) := dc_180 (by decide +kernel)
theorem d_WF_pour_25 : decode b_WF_pour 25 = .ok (.aload_n 0, 1) := dc_42 (by decide +kernel)
theorem d_WF_pour_26 : decode b_WF_pour 26 = .ok (.getfield 46, 3) := dc_180 (by decide +kernel)
theorem d_WF_pour_29 : decode b_WF_pour 29 = .ok (.invokevirtual 299, 3) := dc_182 (by decide +kernel)
theorem d_WF_pour_32 : decode b_WF_pour 32 = .ok (.iconst 0, 1) := dc_3 (by decide +kernel)
theorem d_WF_pour_33 : decode b_WF_pour 33 = .ok (.istore_n 3, 1) := dc_62 (by decide +kernel)
theorem d_WF_pour_34 : decode b_WF_pour 34 = .ok (.iconst 0, 1) := dc_3 (by decide +kernel)
theorem d_WF_pour_35 : decode b_WF_pour 35 = .ok (.istore 4, 2) := dc_54 (by decide +kernel)
theorem d_WF_pour_37 : decode b_WF_pour 37 = .ok (.iload 4, 2) := dc_21 (by decide +kernel)
theorem d_WF_pour_39 : decode b_WF_pour 39 = .ok (.iload_n 2, 1) := dc_28 (by decide +kernel)
theorem d_WF_pour_40 : decode b_WF_pour 40 = .ok (.if_icmp .ge 27, 3) := dc_162 (by decide +kernel)
theorem d_WF_pour_43 : decode b_WF_pour 43 = .ok (.aload_n 0, 1) := dc_42 (by decide +kernel)
theorem d_WF_pour_44 : decode b_WF_pour 44 = .ok (.getfield 50, 3) := dc_180 (by decide +kernel)
theorem d_WF_pour_47 : decode b_WF_pour 47 = .ok (.aload_n 0, 1) := dc_42 (by decide +kernel)
theorem d_WF_pour_48 : decode b_WF_pour 48 = .ok (.getfield 22, 3) := dc_180 (by decide +kernel)
theorem d_WF_pour_51 : decode b_WF_pour 51 = .ok (.iload_n 1, 1) := dc_27 (by decide +kernel)
theorem d_WF_pour_52 : decode b_WF_pour 52 = .ok (.invokevirtual 302, 3) := dc_182 (by decide +kernel)
theorem d_WF_pour_55 : decode b_WF_pour 55 = .ok (.ifCond .eq 6, 3) := dc_153 (by decide +kernel)
theorem d_WF_pour_58 : decode b_WF_pour 58 = .ok (.iinc 3 1, 3) := dc_132 (by decide +kernel)
theorem d_WF_pour_61 : decode b_WF_pour 61 = .ok (.iinc 4 1, 3) := dc_132 (by decide +kernel)
theorem d_WF_pour_64 : decode b_WF_pour 64 = .ok (.goto (-27), 3) := dc_167 (by decide +kernel)
theorem d_WF_pour_67 : decode b_WF_pour 67 = .ok (.iload_n 3, 1) := dc_29 (by decide +kernel)
theorem d_WF_pour_68 : decode b_WF_pour 68 = .ok (.ifCond .le 28, 3) := dc_158 (by decide +kernel)
theorem d_WF_pour_71 : decode b_WF_pour 71 = .ok (.aload_n 0, 1) := dc_42 (by decide +kernel)
theorem d_WF_pour_72 : decode b_WF_pour 72 = .ok (.getfield 69, 3) := dc_180 (by decide +kernel)
theorem d_WF_pour_75 : decode b_WF_pour 75 = .ok (.aload_n 0, 1) := dc_42 (by decide +kernel)
theorem d_WF_pour_76 : decode b_WF_pour 76 = .ok (.getfield 46, 3) := dc_180 (by decide +kernel)
theorem d_WF_pour_79 : decode b_WF_pour 79 = .ok (.invokevirtual 287, 3) := dc_182 (by decide +kernel)
theorem d_WF_pour_82 : decode b_WF_pour 82 = .ok (.aload_n 0, 1) := dc_42 (by decide +kernel)
theorem d_WF_pour_83 : decode b_WF_pour 83 = .ok (.getfield 46, 3) := dc_180 (by decide +kernel)
theorem d_WF_pour_86 : decode b_WF_pour 86 = .ok (.aload_n 0, 1) := dc_42 (by decide +kernel)
theorem d_WF_pour_87 : decode b_WF_pour 87 = .ok (.getfield 50, 3) := dc_180 (by decide +kernel)
theorem d_WF_pour_90 : decode b_WF_pour 90 = .ok (.getfield 179, 3) := dc_180 (by decide +kernel)
theorem d_WF_pour_93 : decode b_WF_pour 93 = .ok (.putfield 179, 3) := dc_181 (by decide +kernel)
theorem d_WF_pour_96 : decode b_WF_pour 96 = .ok (.iload_n 3, 1) := dc_29 (by decide +kernel)
theorem d_WF_pour_97 : decode b_WF_pour 97 = .ok (.ireturn, 1) := dc_172 (by decide +kernel)
def t_WF_pour_L61 (x1 : Int) (x2 : Int) (bk37 : Mem → Int → Int → Option (Mem × Int)) (M : Mem) (v3_ : Int) (v4_ : Int) : Option (Mem × Int) := (bk37 M v3_ (w32 (v4_ + 1)))
def t_WF_pour_L37 (x1 : Int) (x2 : Int)  : Nat → Mem → Int → Int → Option (Mem × Int)
  | 0, _, _, _ => none
  | fu + 1, M, v3_, v4_ => (if x2 ≤ v4_ then (if v3_ ≤ 0 then (some (M, v3_)) else (qlet (t_Past_remember M 47) fun q10 => (qlet (setL q10 47 6 (q10.2 52 6)) fun M12 => (some (M12, v3_))))) else (obind (t_Scene_pourOne M 52 ((M.1 0 4).toNat) x1) fun q14 => (if (q14.2) = 0 then (t_WF_pour_L61 x1 x2 (fun a0_ a1_ a2_ => t_WF_pour_L37 x1 x2 fu a0_ a1_ a2_) (q14.1) v3_ v4_) else (t_WF_pour_L61 x1 x2 (fun a0_ a1_ a2_ => t_WF_pour_L37 x1 x2 fu a0_ a1_ a2_) (q14.1) (w32 (v3_ + 1)) v4_))))
def t_WF_pour (M : Mem) (x1 : Int) (x2 : Int) : Option (Mem × Int) := (qlet (t_WF_isFree M x1) fun q1 => (if q1 = 0 then (some (M, (-1))) else (if x2 < 1 then (some (M, (-1))) else (if x2 ≤ 99 then (qlet (t_Scene_copy M 52 47) fun q6 => (t_WF_pour_L37 x1 x2 FU q6 0 0)) else (some (M, (-1)))))))
set_option maxHeartbeats 4000000 in
set_option maxRecDepth 100000 in
theorem k_WF_pour_L61 (l : Launch) {p : Program} {e : Env} {s : State} {m : MethodId} {below : List Frame} {meth : Method} {c : Code} {b n : Nat} {C : CT} (hlo : 191 ≤ n) (x1 : Int) (x2 : Int) (hx1 : InR x1) (hx2 : InR x2) (F : Cx b p m c b_WF_pour 5 s ([.ref (b + 0), vI x1, vI x2] : List Value).toArray "WardFalls" C n 191) (hlk : meth.locks = false) (hr : meth.sig.returnType = some .int) {res : Mem × Int} (bk37 : Mem → Int → Int → Option (Mem × Int)) (hbk37 : ∀ (M : Mem) (v3_ : Int) (hv3_ : InR v3_) (v4_ : Int) (hv4_ : InR v4_) (H : Heap) (locs : List Loc) (ls : Array Slot), St b C n M s H locs → lv_has ls 5 [(0, .ref (b + 0)), (1, vI x1), (2, vI x2), (3, vI v3_), (4, vI v4_)] → bk37 M v3_ v4_ = some res → W p l e (headSpec (wsM y_WF_pour b_WF_pour 5 (some .int)) (rmD 5)).room s m ([.ref (b + 0), vI x1, vI x2] : List Value).toArray below meth c H locs 0 0 (MQ below (QI b C n res.1 res.2) ([.ref (b + 0), vI x1, vI x2] : List Value).toArray s 0 0 (frb b)) (F0 m 37 ls [])) (M : Mem) (v3_ : Int) (hv3_ : InR v3_) (v4_ : Int) (hv4_ : InR v4_) (H : Heap) (locs : List Loc) (ls : Array Slot) (hS : St b C n M s H locs) (hl : lv_has ls 5 [(0, .ref (b + 0)), (1, vI x1), (2, vI x2), (3, vI v3_), (4, vI v4_)]) (hT : t_WF_pour_L61 x1 x2 bk37 M v3_ v4_ = some res) : W p l e (headSpec (wsM y_WF_pour b_WF_pour 5 (some .int)) (rmD 5)).room s m ([.ref (b + 0), vI x1, vI x2] : List Value).toArray below meth c H locs 0 0 (MQ below (QI b C n res.1 res.2) ([.ref (b + 0), vI x1, vI x2] : List Value).toArray s 0 0 (frb b)) (F0 m 61 ls []) := by
  unfold t_WF_pour_L61 at hT
  refine lv_iinc (v := Int32.ofInt (w32 (v4_ + 1))) (lv' := [(4, vI (w32 (v4_ + 1))), (0, .ref (b + 0)), (1, vI x1), (2, vI x2), (3, vI v3_)]) F.hx F.hb d_WF_pour_61 hl (k := 4) rfl (q_of_add _ _) (Nat.le_of_ble_eq_true rfl) rfl (fun ls hl => ?_)
  refine lv_goto (tgt := 37) F.hx F.hb d_WF_pour_64 (by decide) ?_
  exact hbk37 M v3_ hv3_ (w32 (v4_ + 1)) (inr_w32 _) _ _ _ hS (lv_sub hl [1, 2, 3, 4, 0] rfl) hT
set_option maxHeartbeats 4000000 in
set_option maxRecDepth 100000 in
theorem k_WF_pour_L37 (l : Launch) {p : Program} {e : Env} {s : State} {m : MethodId} {below : List Frame} {meth : Method} {c : Code} {b n : Nat} {C : CT} (hlo : 191 ≤ n) (x1 : Int) (x2 : Int) (hx1 : InR x1) (hx2 : InR x2) (F : Cx b p m c b_WF_pour 5 s ([.ref (b + 0), vI x1, vI x2] : List Value).toArray "WardFalls" C n 191) (hlk : meth.locks = false) (hr : meth.sig.returnType = some .int) {res : Mem × Int} : ∀ (fu : Nat) (M : Mem) (v3_ : Int) (hv3_ : InR v3_) (v4_ : Int) (hv4_ : InR v4_) (H : Heap) (locs : List Loc) (ls : Array Slot), St b C n M s H locs → lv_has ls 5 [(0, .ref (b + 0)), (1, vI x1), (2, vI x2), (3, vI v3_), (4, vI v4_)] → t_WF_pour_L37 x1 x2 fu M v3_ v4_ = some res → W p l e (headSpec (wsM y_WF_pour b_WF_pour 5 (some .int)) (rmD 5)).room s m ([.ref (b + 0), vI x1, vI x2] : List Value).toArray below meth c H locs 0 0 (MQ below (QI b C n res.1 res.2) ([.ref (b + 0), vI x1, vI x2] : List Value).toArray s 0 0 (frb b)) (F0 m 37 ls []) := by
  intro fu
  induction fu with
  | zero => intro M v3_ hv3_ v4_ hv4_ H locs ls hS hl hT; exact absurd hT (by simp [t_WF_pour_L37])
  | succ fu ih =>
    intro M v3_ hv3_ v4_ hv4_ H locs ls hS hl hT
    rw [t_WF_pour_L37] at hT
    refine lv_iload F.hx F.hb d_WF_pour_37 (lv_at hl 4 rfl) ?_
    refine lv_iload_n F.hx F.hb d_WF_pour_39 rfl (lv_at hl 2 rfl) ?_
    refine r_icmp_ge (tgt := 67) F.hx F.hb hv4_ hx2 d_WF_pour_40 (by decide) (fun c8 => ?_) (fun c8 => ?_)
    · replace hT := (if_pos c8).symm.trans hT
      refine lv_iload_n F.hx F.hb d_WF_pour_67 rfl (lv_at hl 3 rfl) ?_
      refine r_if_le (tgt := 96) F.hx F.hb hv3_ d_WF_pour_68 (by decide) (fun c9 => ?_) (fun c9 => ?_)
      · replace hT := (if_pos c9).symm.trans hT
        refine lv_iload_n F.hx F.hb d_WF_pour_96 rfl (lv_at hl 3 rfl) ?_
        cases hT
        exact r_iret F hlk hr rfl hS hv3_ d_WF_pour_97
      · replace hT := (if_neg c9).symm.trans hT
        refine lv_aload_n F.hx F.hb d_WF_pour_71 rfl (lv_at hl 0 rfl) ?_
        refine r_get (v := .ref (b + 70)) (N := 19) (T := T0) (j := 14) F hS (show 0 < 191 by decide) (show shK 0 = 4 from rfl) (show shN 0 = 19 from rfl) rfl (Nat.le_of_ble_eq_true rfl) ing0 mw_564 (fv_sg rfl rfl rfl) d_WF_pour_72 ?_
        refine lv_aload_n F.hx F.hb d_WF_pour_75 rfl (lv_at hl 0 rfl) ?_
        refine r_get (v := .ref (b + 47)) (N := 19) (T := T0) (j := 8) F hS (show 0 < 191 by decide) (show shK 0 = 4 from rfl) (show shN 0 = 19 from rfl) rfl (Nat.le_of_ble_eq_true rfl) ing0 mw_558 (fv_sg rfl rfl rfl) d_WF_pour_76 ?_
        obtain ⟨q10, hq10⟩ : ∃ q, q = (t_Past_remember M 47) := ⟨_, rfl⟩
        replace hT := qlet_eq hT hq10
        refine r_backV F hS (r_runV (k := 70) (N := 3) (T := T6) (As := [.ref (b + 47)]) F hS (show 70 < 191 by decide) (show shK 70 = 10 from rfl) rfl (c_Past_remember l F.2.2.1 M 47 (by decide : isScene 47) _ hq10.symm) gs_WF_287 hd_Past_remember ⟨Nat.le_of_ble_eq_true rfl, Nat.le_of_ble_eq_true rfl⟩ rfl hl.1 (Nat.le_of_ble_eq_true rfl) ⟨Nat.zero_le _, Nat.zero_le _⟩ rfl d_WF_pour_79) (fun H locs hS => ?_)
        refine lv_aload_n F.hx F.hb d_WF_pour_82 rfl (lv_at hl 0 rfl) ?_
        refine r_get (v := .ref (b + 47)) (N := 19) (T := T0) (j := 8) F hS (show 0 < 191 by decide) (show shK 0 = 4 from rfl) (show shN 0 = 19 from rfl) rfl (Nat.le_of_ble_eq_true rfl) ing0 mw_558 (fv_sg rfl rfl rfl) d_WF_pour_83 ?_
        refine lv_aload_n F.hx F.hb d_WF_pour_86 rfl (lv_at hl 0 rfl) ?_
        refine r_get (v := .ref (b + 52)) (N := 19) (T := T0) (j := 9) F hS (show 0 < 191 by decide) (show shK 0 = 4 from rfl) (show shN 0 = 19 from rfl) rfl (Nat.le_of_ble_eq_true rfl) ing0 mw_559 (fv_sg rfl rfl rfl) d_WF_pour_87 ?_
        refine r_get (v := .long (q10.2 52 6)) (N := 7) (T := T9) (j := 6) F hS (show 52 < 191 by decide) (show shK 52 = 13 from rfl) (show shN 52 = 7 from rfl) rfl (Nat.le_of_ble_eq_true rfl) ing9 mw_292 (fv_long rfl) d_WF_pour_90 ?_
        refine r_putL (N := 7) (T := T9) (j := 6) F hS (show 47 < 191 by decide) (show shK 47 = 13 from rfl) (show shN 47 = 7 from rfl) rfl (Nat.le_of_ble_eq_true rfl) ing9 tyok9 nm9 rfl rfl rfl mw_292 d_WF_pour_93 (fun H locs hS => ?_)
        obtain ⟨M12, eM12⟩ : ∃ q, q = (setL q10 47 6 (q10.2 52 6)) := ⟨_, rfl⟩
        replace hS : St b C n M12 s H locs := by rw [eM12]; exact hS
        replace hT := qlet_eq hT eM12
        refine lv_iload_n F.hx F.hb d_WF_pour_96 rfl (lv_at hl 3 rfl) ?_
        cases hT
        exact r_iret F hlk hr rfl hS hv3_ d_WF_pour_97
    · replace hT := (if_neg c8).symm.trans hT
      refine lv_aload_n F.hx F.hb d_WF_pour_43 rfl (lv_at hl 0 rfl) ?_
      refine r_get (v := .ref (b + 52)) (N := 19) (T := T0) (j := 9) F hS (show 0 < 191 by decide) (show shK 0 = 4 from rfl) (show shN 0 = 19 from rfl) rfl (Nat.le_of_ble_eq_true rfl) ing0 mw_559 (fv_sg rfl rfl rfl) d_WF_pour_44 ?_
      refine lv_aload_n F.hx F.hb d_WF_pour_47 rfl (lv_at hl 0 rfl) ?_
      have h13 := St_town hS
      refine r_get (v := .ref (b + ((M.1 0 4).toNat))) (N := 19) (T := T0) (j := 4) F hS (show 0 < 191 by decide) (show shK 0 = 4 from rfl) (show shN 0 = 19 from rfl) rfl (Nat.le_of_ble_eq_true rfl) ing0 mw_554 (fv_town hS) d_WF_pour_48 ?_
      refine lv_iload_n F.hx F.hb d_WF_pour_51 rfl (lv_at hl 1 rfl) ?_
      obtain ⟨q14, hq14, hT⟩ := q_obind hT
      refine r_backZ F hS (r_runV (k := 52) (N := 7) (T := T9) (As := [.ref (b + ((M.1 0 4).toNat)), vI x1]) F hS (show 52 < 191 by decide) (show shK 52 = 13 from rfl) rfl (c_Scene_pourOne l F.2.2.1 M 52 ((M.1 0 4).toNat) x1 (by decide : isScene 52) h13 hx1 _ hq14) gs_WF_302 hd_Scene_pourOne ⟨Nat.le_of_ble_eq_true rfl, Nat.le_of_ble_eq_true rfl⟩ rfl hl.1 (Nat.le_of_ble_eq_true rfl) ⟨Nat.zero_le _, Nat.zero_le _⟩ rfl d_WF_pour_52) (fun H locs hS h15 => ?_)
      refine r_if_eq (tgt := 61) F.hx F.hb (inr_z h15) d_WF_pour_55 (by decide) (fun c16 => ?_) (fun c16 => ?_)
      · replace hT := (if_pos c16).symm.trans hT
        exact k_WF_pour_L61 l hlo x1 x2 hx1 hx2 F hlk hr (fun a0_ a1_ a2_ => t_WF_pour_L37 x1 x2 fu a0_ a1_ a2_) ih (q14.1) v3_ hv3_ v4_ hv4_ _ _ _ hS (lv_sub hl [0, 1, 2, 3, 4] rfl) hT
      · replace hT := (if_neg c16).symm.trans hT
        refine lv_iinc (v := Int32.ofInt (w32 (v3_ + 1))) (lv' := [(3, vI (w32 (v3_ + 1))), (0, .ref (b + 0)), (1, vI x1), (2, vI x2), (4, vI v4_)]) F.hx F.hb d_WF_pour_58 hl (k := 3) rfl (q_of_add _ _) (Nat.le_of_ble_eq_true rfl) rfl (fun ls hl => ?_)
        exact k_WF_pour_L61 l hlo x1 x2 hx1 hx2 F hlk hr (fun a0_ a1_ a2_ => t_WF_pour_L37 x1 x2 fu a0_ a1_ a2_) ih (q14.1) (w32 (v3_ + 1)) (inr_w32 _) v4_ hv4_ _ _ _ hS (lv_sub hl [1, 2, 3, 0, 4] rfl) hT
set_option maxHeartbeats 4000000 in
set_option maxRecDepth 100000 in
theorem c_WF_pour (l : Launch) {b n : Nat} {C : CT} (hlo : 191 ≤ n) (M : Mem) (x1 : Int) (x2 : Int) (hx1 : InR x1) (hx2 : InR x2) (res : Mem × Int) (hT : t_WF_pour M x1 x2 = some res) : CM l b C n 5 y_WF_pour b_WF_pour 5 (some .int) [.ref (b + 0), vI x1, vI x2] M (QI b C n res.1 res.2) := by
  refine CM.of (lo := 191) (ow := "WardFalls") (by decide) rfl (Nat.le_of_ble_eq_true rfl) hlo (fun p e s m below meth c F hlk hr hS ls hl => ?_)
  have hl : lv_has ls 5 [(0, .ref (b + 0)), (1, vI x1), (2, vI x2)] := hl
  unfold t_WF_pour at hT
  refine lv_aload_n F.hx F.hb d_WF_pour_0 rfl (lv_at hl 0 rfl) ?_
  refine lv_iload_n F.hx F.hb d_WF_pour_1 rfl (lv_at hl 1 rfl) ?_
  obtain ⟨q1, hq1⟩ : ∃ q, q = (t_WF_isFree M x1) := ⟨_, rfl⟩
  replace hT := qlet_eq hT hq1
  refine r_backZ F hS (r_runV (k := 0) (N := 19) (T := T0) (As := [vI x1]) F hS (show 0 < 191 by decide) (show shK 0 = 4 from rfl) rfl (c_WF_isFree l F.2.2.1 M x1 hx1 _ hq1.symm) gs_WF_250 hd_WF_isFree ⟨Nat.le_of_ble_eq_true rfl, Nat.le_of_ble_eq_true rfl⟩ rfl hl.1 (Nat.le_of_ble_eq_true rfl) ⟨Nat.zero_le _, Nat.zero_le _⟩ rfl d_WF_pour_2) (fun H locs hS h2 => ?_)
  refine r_if_eq (tgt := 19) F.hx F.hb (inr_z h2) d_WF_pour_5 (by decide) (fun c3 => ?_) (fun c3 => ?_)
  · replace hT := (if_pos c3).symm.trans hT
    refine r_iconst F.hx F.hb d_WF_pour_19 ?_
    cases hT
    exact r_iret F hlk hr rfl hS (inr_c rfl) d_WF_pour_20
  · replace hT := (if_neg c3).symm.trans hT
    refine lv_iload_n F.hx F.hb d_WF_pour_8 rfl (lv_at hl 2 rfl) ?_
    refine r_iconst F.hx F.hb d_WF_pour_9 ?_
    refine r_icmp_lt (tgt := 19) F.hx F.hb hx2 (inr_c rfl) d_WF_pour_10 (by decide) (fun c4 => ?_) (fun c4 => ?_)
    · replace hT := (if_pos c4).symm.trans hT
      refine r_iconst F.hx F.hb d_WF_pour_19 ?_
      cases hT
      exact r_iret F hlk hr rfl hS (inr_c rfl) d_WF_pour_20
    · replace hT := (if_neg c4).symm.trans hT
      refine lv_iload_n F.hx F.hb d_WF_pour_13 rfl (lv_at hl 2 rfl) ?_
      refine r_bipush F.hx F.hb d_WF_pour_14 rfl ?_
      refine r_icmp_le (tgt := 21) F.hx F.hb hx2 (inr_c rfl) d_WF_pour_16 (by decide) (fun c5 => ?_) (fun c5 => ?_)
      · replace hT := (if_pos c5).symm.trans hT
        refine lv_aload_n F.hx F.hb d_WF_pour_21 rfl (lv_at hl 0 rfl) ?_
        refine r_get (v := .ref (b + 52)) (N := 19) (T := T0) (j := 9) F hS (show 0 < 191 by decide) (show shK 0 = 4 from rfl) (show shN 0 = 19 from rfl) rfl (Nat.le_of_ble_eq_true rfl) ing0 mw_559 (fv_sg rfl rfl rfl) d_WF_pour_22 ?_
        refine lv_aload_n F.hx F.hb d_WF_pour_25 rfl (lv_at hl 0 rfl) ?_
        refine r_get (v := .ref (b + 47)) (N := 19) (T := T0) (j := 8) F hS (show 0 < 191 by decide) (show shK 0 = 4 from rfl) (show shN 0 = 19 from rfl) rfl (Nat.le_of_ble_eq_true rfl) ing0 mw_558 (fv_sg rfl rfl rfl) d_WF_pour_26 ?_
        obtain ⟨q6, hq6⟩ : ∃ q, q = (t_Scene_copy M 52 47) := ⟨_, rfl⟩
        replace hT := qlet_eq hT hq6
        refine r_backV F hS (r_runV (k := 52) (N := 7) (T := T9) (As := [.ref (b + 47)]) F hS (show 52 < 191 by decide) (show shK 52 = 13 from rfl) rfl (c_Scene_copy l F.2.2.1 M 52 47 (by decide : isScene 52) (by decide : isScene 47) _ hq6.symm) gs_WF_299 hd_Scene_copy ⟨Nat.le_of_ble_eq_true rfl, Nat.le_of_ble_eq_true rfl⟩ rfl hl.1 (Nat.le_of_ble_eq_true rfl) ⟨Nat.zero_le _, Nat.zero_le _⟩ rfl d_WF_pour_29) (fun H locs hS => ?_)
        refine r_iconst F.hx F.hb d_WF_pour_32 ?_
        refine lv_istore_n (lv' := [(3, vI 0), (0, .ref (b + 0)), (1, vI x1), (2, vI x2)]) F.hx F.hb d_WF_pour_33 rfl hl (Nat.le_of_ble_eq_true rfl) rfl (fun ls hl => ?_)
        refine r_iconst F.hx F.hb d_WF_pour_34 ?_
        refine lv_istore (lv' := [(4, vI 0), (3, vI 0), (0, .ref (b + 0)), (1, vI x1), (2, vI x2)]) F.hx F.hb d_WF_pour_35 hl (Nat.le_of_ble_eq_true rfl) rfl (fun ls hl => ?_)
        exact k_WF_pour_L37 l hlo x1 x2 hx1 hx2 F hlk hr FU q6 0 (inr_c rfl) 0 (inr_c rfl) _ _ _ hS (lv_sub hl [2, 3, 4, 1, 0] rfl) hT
      · replace hT := (if_neg c5).symm.trans hT
        refine r_iconst F.hx F.hb d_WF_pour_19 ?_
        cases hT
        exact r_iret F hlk hr rfl hS (inr_c rfl) d_WF_pour_20
theorem d_WF_drain_0 : decode b_WF_drain 0 = .ok (.aload_n 0, 1) := dc_42 (by decide +kernel)
theorem d_WF_drain_1 : decode b_WF_drain 1 = .ok (.getfield 46, 3) := dc_180 (by decide +kernel)
theorem d_WF_drain_4 : decode b_WF_drain 4 = .ok (.getfield 179, 3) := dc_180 (by decide +kernel)
theorem d_WF_drain_7 : decode b_WF_drain 7 = .ok (.invokestatic 305, 3) := dc_184 (by decide +kernel)
theorem d_WF_drain_10 : decode b_WF_drain 10 = .ok (.istore_n 1, 1) := dc_60 (by decide +kernel)
theorem d_WF_drain_11 : decode b_WF_drain 11 = .ok (.iload_n 1, 1) := dc_27 (by decide +kernel)
theorem d_WF_drain_12 : decode b_WF_drain 12 = .ok (.ifCond .le 22, 3) := dc_158 (by decide +kernel)
theorem d_WF_drain_15 : decode b_WF_drain 15 = .ok (.aload_n 0, 1) := dc_42 (by decide +kernel)
theorem d_WF_drain_16 : decode b_WF_drain 16 = .ok (.getfield 69, 3) := dc_180 (by decide +kernel)
theorem d_WF_drain_19 : decode b_WF_drain 19 = .ok (.aload_n 0, 1) := dc_42 (by decide +kernel)
theorem d_WF_drain_20 : decode b_WF_drain 20 = .ok (.getfield 46, 3) := dc_180 (by decide +kernel)
theorem d_WF_drain_23 : decode b_WF_drain 23 = .ok (.invokevirtual 287, 3) := dc_182 (by decide +kernel)
theorem d_WF_drain_26 : decode b_WF_drain 26 = .ok (.aload_n 0, 1) := dc_42 (by decide +kernel)
theorem d_WF_drain_27 : decode b_WF_drain 27 = .ok (.getfield 46, 3) := dc_180 (by decide +kernel)
theorem d_WF_drain_30 : decode b_WF_drain 30 = .ok (.lconst 0, 1) := dc_9 (by decide +kernel)
theorem d_WF_drain_31 : decode b_WF_drain 31 = .ok (.putfield 179, 3) := dc_181 (by decide +kernel)
theorem d_WF_drain_34 : decode b_WF_drain 34 = .ok (.iload_n 1, 1) := dc_27 (by decide +kernel)
theorem d_WF_drain_35 : decode b_WF_drain 35 = .ok (.ireturn, 1) := dc_172 (by decide +kernel)
def t_WF_drain (M : Mem)  : Mem × Int := (qlet (t_Long_bitCount M (M.2 47 6)) fun q1 => (if q1 ≤ 0 then (M, q1) else (qlet (t_Past_remember M 47) fun q4 => (qlet (setL q4 47 6 0) fun M6 => (M6, q1)))))
set_option maxHeartbeats 4000000 in
set_option maxRecDepth 100000 in
theorem c_WF_drain (l : Launch) {b n : Nat} {C : CT} (hlo : 191 ≤ n) (M : Mem)   (res : Mem × Int) (hT : t_WF_drain M  = res) : CM l b C n 5 y_WF_drain b_WF_drain 2 (some .int) [.ref (b + 0)] M (QI b C n res.1 res.2) := by
  refine CM.of (lo := 191) (ow := "WardFalls") (by decide) rfl (Nat.le_of_ble_eq_true rfl) hlo (fun p e s m below meth c F hlk hr hS ls hl => ?_)
  have hl : lv_has ls 2 [(0, .ref (b + 0))] := hl
  unfold t_WF_drain at hT
  refine lv_aload_n F.hx F.hb d_WF_drain_0 rfl (lv_at hl 0 rfl) ?_
  refine r_get (v := .ref (b + 47)) (N := 19) (T := T0) (j := 8) F hS (show 0 < 191 by decide) (show shK 0 = 4 from rfl) (show shN 0 = 19 from rfl) rfl (Nat.le_of_ble_eq_true rfl) ing0 mw_558 (fv_sg rfl rfl rfl) d_WF_drain_1 ?_
  refine r_get (v := .long (M.2 47 6)) (N := 7) (T := T9) (j := 6) F hS (show 47 < 191 by decide) (show shK 47 = 13 from rfl) (show shN 47 = 7 from rfl) rfl (Nat.le_of_ble_eq_true rfl) ing9 mw_292 (fv_long rfl) d_WF_drain_4 ?_
  obtain ⟨q1, hq1⟩ : ∃ q, q = (t_Long_bitCount M (M.2 47 6)) := ⟨_, rfl⟩
  replace hT := qlet_eq hT hq1
  refine r_backI F hS (r_runS (As := [.long (M.2 47 6)]) F hS (c_Long_bitCount l (Nat.zero_le _) M (M.2 47 6) _ hq1.symm) gs_WF_305 hd_Long_bitCount ⟨Nat.le_of_ble_eq_true rfl, Nat.le_of_ble_eq_true rfl⟩ rfl hl.1 (Nat.le_of_ble_eq_true rfl) ⟨Nat.zero_le _, Nat.zero_le _⟩ rfl d_WF_drain_7) (fun H locs hS h2 => ?_)
  refine lv_istore_n (lv' := [(1, vI q1), (0, .ref (b + 0))]) F.hx F.hb d_WF_drain_10 rfl hl (Nat.le_of_ble_eq_true rfl) rfl (fun ls hl => ?_)
  refine lv_iload_n F.hx F.hb d_WF_drain_11 rfl (lv_at hl 0 rfl) ?_
  refine r_if_le (tgt := 34) F.hx F.hb h2 d_WF_drain_12 (by decide) (fun c3 => ?_) (fun c3 => ?_)
  · replace hT := (if_pos c3).symm.trans hT
    refine lv_iload_n F.hx F.hb d_WF_drain_34 rfl (lv_at hl 0 rfl) ?_
    subst hT
    exact r_iret F hlk hr rfl hS h2 d_WF_drain_35
  · replace hT := (if_neg c3).symm.trans hT
    refine lv_aload_n F.hx F.hb d_WF_drain_15 rfl (lv_at hl 1 rfl) ?_
    refine r_get (v := .ref (b + 70)) (N := 19) (T := T0) (j := 14) F hS (show 0 < 191 by decide) (show shK 0 = 4 from rfl) (show shN 0 = 19 from rfl) rfl (Nat.le_of_ble_eq_true rfl) ing0 mw_564 (fv_sg rfl rfl rfl) d_WF_drain_16 ?_
    refine lv_aload_n F.hx F.hb d_WF_drain_19 rfl (lv_at hl 1 rfl) ?_
    refine r_get (v := .ref (b + 47)) (N := 19) (T := T0) (j := 8) F hS (show 0 < 191 by decide) (show shK 0 = 4 from rfl) (show shN 0 = 19 from rfl) rfl (Nat.le_of_ble_eq_true rfl) ing0 mw_558 (fv_sg rfl rfl rfl) d_WF_drain_20 ?_
    obtain ⟨q4, hq4⟩ : ∃ q, q = (t_Past_remember M 47) := ⟨_, rfl⟩
    replace hT := qlet_eq hT hq4
    refine r_backV F hS (r_runV (k := 70) (N := 3) (T := T6) (As := [.ref (b + 47)]) F hS (show 70 < 191 by decide) (show shK 70 = 10 from rfl) rfl (c_Past_remember l F.2.2.1 M 47 (by decide : isScene 47) _ hq4.symm) gs_WF_287 hd_Past_remember ⟨Nat.le_of_ble_eq_true rfl, Nat.le_of_ble_eq_true rfl⟩ rfl hl.1 (Nat.le_of_ble_eq_true rfl) ⟨Nat.zero_le _, Nat.zero_le _⟩ rfl d_WF_drain_23) (fun H locs hS => ?_)
    refine lv_aload_n F.hx F.hb d_WF_drain_26 rfl (lv_at hl 1 rfl) ?_
    refine r_get (v := .ref (b + 47)) (N := 19) (T := T0) (j := 8) F hS (show 0 < 191 by decide) (show shK 0 = 4 from rfl) (show shN 0 = 19 from rfl) rfl (Nat.le_of_ble_eq_true rfl) ing0 mw_558 (fv_sg rfl rfl rfl) d_WF_drain_27 ?_
    refine lv_lconst (v := 0) F.hx F.hb d_WF_drain_30 rfl ?_
    refine r_putL (N := 7) (T := T9) (j := 6) F hS (show 47 < 191 by decide) (show shK 47 = 13 from rfl) (show shN 47 = 7 from rfl) rfl (Nat.le_of_ble_eq_true rfl) ing9 tyok9 nm9 rfl rfl rfl mw_292 d_WF_drain_31 (fun H locs hS => ?_)
    obtain ⟨M6, eM6⟩ : ∃ q, q = (setL q4 47 6 0) := ⟨_, rfl⟩
    replace hS : St b C n M6 s H locs := by rw [eM6]; exact hS
    replace hT := qlet_eq hT eM6
    refine lv_iload_n F.hx F.hb d_WF_drain_34 rfl (lv_at hl 0 rfl) ?_
    subst hT
    exact r_iret F hlk hr rfl hS h2 d_WF_drain_35
theorem d_WF_flood_0 : decode b_WF_flood 0 = .ok (.aload_n 0, 1) := dc_42 (by decide +kernel)
theorem d_WF_flood_1 : decode b_WF_flood 1 = .ok (.getfield 22, 3) := dc_180 (by decide +kernel)
theorem d_WF_flood_4 : decode b_WF_flood 4 = .ok (.iload_n 1, 1) := dc_27 (by decide +kernel)
theorem d_WF_flood_5 : decode b_WF_flood 5 = .ok (.invokevirtual 198, 3) := dc_182 (by decide +kernel)
theorem d_WF_flood_8 : decode b_WF_flood 8 = .ok (.ifCond .eq 10, 3) := dc_153 (by decide +kernel)
theorem d_WF_flood_11 : decode b_WF_flood 11 = .ok (.iload_n 2, 1) := dc_28 (by decide +kernel)
theorem d_WF_flood_12 : decode b_WF_flood 12 = .ok (.invokestatic 284, 3) := dc_184 (by decide +kernel)
theorem d_WF_flood_15 : decode b_WF_flood 15 = .ok (.ifCond .ne 7, 3) := dc_154 (by decide +kernel)
theorem d_WF_flood_18 : decode b_WF_flood 18 = .ok (.ldc2_w 309, 3) := dc_20 (by decide +kernel)
theorem d_WF_flood_21 : decode b_WF_flood 21 = .ok (.lreturn, 1) := dc_173 (by decide +kernel)
theorem d_WF_flood_22 : decode b_WF_flood 22 = .ok (.aload_n 0, 1) := dc_42 (by decide +kernel)
theorem d_WF_flood_23 : decode b_WF_flood 23 = .ok (.getfield 50, 3) := dc_180 (by decide +kernel)
theorem d_WF_flood_26 : decode b_WF_flood 26 = .ok (.aload_n 0, 1) := dc_42 (by decide +kernel)
theorem d_WF_flood_27 : decode b_WF_flood 27 = .ok (.getfield 46, 3) := dc_180 (by decide +kernel)
theorem d_WF_flood_30 : decode b_WF_flood 30 = .ok (.invokevirtual 299, 3) := dc_182 (by decide +kernel)
theorem d_WF_flood_33 : decode b_WF_flood 33 = .ok (.aload_n 0, 1) := dc_42 (by decide +kernel)
theorem d_WF_flood_34 : decode b_WF_flood 34 = .ok (.getfield 50, 3) := dc_180 (by decide +kernel)
theorem d_WF_flood_37 : decode b_WF_flood 37 = .ok (.getfield 201, 3) := dc_180 (by decide +kernel)
theorem d_WF_flood_40 : decode b_WF_flood 40 = .ok (.iload_n 1, 1) := dc_27 (by decide +kernel)
theorem d_WF_flood_41 : decode b_WF_flood 41 = .ok (.iload_n 2, 1) := dc_28 (by decide +kernel)
theorem d_WF_flood_42 : decode b_WF_flood 42 = .ok (.invokestatic 291, 3) := dc_184 (by decide +kernel)
theorem d_WF_flood_45 : decode b_WF_flood 45 = .ok (.aload_n 0, 1) := dc_42 (by decide +kernel)
theorem d_WF_flood_46 : decode b_WF_flood 46 = .ok (.getfield 50, 3) := dc_180 (by decide +kernel)
theorem d_WF_flood_49 : decode b_WF_flood 49 = .ok (.aload_n 0, 1) := dc_42 (by decide +kernel)
theorem d_WF_flood_50 : decode b_WF_flood 50 = .ok (.getfield 22, 3) := dc_180 (by decide +kernel)
theorem d_WF_flood_53 : decode b_WF_flood 53 = .ok (.invokevirtual 295, 3) := dc_182 (by decide +kernel)
theorem d_WF_flood_56 : decode b_WF_flood 56 = .ok (.aload_n 0, 1) := dc_42 (by decide +kernel)
theorem d_WF_flood_57 : decode b_WF_flood 57 = .ok (.getfield 50, 3) := dc_180 (by decide +kernel)
theorem d_WF_flood_60 : decode b_WF_flood 60 = .ok (.getfield 179, 3) := dc_180 (by decide +kernel)
theorem d_WF_flood_63 : decode b_WF_flood 63 = .ok (.lreturn, 1) := dc_173 (by decide +kernel)
def t_WF_flood (M : Mem) (x1 : Int) (x2 : Int) : Option (Mem × Int64) := (qlet (t_Town_hasWard M ((M.1 0 4).toNat) x1) fun q2 => (if q2 = 0 then (some (M, (-1))) else (qlet (t_WF_isDown M x2) fun q5 => (if q5 = 0 then (some (M, (-1))) else (qlet (t_Scene_copy M 52 47) fun q8 => (qlet (t_WF_put q8 53 4 x1 x2) fun q10 => (obind (t_Scene_pourAnew q10 52 ((q10.1 0 4).toNat)) fun q13 => (some (q13, (q13.2 52 6))))))))))
set_option maxHeartbeats 4000000 in
set_option maxRecDepth 100000 in
theorem c_WF_flood (l : Launch) {b n : Nat} {C : CT} (hlo : 191 ≤ n) (M : Mem) (x1 : Int) (x2 : Int) (hx1 : InR x1) (hx2 : InR x2) (res : Mem × Int64) (hT : t_WF_flood M x1 x2 = some res) : CM l b C n 5 y_WF_flood b_WF_flood 3 (some .long) [.ref (b + 0), vI x1, vI x2] M (QL b C n res.1 res.2) := by
  refine CM.of (lo := 191) (ow := "WardFalls") (by decide) rfl (Nat.le_of_ble_eq_true rfl) hlo (fun p e s m below meth c F hlk hr hS ls hl => ?_)
  have hl : lv_has ls 3 [(0, .ref (b + 0)), (1, vI x1), (2, vI x2)] := hl
  unfold t_WF_flood at hT
  refine lv_aload_n F.hx F.hb d_WF_flood_0 rfl (lv_at hl 0 rfl) ?_
  have h1 := St_town hS
  refine r_get (v := .ref (b + ((M.1 0 4).toNat))) (N := 19) (T := T0) (j := 4) F hS (show 0 < 191 by decide) (show shK 0 = 4 from rfl) (show shN 0 = 19 from rfl) rfl (Nat.le_of_ble_eq_true rfl) ing0 mw_554 (fv_town hS) d_WF_flood_1 ?_
  refine lv_iload_n F.hx F.hb d_WF_flood_4 rfl (lv_at hl 1 rfl) ?_
  obtain ⟨q2, hq2⟩ : ∃ q, q = (t_Town_hasWard M ((M.1 0 4).toNat) x1) := ⟨_, rfl⟩
  replace hT := qlet_eq hT hq2
  refine r_backZ F hS (r_runV (k := ((M.1 0 4).toNat)) (N := 20) (T := T11) (As := [vI x1]) F hS (Town_lt h1) (Town_sh h1) rfl (c_Town_hasWard l F.2.2.1 M ((M.1 0 4).toNat) x1 h1 hx1 _ hq2.symm) gs_WF_198 hd_Town_hasWard ⟨Nat.le_of_ble_eq_true rfl, Nat.le_of_ble_eq_true rfl⟩ rfl hl.1 (Nat.le_of_ble_eq_true rfl) ⟨Nat.zero_le _, Nat.zero_le _⟩ rfl d_WF_flood_5) (fun H locs hS h3 => ?_)
  refine r_if_eq (tgt := 18) F.hx F.hb (inr_z h3) d_WF_flood_8 (by decide) (fun c4 => ?_) (fun c4 => ?_)
  · replace hT := (if_pos c4).symm.trans hT
    refine lv_ldc2 (v := (-1)) F.hx F.hb F.hown (F.hts mw_1037) d_WF_flood_18 ?_
    cases hT
    exact r_lret F hlk hr hS d_WF_flood_21
  · replace hT := (if_neg c4).symm.trans hT
    refine lv_iload_n F.hx F.hb d_WF_flood_11 rfl (lv_at hl 2 rfl) ?_
    obtain ⟨q5, hq5⟩ : ∃ q, q = (t_WF_isDown M x2) := ⟨_, rfl⟩
    replace hT := qlet_eq hT hq5
    refine r_backZ F hS (r_runS (As := [vI x2]) F hS (c_WF_isDown l F.2.2.1 M x2 hx2 _ hq5.symm) gs_WF_284 hd_WF_isDown ⟨Nat.le_of_ble_eq_true rfl, Nat.le_of_ble_eq_true rfl⟩ rfl hl.1 (Nat.le_of_ble_eq_true rfl) ⟨Nat.zero_le _, Nat.zero_le _⟩ rfl d_WF_flood_12) (fun H locs hS h6 => ?_)
    refine r_if_ne (tgt := 22) F.hx F.hb (inr_z h6) d_WF_flood_15 (by decide) (fun c7 => ?_) (fun c7 => ?_)
    · replace hT := (if_neg c7).symm.trans hT
      refine lv_aload_n F.hx F.hb d_WF_flood_22 rfl (lv_at hl 0 rfl) ?_
      refine r_get (v := .ref (b + 52)) (N := 19) (T := T0) (j := 9) F hS (show 0 < 191 by decide) (show shK 0 = 4 from rfl) (show shN 0 = 19 from rfl) rfl (Nat.le_of_ble_eq_true rfl) ing0 mw_559 (fv_sg rfl rfl rfl) d_WF_flood_23 ?_
      refine lv_aload_n F.hx F.hb d_WF_flood_26 rfl (lv_at hl 0 rfl) ?_
      refine r_get (v := .ref (b + 47)) (N := 19) (T := T0) (j := 8) F hS (show 0 < 191 by decide) (show shK 0 = 4 from rfl) (show shN 0 = 19 from rfl) rfl (Nat.le_of_ble_eq_true rfl) ing0 mw_558 (fv_sg rfl rfl rfl) d_WF_flood_27 ?_
      obtain ⟨q8, hq8⟩ : ∃ q, q = (t_Scene_copy M 52 47) := ⟨_, rfl⟩
      replace hT := qlet_eq hT hq8
      refine r_backV F hS (r_runV (k := 52) (N := 7) (T := T9) (As := [.ref (b + 47)]) F hS (show 52 < 191 by decide) (show shK 52 = 13 from rfl) rfl (c_Scene_copy l F.2.2.1 M 52 47 (by decide : isScene 52) (by decide : isScene 47) _ hq8.symm) gs_WF_299 hd_Scene_copy ⟨Nat.le_of_ble_eq_true rfl, Nat.le_of_ble_eq_true rfl⟩ rfl hl.1 (Nat.le_of_ble_eq_true rfl) ⟨Nat.zero_le _, Nat.zero_le _⟩ rfl d_WF_flood_30) (fun H locs hS => ?_)
      refine lv_aload_n F.hx F.hb d_WF_flood_33 rfl (lv_at hl 0 rfl) ?_
      refine r_get (v := .ref (b + 52)) (N := 19) (T := T0) (j := 9) F hS (show 0 < 191 by decide) (show shK 0 = 4 from rfl) (show shN 0 = 19 from rfl) rfl (Nat.le_of_ble_eq_true rfl) ing0 mw_559 (fv_sg rfl rfl rfl) d_WF_flood_34 ?_
      refine r_get (v := .ref (b + 53)) (N := 7) (T := T9) (j := 0) F hS (show 52 < 191 by decide) (show shK 52 = 13 from rfl) (show shN 52 = 7 from rfl) rfl (Nat.le_of_ble_eq_true rfl) ing9 mw_276 (fv_sg rfl rfl rfl) d_WF_flood_37 ?_
      refine lv_iload_n F.hx F.hb d_WF_flood_40 rfl (lv_at hl 1 rfl) ?_
      refine lv_iload_n F.hx F.hb d_WF_flood_41 rfl (lv_at hl 2 rfl) ?_
      obtain ⟨q10, hq10⟩ : ∃ q, q = (t_WF_put q8 53 4 x1 x2) := ⟨_, rfl⟩
      replace hT := qlet_eq hT hq10
      refine r_backV F hS (r_runS (As := [.ref (b + 53), vI x1, vI x2]) F hS (c_WF_put l F.2.2.1 q8 53 4 x1 x2 (show arrP 0 53 4 191 from ⟨rfl, rfl, by decide⟩) hx1 hx2 _ hq10.symm) gs_WF_291 hd_WF_put ⟨Nat.le_of_ble_eq_true rfl, Nat.le_of_ble_eq_true rfl⟩ rfl hl.1 (Nat.le_of_ble_eq_true rfl) ⟨Nat.zero_le _, Nat.zero_le _⟩ rfl d_WF_flood_42) (fun H locs hS => ?_)
      refine lv_aload_n F.hx F.hb d_WF_flood_45 rfl (lv_at hl 0 rfl) ?_
      refine r_get (v := .ref (b + 52)) (N := 19) (T := T0) (j := 9) F hS (show 0 < 191 by decide) (show shK 0 = 4 from rfl) (show shN 0 = 19 from rfl) rfl (Nat.le_of_ble_eq_true rfl) ing0 mw_559 (fv_sg rfl rfl rfl) d_WF_flood_46 ?_
      refine lv_aload_n F.hx F.hb d_WF_flood_49 rfl (lv_at hl 0 rfl) ?_
      have h12 := St_town hS
      refine r_get (v := .ref (b + ((q10.1 0 4).toNat))) (N := 19) (T := T0) (j := 4) F hS (show 0 < 191 by decide) (show shK 0 = 4 from rfl) (show shN 0 = 19 from rfl) rfl (Nat.le_of_ble_eq_true rfl) ing0 mw_554 (fv_town hS) d_WF_flood_50 ?_
      obtain ⟨q13, hq13, hT⟩ := q_obind hT
      refine r_backV F hS (r_runV (k := 52) (N := 7) (T := T9) (As := [.ref (b + ((q10.1 0 4).toNat))]) F hS (show 52 < 191 by decide) (show shK 52 = 13 from rfl) rfl (c_Scene_pourAnew l F.2.2.1 q10 52 ((q10.1 0 4).toNat) (by decide : isScene 52) h12 _ hq13) gs_WF_295 hd_Scene_pourAnew ⟨Nat.le_of_ble_eq_true rfl, Nat.le_of_ble_eq_true rfl⟩ rfl hl.1 (Nat.le_of_ble_eq_true rfl) ⟨Nat.zero_le _, Nat.zero_le _⟩ rfl d_WF_flood_53) (fun H locs hS => ?_)
      refine lv_aload_n F.hx F.hb d_WF_flood_56 rfl (lv_at hl 0 rfl) ?_
      refine r_get (v := .ref (b + 52)) (N := 19) (T := T0) (j := 9) F hS (show 0 < 191 by decide) (show shK 0 = 4 from rfl) (show shN 0 = 19 from rfl) rfl (Nat.le_of_ble_eq_true rfl) ing0 mw_559 (fv_sg rfl rfl rfl) d_WF_flood_57 ?_
      refine r_get (v := .long (q13.2 52 6)) (N := 7) (T := T9) (j := 6) F hS (show 52 < 191 by decide) (show shK 52 = 13 from rfl) (show shN 52 = 7 from rfl) rfl (Nat.le_of_ble_eq_true rfl) ing9 mw_292 (fv_long rfl) d_WF_flood_60 ?_
      cases hT
      exact r_lret F hlk hr hS d_WF_flood_63
    · replace hT := (if_pos c7).symm.trans hT
      refine lv_ldc2 (v := (-1)) F.hx F.hb F.hown (F.hts mw_1037) d_WF_flood_18 ?_
      cases hT
      exact r_lret F hlk hr hS d_WF_flood_21
theorem d_WF_canWalk_0 : decode b_WF_canWalk 0 = .ok (.aload_n 0, 1) := dc_42 (by decide +kernel)
theorem d_WF_canWalk_1 : decode b_WF_canWalk 1 = .ok (.getfield 22, 3) := dc_180 (by decide +kernel)
theorem d_WF_canWalk_4 : decode b_WF_canWalk 4 = .ok (.iload_n 1, 1) := dc_27 (by decide +kernel)
theorem d_WF_canWalk_5 : decode b_WF_canWalk 5 = .ok (.invokevirtual 150, 3) := dc_182 (by decide +kernel)
theorem d_WF_canWalk_8 : decode b_WF_canWalk 8 = .ok (.ifCond .eq 48, 3) := dc_153 (by decide +kernel)
theorem d_WF_canWalk_11 : decode b_WF_canWalk 11 = .ok (.aload_n 0, 1) := dc_42 (by decide +kernel)
theorem d_WF_canWalk_12 : decode b_WF_canWalk 12 = .ok (.getfield 22, 3) := dc_180 (by decide +kernel)
theorem d_WF_canWalk_15 : decode b_WF_canWalk 15 = .ok (.iload_n 2, 1) := dc_28 (by decide +kernel)
theorem d_WF_canWalk_16 : decode b_WF_canWalk 16 = .ok (.invokevirtual 150, 3) := dc_182 (by decide +kernel)
theorem d_WF_canWalk_19 : decode b_WF_canWalk 19 = .ok (.ifCond .eq 37, 3) := dc_153 (by decide +kernel)
theorem d_WF_canWalk_22 : decode b_WF_canWalk 22 = .ok (.aload_n 0, 1) := dc_42 (by decide +kernel)
theorem d_WF_canWalk_23 : decode b_WF_canWalk 23 = .ok (.getfield 46, 3) := dc_180 (by decide +kernel)
theorem d_WF_canWalk_26 : decode b_WF_canWalk 26 = .ok (.aload_n 0, 1) := dc_42 (by decide +kernel)
theorem d_WF_canWalk_27 : decode b_WF_canWalk 27 = .ok (.getfield 22, 3) := dc_180 (by decide +kernel)
theorem d_WF_canWalk_30 : decode b_WF_canWalk 30 = .ok (.iload_n 1, 1) := dc_27 (by decide +kernel)
theorem d_WF_canWalk_31 : decode b_WF_canWalk 31 = .ok (.invokevirtual 189, 3) := dc_182 (by decide +kernel)
theorem d_WF_canWalk_34 : decode b_WF_canWalk 34 = .ok (.ifCond .eq 22, 3) := dc_153 (by decide +kernel)
theorem d_WF_canWalk_37 : decode b_WF_canWalk 37 = .ok (.aload_n 0, 1) := dc_42 (by decide +kernel)
theorem d_WF_canWalk_38 : decode b_WF_canWalk 38 = .ok (.getfield 46, 3) := dc_180 (by decide +kernel)
theorem d_WF_canWalk_41 : decode b_WF_canWalk 41 = .ok (.aload_n 0, 1) := dc_42 (by decide +kernel)
theorem d_WF_canWalk_42 : decode b_WF_canWalk 42 = .ok (.getfield 22, 3) := dc_180 (by decide +kernel)
theorem d_WF_canWalk_45 : decode b_WF_canWalk 45 = .ok (.iload_n 2, 1) := dc_28 (by decide +kernel)
theorem d_WF_canWalk_46 : decode b_WF_canWalk 46 = .ok (.invokevirtual 189, 3) := dc_182 (by decide +kernel)
theorem d_WF_canWalk_49 : decode b_WF_canWalk 49 = .ok (.ifCond .eq 7, 3) := dc_153 (by decide +kernel)
theorem d_WF_canWalk_52 : decode b_WF_canWalk 52 = .ok (.iconst 1, 1) := dc_4 (by decide +kernel)
theorem d_WF_canWalk_53 : decode b_WF_canWalk 53 = .ok (.goto 4, 3) := dc_167 (by decide +kernel)
theorem d_WF_canWalk_56 : decode b_WF_canWalk 56 = .ok (.iconst 0, 1) := dc_3 (by decide +kernel)
theorem d_WF_canWalk_57 : decode b_WF_canWalk 57 = .ok (.ireturn, 1) := dc_172 (by decide +kernel)
def t_WF_canWalk (M : Mem) (x1 : Int) (x2 : Int) : Int := (qlet (t_Town_hasCell M ((M.1 0 4).toNat) x1) fun q2 => (if q2 = 0 then 0 else (qlet (t_Town_hasCell M ((M.1 0 4).toNat) x2) fun q6 => (if q6 = 0 then 0 else (qlet (t_Scene_standsIn M 47 ((M.1 0 4).toNat) x1) fun q10 => (if q10 = 0 then 0 else (qlet (t_Scene_standsIn M 47 ((M.1 0 4).toNat) x2) fun q14 => (if q14 = 0 then 0 else 1))))))))
set_option maxHeartbeats 4000000 in
set_option maxRecDepth 100000 in
theorem c_WF_canWalk (l : Launch) {b n : Nat} {C : CT} (hlo : 191 ≤ n) (M : Mem) (x1 : Int) (x2 : Int) (hx1 : InR x1) (hx2 : InR x2) (res : Int) (hT : t_WF_canWalk M x1 x2 = res) : CM l b C n 3 y_WF_canWalk b_WF_canWalk 3 (some .boolean) [.ref (b + 0), vI x1, vI x2] M (QZ b C n M res) := by
  refine CM.of (lo := 191) (ow := "WardFalls") (by decide) rfl (Nat.le_of_ble_eq_true rfl) hlo (fun p e s m below meth c F hlk hr hS ls hl => ?_)
  have hl : lv_has ls 3 [(0, .ref (b + 0)), (1, vI x1), (2, vI x2)] := hl
  unfold t_WF_canWalk at hT
  refine lv_aload_n F.hx F.hb d_WF_canWalk_0 rfl (lv_at hl 0 rfl) ?_
  have h1 := St_town hS
  refine r_get (v := .ref (b + ((M.1 0 4).toNat))) (N := 19) (T := T0) (j := 4) F hS (show 0 < 191 by decide) (show shK 0 = 4 from rfl) (show shN 0 = 19 from rfl) rfl (Nat.le_of_ble_eq_true rfl) ing0 mw_554 (fv_town hS) d_WF_canWalk_1 ?_
  refine lv_iload_n F.hx F.hb d_WF_canWalk_4 rfl (lv_at hl 1 rfl) ?_
  obtain ⟨q2, hq2⟩ : ∃ q, q = (t_Town_hasCell M ((M.1 0 4).toNat) x1) := ⟨_, rfl⟩
  replace hT := qlet_eq hT hq2
  refine r_backZ F hS (r_runV (k := ((M.1 0 4).toNat)) (N := 20) (T := T11) (As := [vI x1]) F hS (Town_lt h1) (Town_sh h1) rfl (c_Town_hasCell l F.2.2.1 M ((M.1 0 4).toNat) x1 h1 hx1 _ hq2.symm) gs_WF_150 hd_Town_hasCell ⟨Nat.le_of_ble_eq_true rfl, Nat.le_of_ble_eq_true rfl⟩ rfl hl.1 (Nat.le_of_ble_eq_true rfl) ⟨Nat.zero_le _, Nat.zero_le _⟩ rfl d_WF_canWalk_5) (fun H locs hS h3 => ?_)
  refine r_if_eq (tgt := 56) F.hx F.hb (inr_z h3) d_WF_canWalk_8 (by decide) (fun c4 => ?_) (fun c4 => ?_)
  · replace hT := (if_pos c4).symm.trans hT
    refine r_iconst F.hx F.hb d_WF_canWalk_56 ?_
    subst hT
    exact r_zret F hlk hr hS (Or.inl rfl) d_WF_canWalk_57
  · replace hT := (if_neg c4).symm.trans hT
    refine lv_aload_n F.hx F.hb d_WF_canWalk_11 rfl (lv_at hl 0 rfl) ?_
    have h5 := St_town hS
    refine r_get (v := .ref (b + ((M.1 0 4).toNat))) (N := 19) (T := T0) (j := 4) F hS (show 0 < 191 by decide) (show shK 0 = 4 from rfl) (show shN 0 = 19 from rfl) rfl (Nat.le_of_ble_eq_true rfl) ing0 mw_554 (fv_town hS) d_WF_canWalk_12 ?_
    refine lv_iload_n F.hx F.hb d_WF_canWalk_15 rfl (lv_at hl 2 rfl) ?_
    obtain ⟨q6, hq6⟩ : ∃ q, q = (t_Town_hasCell M ((M.1 0 4).toNat) x2) := ⟨_, rfl⟩
    replace hT := qlet_eq hT hq6
    refine r_backZ F hS (r_runV (k := ((M.1 0 4).toNat)) (N := 20) (T := T11) (As := [vI x2]) F hS (Town_lt h5) (Town_sh h5) rfl (c_Town_hasCell l F.2.2.1 M ((M.1 0 4).toNat) x2 h5 hx2 _ hq6.symm) gs_WF_150 hd_Town_hasCell ⟨Nat.le_of_ble_eq_true rfl, Nat.le_of_ble_eq_true rfl⟩ rfl hl.1 (Nat.le_of_ble_eq_true rfl) ⟨Nat.zero_le _, Nat.zero_le _⟩ rfl d_WF_canWalk_16) (fun H locs hS h7 => ?_)
    refine r_if_eq (tgt := 56) F.hx F.hb (inr_z h7) d_WF_canWalk_19 (by decide) (fun c8 => ?_) (fun c8 => ?_)
    · replace hT := (if_pos c8).symm.trans hT
      refine r_iconst F.hx F.hb d_WF_canWalk_56 ?_
      subst hT
      exact r_zret F hlk hr hS (Or.inl rfl) d_WF_canWalk_57
    · replace hT := (if_neg c8).symm.trans hT
      refine lv_aload_n F.hx F.hb d_WF_canWalk_22 rfl (lv_at hl 0 rfl) ?_
      refine r_get (v := .ref (b + 47)) (N := 19) (T := T0) (j := 8) F hS (show 0 < 191 by decide) (show shK 0 = 4 from rfl) (show shN 0 = 19 from rfl) rfl (Nat.le_of_ble_eq_true rfl) ing0 mw_558 (fv_sg rfl rfl rfl) d_WF_canWalk_23 ?_
      refine lv_aload_n F.hx F.hb d_WF_canWalk_26 rfl (lv_at hl 0 rfl) ?_
      have h9 := St_town hS
      refine r_get (v := .ref (b + ((M.1 0 4).toNat))) (N := 19) (T := T0) (j := 4) F hS (show 0 < 191 by decide) (show shK 0 = 4 from rfl) (show shN 0 = 19 from rfl) rfl (Nat.le_of_ble_eq_true rfl) ing0 mw_554 (fv_town hS) d_WF_canWalk_27 ?_
      refine lv_iload_n F.hx F.hb d_WF_canWalk_30 rfl (lv_at hl 1 rfl) ?_
      obtain ⟨q10, hq10⟩ : ∃ q, q = (t_Scene_standsIn M 47 ((M.1 0 4).toNat) x1) := ⟨_, rfl⟩
      replace hT := qlet_eq hT hq10
      refine r_backZ F hS (r_runV (k := 47) (N := 7) (T := T9) (As := [.ref (b + ((M.1 0 4).toNat)), vI x1]) F hS (show 47 < 191 by decide) (show shK 47 = 13 from rfl) rfl (c_Scene_standsIn l F.2.2.1 M 47 ((M.1 0 4).toNat) x1 (by decide : isScene 47) h9 hx1 _ hq10.symm) gs_WF_189 hd_Scene_standsIn ⟨Nat.le_of_ble_eq_true rfl, Nat.le_of_ble_eq_true rfl⟩ rfl hl.1 (Nat.le_of_ble_eq_true rfl) ⟨Nat.zero_le _, Nat.zero_le _⟩ rfl d_WF_canWalk_31) (fun H locs hS h11 => ?_)
      refine r_if_eq (tgt := 56) F.hx F.hb (inr_z h11) d_WF_canWalk_34 (by decide) (fun c12 => ?_) (fun c12 => ?_)
      · replace hT := (if_pos c12).symm.trans hT
        refine r_iconst F.hx F.hb d_WF_canWalk_56 ?_
        subst hT
        exact r_zret F hlk hr hS (Or.inl rfl) d_WF_canWalk_57
      · replace hT := (if_neg c12).symm.trans hT
        refine lv_aload_n F.hx F.hb d_WF_canWalk_37 rfl (lv_at hl 0 rfl) ?_
        refine r_get (v := .ref (b + 47)) (N := 19) (T := T0) (j := 8) F hS (show 0 < 191 by decide) (show shK 0 = 4 from rfl) (show shN 0 = 19 from rfl) rfl (Nat.le_of_ble_eq_true rfl) ing0 mw_558 (fv_sg rfl rfl rfl) d_WF_canWalk_38 ?_
        refine lv_aload_n F.hx F.hb d_WF_canWalk_41 rfl (lv_at hl 0 rfl) ?_
        have h13 := St_town hS
        refine r_get (v := .ref (b + ((M.1 0 4).toNat))) (N := 19) (T := T0) (j := 4) F hS (show 0 < 191 by decide) (show shK 0 = 4 from rfl) (show shN 0 = 19 from rfl) rfl (Nat.le_of_ble_eq_true rfl) ing0 mw_554 (fv_town hS) d_WF_canWalk_42 ?_
        refine lv_iload_n F.hx F.hb d_WF_canWalk_45 rfl (lv_at hl 2 rfl) ?_
        obtain ⟨q14, hq14⟩ : ∃ q, q = (t_Scene_standsIn M 47 ((M.1 0 4).toNat) x2) := ⟨_, rfl⟩
        replace hT := qlet_eq hT hq14
        refine r_backZ F hS (r_runV (k := 47) (N := 7) (T := T9) (As := [.ref (b + ((M.1 0 4).toNat)), vI x2]) F hS (show 47 < 191 by decide) (show shK 47 = 13 from rfl) rfl (c_Scene_standsIn l F.2.2.1 M 47 ((M.1 0 4).toNat) x2 (by decide : isScene 47) h13 hx2 _ hq14.symm) gs_WF_189 hd_Scene_standsIn ⟨Nat.le_of_ble_eq_true rfl, Nat.le_of_ble_eq_true rfl⟩ rfl hl.1 (Nat.le_of_ble_eq_true rfl) ⟨Nat.zero_le _, Nat.zero_le _⟩ rfl d_WF_canWalk_46) (fun H locs hS h15 => ?_)
        refine r_if_eq (tgt := 56) F.hx F.hb (inr_z h15) d_WF_canWalk_49 (by decide) (fun c16 => ?_) (fun c16 => ?_)
        · replace hT := (if_pos c16).symm.trans hT
          refine r_iconst F.hx F.hb d_WF_canWalk_56 ?_
          subst hT
          exact r_zret F hlk hr hS (Or.inl rfl) d_WF_canWalk_57
        · replace hT := (if_neg c16).symm.trans hT
          refine r_iconst F.hx F.hb d_WF_canWalk_52 ?_
          refine lv_goto (tgt := 57) F.hx F.hb d_WF_canWalk_53 (by decide) ?_
          subst hT
          exact r_zret F hlk hr hS (Or.inr rfl) d_WF_canWalk_57
theorem d_Paths_canStep_0 : decode b_Paths_canStep 0 = .ok (.iload_n 3, 1) := dc_29 (by decide +kernel)
theorem d_Paths_canStep_1 : decode b_Paths_canStep 1 = .ok (.ifCond .lt 21, 3) := dc_155 (by decide +kernel)
theorem d_Paths_canStep_4 : decode b_Paths_canStep 4 = .ok (.aload_n 1, 1) := dc_43 (by decide +kernel)
theorem d_Paths_canStep_5 : decode b_Paths_canStep 5 = .ok (.aload_n 0, 1) := dc_42 (by decide +kernel)
theorem d_Paths_canStep_6 : decode b_Paths_canStep 6 = .ok (.iload_n 2, 1) := dc_28 (by decide +kernel)
theorem d_Paths_canStep_7 : decode b_Paths_canStep 7 = .ok (.invokevirtual 66, 3) := dc_182 (by decide +kernel)
theorem d_Paths_canStep_10 : decode b_Paths_canStep 10 = .ok (.ifCond .eq 12, 3) := dc_153 (by decide +kernel)
theorem d_Paths_canStep_13 : decode b_Paths_canStep 13 = .ok (.aload_n 1, 1) := dc_43 (by decide +kernel)
theorem d_Paths_canStep_14 : decode b_Paths_canStep 14 = .ok (.aload_n 0, 1) := dc_42 (by decide +kernel)
theorem d_Paths_canStep_15 : decode b_Paths_canStep 15 = .ok (.iload_n 3, 1) := dc_29 (by decide +kernel)
theorem d_Paths_canStep_16 : decode b_Paths_canStep 16 = .ok (.invokevirtual 66, 3) := dc_182 (by decide +kernel)
theorem d_Paths_canStep_19 : decode b_Paths_canStep 19 = .ok (.ifCond .ne 5, 3) := dc_154 (by decide +kernel)
theorem d_Paths_canStep_22 : decode b_Paths_canStep 22 = .ok (.iconst 0, 1) := dc_3 (by decide +kernel)
theorem d_Paths_canStep_23 : decode b_Paths_canStep 23 = .ok (.ireturn, 1) := dc_172 (by decide +kernel)
theorem d_Paths_canStep_24 : decode b_Paths_canStep 24 = .ok (.aload_n 0, 1) := dc_42 (by decide +kernel)
theorem d_Paths_canStep_25 : decode b_Paths_canStep 25 = .ok (.iload_n 2, 1) := dc_28 (by decide +kernel)
theorem d_Paths_canStep_26 : decode b_Paths_canStep 26 = .ok (.iload_n 3, 1) := dc_29 (by decide +kernel)
theorem d_Paths_canStep_27 : decode b_Paths_canStep 27 = .ok (.invokevirtual 72, 3) := dc_182 (by decide +kernel)
theorem d_Paths_canStep_30 : decode b_Paths_canStep 30 = .ok (.ifCond .eq 27, 3) := dc_153 (by decide +kernel)
theorem d_Paths_canStep_33 : decode b_Paths_canStep 33 = .ok (.aload_n 0, 1) := dc_42 (by decide +kernel)
theorem d_Paths_canStep_34 : decode b_Paths_canStep 34 = .ok (.getfield 76, 3) := dc_180 (by decide +kernel)
theorem d_Paths_canStep_37 : decode b_Paths_canStep 37 = .ok (.iload_n 2, 1) := dc_28 (by decide +kernel)
theorem d_Paths_canStep_38 : decode b_Paths_canStep 38 = .ok (.invokestatic 80, 3) := dc_184 (by decide +kernel)
theorem d_Paths_canStep_41 : decode b_Paths_canStep 41 = .ok (.iconst 1, 1) := dc_4 (by decide +kernel)
theorem d_Paths_canStep_42 : decode b_Paths_canStep 42 = .ok (.if_icmp .eq 15, 3) := dc_159 (by decide +kernel)
theorem d_Paths_canStep_45 : decode b_Paths_canStep 45 = .ok (.aload_n 0, 1) := dc_42 (by decide +kernel)
theorem d_Paths_canStep_46 : decode b_Paths_canStep 46 = .ok (.getfield 76, 3) := dc_180 (by decide +kernel)
theorem d_Paths_canStep_49 : decode b_Paths_canStep 49 = .ok (.iload_n 3, 1) := dc_29 (by decide +kernel)
theorem d_Paths_canStep_50 : decode b_Paths_canStep 50 = .ok (.invokestatic 80, 3) := dc_184 (by decide +kernel)
theorem d_Paths_canStep_53 : decode b_Paths_canStep 53 = .ok (.iconst 1, 1) := dc_4 (by decide +kernel)
theorem d_Paths_canStep_54 : decode b_Paths_canStep 54 = .ok (.if_icmp .ne 7, 3) := dc_160 (by decide +kernel)
theorem d_Paths_canStep_57 : decode b_Paths_canStep 57 = .ok (.iconst 1, 1) := dc_4 (by decide +kernel)
theorem d_Paths_canStep_58 : decode b_Paths_canStep 58 = .ok (.goto 4, 3) := dc_167 (by decide +kernel)
theorem d_Paths_canStep_61 : decode b_Paths_canStep 61 = .ok (.iconst 0, 1) := dc_3 (by decide +kernel)
theorem d_Paths_canStep_62 : decode b_Paths_canStep 62 = .ok (.ireturn, 1) := dc_172 (by decide +kernel)
def t_Paths_canStep (M : Mem) (k1 : Nat) (k2 : Nat) (x3 : Int) (x4 : Int) : Int := (if x4 < 0 then 0 else (qlet (t_Scene_standsIn M k2 k1 x3) fun q2 => (if q2 = 0 then 0 else (qlet (t_Scene_standsIn M k2 k1 x4) fun q5 => (if q5 = 0 then 0 else (qlet (t_Town_isLine M k1 x3 x4) fun q8 => (if q8 = 0 then 1 else (qlet (t_WF_bitOf M (M.2 k1 19) x3) fun q11 => (if q11 = 1 then 1 else (qlet (t_WF_bitOf M (M.2 k1 19) x4) fun q14 => (if q14 = 1 then 1 else 0)))))))))))
set_option maxHeartbeats 4000000 in
set_option maxRecDepth 100000 in
theorem c_Paths_canStep (l : Launch) {b n : Nat} {C : CT} (hlo : 191 ≤ n) (M : Mem) (k1 : Nat) (k2 : Nat) (x3 : Int) (x4 : Int) (hk1 : isTown k1) (hk2 : isScene k2) (hx3 : InR x3) (hx4 : InR x4) (res : Int) (hT : t_Paths_canStep M k1 k2 x3 x4 = res) : CM l b C n 3 y_Paths_canStep b_Paths_canStep 4 (some .boolean) [.ref (b + k1), .ref (b + k2), vI x3, vI x4] M (QZ b C n M res) := by
  refine CM.of (lo := 191) (ow := "WardFalls$Paths") (by decide) rfl (Nat.le_of_ble_eq_true rfl) hlo (fun p e s m below meth c F hlk hr hS ls hl => ?_)
  have hl : lv_has ls 4 [(0, .ref (b + k1)), (1, .ref (b + k2)), (2, vI x3), (3, vI x4)] := hl
  unfold t_Paths_canStep at hT
  refine lv_iload_n F.hx F.hb d_Paths_canStep_0 rfl (lv_at hl 3 rfl) ?_
  refine r_if_lt (tgt := 22) F.hx F.hb hx4 d_Paths_canStep_1 (by decide) (fun c1 => ?_) (fun c1 => ?_)
  · replace hT := (if_pos c1).symm.trans hT
    refine r_iconst F.hx F.hb d_Paths_canStep_22 ?_
    subst hT
    exact r_zret F hlk hr hS (Or.inl rfl) d_Paths_canStep_23
  · replace hT := (if_neg c1).symm.trans hT
    refine lv_aload_n F.hx F.hb d_Paths_canStep_4 rfl (lv_at hl 1 rfl) ?_
    refine lv_aload_n F.hx F.hb d_Paths_canStep_5 rfl (lv_at hl 0 rfl) ?_
    refine lv_iload_n F.hx F.hb d_Paths_canStep_6 rfl (lv_at hl 2 rfl) ?_
    obtain ⟨q2, hq2⟩ : ∃ q, q = (t_Scene_standsIn M k2 k1 x3) := ⟨_, rfl⟩
    replace hT := qlet_eq hT hq2
    refine r_backZ F hS (r_runV (k := k2) (N := 7) (T := T9) (As := [.ref (b + k1), vI x3]) F hS (Scene_lt hk2) (Scene_sh hk2) rfl (c_Scene_standsIn l F.2.2.1 M k2 k1 x3 hk2 hk1 hx3 _ hq2.symm) gs_Paths_66 hd_Scene_standsIn ⟨Nat.le_of_ble_eq_true rfl, Nat.le_of_ble_eq_true rfl⟩ rfl hl.1 (Nat.le_of_ble_eq_true rfl) ⟨Nat.zero_le _, Nat.zero_le _⟩ rfl d_Paths_canStep_7) (fun H locs hS h3 => ?_)
    refine r_if_eq (tgt := 22) F.hx F.hb (inr_z h3) d_Paths_canStep_10 (by decide) (fun c4 => ?_) (fun c4 => ?_)
    · replace hT := (if_pos c4).symm.trans hT
      refine r_iconst F.hx F.hb d_Paths_canStep_22 ?_
      subst hT
      exact r_zret F hlk hr hS (Or.inl rfl) d_Paths_canStep_23
    · replace hT := (if_neg c4).symm.trans hT
      refine lv_aload_n F.hx F.hb d_Paths_canStep_13 rfl (lv_at hl 1 rfl) ?_
      refine lv_aload_n F.hx F.hb d_Paths_canStep_14 rfl (lv_at hl 0 rfl) ?_
      refine lv_iload_n F.hx F.hb d_Paths_canStep_15 rfl (lv_at hl 3 rfl) ?_
      obtain ⟨q5, hq5⟩ : ∃ q, q = (t_Scene_standsIn M k2 k1 x4) := ⟨_, rfl⟩
      replace hT := qlet_eq hT hq5
      refine r_backZ F hS (r_runV (k := k2) (N := 7) (T := T9) (As := [.ref (b + k1), vI x4]) F hS (Scene_lt hk2) (Scene_sh hk2) rfl (c_Scene_standsIn l F.2.2.1 M k2 k1 x4 hk2 hk1 hx4 _ hq5.symm) gs_Paths_66 hd_Scene_standsIn ⟨Nat.le_of_ble_eq_true rfl, Nat.le_of_ble_eq_true rfl⟩ rfl hl.1 (Nat.le_of_ble_eq_true rfl) ⟨Nat.zero_le _, Nat.zero_le _⟩ rfl d_Paths_canStep_16) (fun H locs hS h6 => ?_)
      refine r_if_ne (tgt := 24) F.hx F.hb (inr_z h6) d_Paths_canStep_19 (by decide) (fun c7 => ?_) (fun c7 => ?_)
      · replace hT := (if_neg c7).symm.trans hT
        refine lv_aload_n F.hx F.hb d_Paths_canStep_24 rfl (lv_at hl 0 rfl) ?_
        refine lv_iload_n F.hx F.hb d_Paths_canStep_25 rfl (lv_at hl 2 rfl) ?_
        refine lv_iload_n F.hx F.hb d_Paths_canStep_26 rfl (lv_at hl 3 rfl) ?_
        obtain ⟨q8, hq8⟩ : ∃ q, q = (t_Town_isLine M k1 x3 x4) := ⟨_, rfl⟩
        replace hT := qlet_eq hT hq8
        refine r_backZ F hS (r_runV (k := k1) (N := 20) (T := T11) (As := [vI x3, vI x4]) F hS (Town_lt hk1) (Town_sh hk1) rfl (c_Town_isLine l F.2.2.1 M k1 x3 x4 hk1 hx3 hx4 _ hq8.symm) gs_Paths_72 hd_Town_isLine ⟨Nat.le_of_ble_eq_true rfl, Nat.le_of_ble_eq_true rfl⟩ rfl hl.1 (Nat.le_of_ble_eq_true rfl) ⟨Nat.zero_le _, Nat.zero_le _⟩ rfl d_Paths_canStep_27) (fun H locs hS h9 => ?_)
        refine r_if_eq (tgt := 57) F.hx F.hb (inr_z h9) d_Paths_canStep_30 (by decide) (fun c10 => ?_) (fun c10 => ?_)
        · replace hT := (if_pos c10).symm.trans hT
          refine r_iconst F.hx F.hb d_Paths_canStep_57 ?_
          refine lv_goto (tgt := 62) F.hx F.hb d_Paths_canStep_58 (by decide) ?_
          subst hT
          exact r_zret F hlk hr hS (Or.inr rfl) d_Paths_canStep_62
        · replace hT := (if_neg c10).symm.trans hT
          refine lv_aload_n F.hx F.hb d_Paths_canStep_33 rfl (lv_at hl 0 rfl) ?_
          refine r_get (v := .long (M.2 k1 19)) (N := 20) (T := T11) (j := 19) F hS (Town_lt hk1) (Town_sh hk1) (Town_N hk1) rfl (Nat.le_of_ble_eq_true rfl) ing11 mw_156 (fv_long rfl) d_Paths_canStep_34 ?_
          refine lv_iload_n F.hx F.hb d_Paths_canStep_37 rfl (lv_at hl 2 rfl) ?_
          obtain ⟨q11, hq11⟩ : ∃ q, q = (t_WF_bitOf M (M.2 k1 19) x3) := ⟨_, rfl⟩
          replace hT := qlet_eq hT hq11
          refine r_backI F hS (r_runSN (As := [.long (M.2 k1 19), vI x3]) F hS (c_WF_bitOf l F.2.2.1 M (M.2 k1 19) x3 hx3 _ hq11.symm) mw_773 mw_772 mw_1 gs_Paths_80 hd_WF_bitOf ⟨Nat.le_of_ble_eq_true rfl, Nat.le_of_ble_eq_true rfl⟩ rfl hl.1 (Nat.le_of_ble_eq_true rfl) ⟨Nat.zero_le _, Nat.zero_le _⟩ rfl d_Paths_canStep_38) (fun H locs hS h12 => ?_)
          refine r_iconst F.hx F.hb d_Paths_canStep_41 ?_
          refine r_icmp_eq (tgt := 57) F.hx F.hb h12 (inr_c rfl) d_Paths_canStep_42 (by decide) (fun c13 => ?_) (fun c13 => ?_)
          · replace hT := (if_pos c13).symm.trans hT
            refine r_iconst F.hx F.hb d_Paths_canStep_57 ?_
            refine lv_goto (tgt := 62) F.hx F.hb d_Paths_canStep_58 (by decide) ?_
            subst hT
            exact r_zret F hlk hr hS (Or.inr rfl) d_Paths_canStep_62
          · replace hT := (if_neg c13).symm.trans hT
            refine lv_aload_n F.hx F.hb d_Paths_canStep_45 rfl (lv_at hl 0 rfl) ?_
            refine r_get (v := .long (M.2 k1 19)) (N := 20) (T := T11) (j := 19) F hS (Town_lt hk1) (Town_sh hk1) (Town_N hk1) rfl (Nat.le_of_ble_eq_true rfl) ing11 mw_156 (fv_long rfl) d_Paths_canStep_46 ?_
            refine lv_iload_n F.hx F.hb d_Paths_canStep_49 rfl (lv_at hl 3 rfl) ?_
            obtain ⟨q14, hq14⟩ : ∃ q, q = (t_WF_bitOf M (M.2 k1 19) x4) := ⟨_, rfl⟩
            replace hT := qlet_eq hT hq14
            refine r_backI F hS (r_runSN (As := [.long (M.2 k1 19), vI x4]) F hS (c_WF_bitOf l F.2.2.1 M (M.2 k1 19) x4 hx4 _ hq14.symm) mw_773 mw_772 mw_1 gs_Paths_80 hd_WF_bitOf ⟨Nat.le_of_ble_eq_true rfl, Nat.le_of_ble_eq_true rfl⟩ rfl hl.1 (Nat.le_of_ble_eq_true rfl) ⟨Nat.zero_le _, Nat.zero_le _⟩ rfl d_Paths_canStep_50) (fun H locs hS h15 => ?_)
            refine r_iconst F.hx F.hb d_Paths_canStep_53 ?_
            refine r_icmp_ne (tgt := 61) F.hx F.hb h15 (inr_c rfl) d_Paths_canStep_54 (by decide) (fun c16 => ?_) (fun c16 => ?_)
            · replace hT := (if_neg c16).symm.trans hT
              refine r_iconst F.hx F.hb d_Paths_canStep_61 ?_
              subst hT
              exact r_zret F hlk hr hS (Or.inl rfl) d_Paths_canStep_62
            · replace hT := (if_pos c16).symm.trans hT
              refine r_iconst F.hx F.hb d_Paths_canStep_57 ?_
              refine lv_goto (tgt := 62) F.hx F.hb d_Paths_canStep_58 (by decide) ?_
              subst hT
              exact r_zret F hlk hr hS (Or.inr rfl) d_Paths_canStep_62
      · replace hT := (if_pos c7).symm.trans hT
        refine r_iconst F.hx F.hb d_Paths_canStep_22 ?_
        subst hT
        exact r_zret F hlk hr hS (Or.inl rfl) d_Paths_canStep_23
