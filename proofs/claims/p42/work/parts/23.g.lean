section
theorem d_Scene_copy_0 : decode b_Scene_copy 0 = .ok (.aload_n 1, 1) := dc_43 (by decide +kernel)
theorem d_Scene_copy_1 : decode b_Scene_copy 1 = .ok (.getfield 9, 3) := dc_180 (by decide +kernel)
theorem d_Scene_copy_4 : decode b_Scene_copy 4 = .ok (.aload_n 0, 1) := dc_42 (by decide +kernel)
theorem d_Scene_copy_5 : decode b_Scene_copy 5 = .ok (.getfield 9, 3) := dc_180 (by decide +kernel)
theorem d_Scene_copy_8 : decode b_Scene_copy 8 = .ok (.invokestatic 29, 3) := dc_184 (by decide +kernel)
theorem d_Scene_copy_11 : decode b_Scene_copy 11 = .ok (.aload_n 1, 1) := dc_43 (by decide +kernel)
theorem d_Scene_copy_12 : decode b_Scene_copy 12 = .ok (.getfield 15, 3) := dc_180 (by decide +kernel)
theorem d_Scene_copy_15 : decode b_Scene_copy 15 = .ok (.aload_n 0, 1) := dc_42 (by decide +kernel)
theorem d_Scene_copy_16 : decode b_Scene_copy 16 = .ok (.getfield 15, 3) := dc_180 (by decide +kernel)
theorem d_Scene_copy_19 : decode b_Scene_copy 19 = .ok (.invokestatic 29, 3) := dc_184 (by decide +kernel)
theorem d_Scene_copy_22 : decode b_Scene_copy 22 = .ok (.aload_n 1, 1) := dc_43 (by decide +kernel)
theorem d_Scene_copy_23 : decode b_Scene_copy 23 = .ok (.getfield 18, 3) := dc_180 (by decide +kernel)
theorem d_Scene_copy_26 : decode b_Scene_copy 26 = .ok (.aload_n 0, 1) := dc_42 (by decide +kernel)
theorem d_Scene_copy_27 : decode b_Scene_copy 27 = .ok (.getfield 18, 3) := dc_180 (by decide +kernel)
theorem d_Scene_copy_30 : decode b_Scene_copy 30 = .ok (.invokestatic 29, 3) := dc_184 (by decide +kernel)
theorem d_Scene_copy_33 : decode b_Scene_copy 33 = .ok (.aload_n 1, 1) := dc_43 (by decide +kernel)
theorem d_Scene_copy_34 : decode b_Scene_copy 34 = .ok (.getfield 21, 3) := dc_180 (by decide +kernel)
theorem d_Scene_copy_37 : decode b_Scene_copy 37 = .ok (.aload_n 0, 1) := dc_42 (by decide +kernel)
theorem d_Scene_copy_38 : decode b_Scene_copy 38 = .ok (.getfield 21, 3) := dc_180 (by decide +kernel)
theorem d_Scene_copy_41 : decode b_Scene_copy 41 = .ok (.invokestatic 29, 3) := dc_184 (by decide +kernel)
theorem d_Scene_copy_44 : decode b_Scene_copy 44 = .ok (.aload_n 0, 1) := dc_42 (by decide +kernel)
theorem d_Scene_copy_45 : decode b_Scene_copy 45 = .ok (.aload_n 1, 1) := dc_43 (by decide +kernel)
theorem d_Scene_copy_46 : decode b_Scene_copy 46 = .ok (.getfield 46, 3) := dc_180 (by decide +kernel)
theorem d_Scene_copy_49 : decode b_Scene_copy 49 = .ok (.putfield 46, 3) := dc_181 (by decide +kernel)
theorem d_Scene_copy_52 : decode b_Scene_copy 52 = .ok (.aload_n 0, 1) := dc_42 (by decide +kernel)
theorem d_Scene_copy_53 : decode b_Scene_copy 53 = .ok (.aload_n 1, 1) := dc_43 (by decide +kernel)
theorem d_Scene_copy_54 : decode b_Scene_copy 54 = .ok (.getfield 47, 3) := dc_180 (by decide +kernel)
theorem d_Scene_copy_57 : decode b_Scene_copy 57 = .ok (.putfield 47, 3) := dc_181 (by decide +kernel)
theorem d_Scene_copy_60 : decode b_Scene_copy 60 = .ok (.aload_n 0, 1) := dc_42 (by decide +kernel)
theorem d_Scene_copy_61 : decode b_Scene_copy 61 = .ok (.aload_n 1, 1) := dc_43 (by decide +kernel)
theorem d_Scene_copy_62 : decode b_Scene_copy 62 = .ok (.getfield 50, 3) := dc_180 (by decide +kernel)
theorem d_Scene_copy_65 : decode b_Scene_copy 65 = .ok (.putfield 50, 3) := dc_181 (by decide +kernel)
theorem d_Scene_copy_68 : decode b_Scene_copy 68 = .ok (.return_, 1) := dc_177 (by decide +kernel)
def t_Scene_copy (M : Mem) (k0 : Nat) (k1 : Nat) : Mem := (qlet (t_WF_copyRow M (k1 + 1) 4 (k0 + 1) 4) fun q1 => (qlet (t_WF_copyRow q1 (k1 + 2) 8 (k0 + 2) 8) fun q3 => (qlet (t_WF_copyRow q3 (k1 + 3) 8 (k0 + 3) 8) fun q5 => (qlet (t_WF_copyRow q5 (k1 + 4) 8 (k0 + 4) 8) fun q7 => (qlet (setL q7 k0 4 (q7.2 k1 4)) fun M9 => (qlet (setL M9 k0 5 (M9.2 k1 5)) fun M10 => (qlet (setL M10 k0 6 (M10.2 k1 6)) fun M11 => M11)))))))
set_option maxHeartbeats 4000000 in
set_option maxRecDepth 100000 in
theorem c_Scene_copy (l : Launch) {b n : Nat} {C : CT} (hlo : 191 ≤ n) (M : Mem) (k0 : Nat) (k1 : Nat) (hk0 : isScene k0) (hk1 : isScene k1) (res : Mem) (hT : t_Scene_copy M k0 k1 = res) : CM l b C n 3 y_Scene_copy b_Scene_copy 2 (none) [.ref (b + k0), .ref (b + k1)] M (QV b C n res) := by
  refine CM.of (lo := 191) (ow := "WardFalls$Scene") (by decide) rfl (Nat.le_of_ble_eq_true rfl) hlo (fun p e s m below meth c F hlk hr hS ls hl => ?_)
  have hl : lv_has ls 2 [(0, .ref (b + k0)), (1, .ref (b + k1))] := hl
  unfold t_Scene_copy at hT
  refine lv_aload_n F.hx F.hb d_Scene_copy_0 rfl (lv_at hl 1 rfl) ?_
  refine r_get (v := .ref (b + (k1 + 1))) (N := 7) (T := T9) (j := 0) F hS (Scene_lt hk1) (Scene_sh hk1) (Scene_N hk1) rfl (Nat.le_of_ble_eq_true rfl) ing9 mw_272 (Scene_g0 hk1 _) d_Scene_copy_1 ?_
  refine lv_aload_n F.hx F.hb d_Scene_copy_4 rfl (lv_at hl 0 rfl) ?_
  refine r_get (v := .ref (b + (k0 + 1))) (N := 7) (T := T9) (j := 0) F hS (Scene_lt hk0) (Scene_sh hk0) (Scene_N hk0) rfl (Nat.le_of_ble_eq_true rfl) ing9 mw_272 (Scene_g0 hk0 _) d_Scene_copy_5 ?_
  obtain ⟨q1, hq1⟩ : ∃ q, q = (t_WF_copyRow M (k1 + 1) 4 (k0 + 1) 4) := ⟨_, rfl⟩
  replace hT := qlet_eq hT hq1
  refine r_backV F hS (r_runSN (As := [.ref (b + (k1 + 1)), .ref (b + (k0 + 1))]) F hS (c_WF_copyRow l F.2.2.1 M (k1 + 1) 4 (k0 + 1) 4 (Scene_f0 hk1) (Scene_f0 hk0) _ hq1.symm) mw_530 mw_529 mw_1 gs_Scene_29 hd_WF_copyRow ⟨Nat.le_of_ble_eq_true rfl, Nat.le_of_ble_eq_true rfl⟩ rfl hl.1 (Nat.le_of_ble_eq_true rfl) ⟨Nat.zero_le _, Nat.zero_le _⟩ rfl d_Scene_copy_8) (fun H locs hS => ?_)
  refine lv_aload_n F.hx F.hb d_Scene_copy_11 rfl (lv_at hl 1 rfl) ?_
  refine r_get (v := .ref (b + (k1 + 2))) (N := 7) (T := T9) (j := 1) F hS (Scene_lt hk1) (Scene_sh hk1) (Scene_N hk1) rfl (Nat.le_of_ble_eq_true rfl) ing9 mw_278 (Scene_g1 hk1 _) d_Scene_copy_12 ?_
  refine lv_aload_n F.hx F.hb d_Scene_copy_15 rfl (lv_at hl 0 rfl) ?_
  refine r_get (v := .ref (b + (k0 + 2))) (N := 7) (T := T9) (j := 1) F hS (Scene_lt hk0) (Scene_sh hk0) (Scene_N hk0) rfl (Nat.le_of_ble_eq_true rfl) ing9 mw_278 (Scene_g1 hk0 _) d_Scene_copy_16 ?_
  obtain ⟨q3, hq3⟩ : ∃ q, q = (t_WF_copyRow q1 (k1 + 2) 8 (k0 + 2) 8) := ⟨_, rfl⟩
  replace hT := qlet_eq hT hq3
  refine r_backV F hS (r_runSN (As := [.ref (b + (k1 + 2)), .ref (b + (k0 + 2))]) F hS (c_WF_copyRow l F.2.2.1 q1 (k1 + 2) 8 (k0 + 2) 8 (Scene_f1 hk1) (Scene_f1 hk0) _ hq3.symm) mw_530 mw_529 mw_1 gs_Scene_29 hd_WF_copyRow ⟨Nat.le_of_ble_eq_true rfl, Nat.le_of_ble_eq_true rfl⟩ rfl hl.1 (Nat.le_of_ble_eq_true rfl) ⟨Nat.zero_le _, Nat.zero_le _⟩ rfl d_Scene_copy_19) (fun H locs hS => ?_)
  refine lv_aload_n F.hx F.hb d_Scene_copy_22 rfl (lv_at hl 1 rfl) ?_
  refine r_get (v := .ref (b + (k1 + 3))) (N := 7) (T := T9) (j := 2) F hS (Scene_lt hk1) (Scene_sh hk1) (Scene_N hk1) rfl (Nat.le_of_ble_eq_true rfl) ing9 mw_281 (Scene_g2 hk1 _) d_Scene_copy_23 ?_
  refine lv_aload_n F.hx F.hb d_Scene_copy_26 rfl (lv_at hl 0 rfl) ?_
  refine r_get (v := .ref (b + (k0 + 3))) (N := 7) (T := T9) (j := 2) F hS (Scene_lt hk0) (Scene_sh hk0) (Scene_N hk0) rfl (Nat.le_of_ble_eq_true rfl) ing9 mw_281 (Scene_g2 hk0 _) d_Scene_copy_27 ?_
  obtain ⟨q5, hq5⟩ : ∃ q, q = (t_WF_copyRow q3 (k1 + 3) 8 (k0 + 3) 8) := ⟨_, rfl⟩
  replace hT := qlet_eq hT hq5
  refine r_backV F hS (r_runSN (As := [.ref (b + (k1 + 3)), .ref (b + (k0 + 3))]) F hS (c_WF_copyRow l F.2.2.1 q3 (k1 + 3) 8 (k0 + 3) 8 (Scene_f2 hk1) (Scene_f2 hk0) _ hq5.symm) mw_530 mw_529 mw_1 gs_Scene_29 hd_WF_copyRow ⟨Nat.le_of_ble_eq_true rfl, Nat.le_of_ble_eq_true rfl⟩ rfl hl.1 (Nat.le_of_ble_eq_true rfl) ⟨Nat.zero_le _, Nat.zero_le _⟩ rfl d_Scene_copy_30) (fun H locs hS => ?_)
  refine lv_aload_n F.hx F.hb d_Scene_copy_33 rfl (lv_at hl 1 rfl) ?_
  refine r_get (v := .ref (b + (k1 + 4))) (N := 7) (T := T9) (j := 3) F hS (Scene_lt hk1) (Scene_sh hk1) (Scene_N hk1) rfl (Nat.le_of_ble_eq_true rfl) ing9 mw_283 (Scene_g3 hk1 _) d_Scene_copy_34 ?_
  refine lv_aload_n F.hx F.hb d_Scene_copy_37 rfl (lv_at hl 0 rfl) ?_
  refine r_get (v := .ref (b + (k0 + 4))) (N := 7) (T := T9) (j := 3) F hS (Scene_lt hk0) (Scene_sh hk0) (Scene_N hk0) rfl (Nat.le_of_ble_eq_true rfl) ing9 mw_283 (Scene_g3 hk0 _) d_Scene_copy_38 ?_
  obtain ⟨q7, hq7⟩ : ∃ q, q = (t_WF_copyRow q5 (k1 + 4) 8 (k0 + 4) 8) := ⟨_, rfl⟩
  replace hT := qlet_eq hT hq7
  refine r_backV F hS (r_runSN (As := [.ref (b + (k1 + 4)), .ref (b + (k0 + 4))]) F hS (c_WF_copyRow l F.2.2.1 q5 (k1 + 4) 8 (k0 + 4) 8 (Scene_f3 hk1) (Scene_f3 hk0) _ hq7.symm) mw_530 mw_529 mw_1 gs_Scene_29 hd_WF_copyRow ⟨Nat.le_of_ble_eq_true rfl, Nat.le_of_ble_eq_true rfl⟩ rfl hl.1 (Nat.le_of_ble_eq_true rfl) ⟨Nat.zero_le _, Nat.zero_le _⟩ rfl d_Scene_copy_41) (fun H locs hS => ?_)
  refine lv_aload_n F.hx F.hb d_Scene_copy_44 rfl (lv_at hl 0 rfl) ?_
  refine lv_aload_n F.hx F.hb d_Scene_copy_45 rfl (lv_at hl 1 rfl) ?_
  refine r_get (v := .long (q7.2 k1 4)) (N := 7) (T := T9) (j := 4) F hS (Scene_lt hk1) (Scene_sh hk1) (Scene_N hk1) rfl (Nat.le_of_ble_eq_true rfl) ing9 mw_285 (fv_long rfl) d_Scene_copy_46 ?_
  refine r_putL (N := 7) (T := T9) (j := 4) F hS (Scene_lt hk0) (Scene_sh hk0) (Scene_N hk0) rfl (Nat.le_of_ble_eq_true rfl) ing9 tyok9 nm9 rfl rfl rfl mw_285 d_Scene_copy_49 (fun H locs hS => ?_)
  obtain ⟨M9, eM9⟩ : ∃ q, q = (setL q7 k0 4 (q7.2 k1 4)) := ⟨_, rfl⟩
  replace hS : St b C n M9 s H locs := by rw [eM9]; exact hS
  replace hT := qlet_eq hT eM9
  refine lv_aload_n F.hx F.hb d_Scene_copy_52 rfl (lv_at hl 0 rfl) ?_
  refine lv_aload_n F.hx F.hb d_Scene_copy_53 rfl (lv_at hl 1 rfl) ?_
  refine r_get (v := .long (M9.2 k1 5)) (N := 7) (T := T9) (j := 5) F hS (Scene_lt hk1) (Scene_sh hk1) (Scene_N hk1) rfl (Nat.le_of_ble_eq_true rfl) ing9 mw_289 (fv_long rfl) d_Scene_copy_54 ?_
  refine r_putL (N := 7) (T := T9) (j := 5) F hS (Scene_lt hk0) (Scene_sh hk0) (Scene_N hk0) rfl (Nat.le_of_ble_eq_true rfl) ing9 tyok9 nm9 rfl rfl rfl mw_289 d_Scene_copy_57 (fun H locs hS => ?_)
  obtain ⟨M10, eM10⟩ : ∃ q, q = (setL M9 k0 5 (M9.2 k1 5)) := ⟨_, rfl⟩
  replace hS : St b C n M10 s H locs := by rw [eM10]; exact hS
  replace hT := qlet_eq hT eM10
  refine lv_aload_n F.hx F.hb d_Scene_copy_60 rfl (lv_at hl 0 rfl) ?_
  refine lv_aload_n F.hx F.hb d_Scene_copy_61 rfl (lv_at hl 1 rfl) ?_
  refine r_get (v := .long (M10.2 k1 6)) (N := 7) (T := T9) (j := 6) F hS (Scene_lt hk1) (Scene_sh hk1) (Scene_N hk1) rfl (Nat.le_of_ble_eq_true rfl) ing9 mw_291 (fv_long rfl) d_Scene_copy_62 ?_
  refine r_putL (N := 7) (T := T9) (j := 6) F hS (Scene_lt hk0) (Scene_sh hk0) (Scene_N hk0) rfl (Nat.le_of_ble_eq_true rfl) ing9 tyok9 nm9 rfl rfl rfl mw_291 d_Scene_copy_65 (fun H locs hS => ?_)
  obtain ⟨M11, eM11⟩ : ∃ q, q = (setL M10 k0 6 (M10.2 k1 6)) := ⟨_, rfl⟩
  replace hS : St b C n M11 s H locs := by rw [eM11]; exact hS
  replace hT := qlet_eq hT eM11
  subst hT
  exact r_vret F hlk hr hS d_Scene_copy_68
theorem d_Past_remember_0 : decode b_Past_remember 0 = .ok (.aload_n 0, 1) := dc_42 (by decide +kernel)
theorem d_Past_remember_1 : decode b_Past_remember 1 = .ok (.aload_n 0, 1) := dc_42 (by decide +kernel)
theorem d_Past_remember_2 : decode b_Past_remember 2 = .ok (.getfield 22, 3) := dc_180 (by decide +kernel)
theorem d_Past_remember_5 : decode b_Past_remember 5 = .ok (.iconst 1, 1) := dc_4 (by decide +kernel)
theorem d_Past_remember_6 : decode b_Past_remember 6 = .ok (.iadd, 1) := dc_96 (by decide +kernel)
theorem d_Past_remember_7 : decode b_Past_remember 7 = .ok (.aload_n 0, 1) := dc_42 (by decide +kernel)
theorem d_Past_remember_8 : decode b_Past_remember 8 = .ok (.getfield 11, 3) := dc_180 (by decide +kernel)
theorem d_Past_remember_11 : decode b_Past_remember 11 = .ok (.arraylength, 1) := dc_190 (by decide +kernel)
theorem d_Past_remember_12 : decode b_Past_remember 12 = .ok (.if_icmp .ge 12, 3) := dc_162 (by decide +kernel)
theorem d_Past_remember_15 : decode b_Past_remember 15 = .ok (.aload_n 0, 1) := dc_42 (by decide +kernel)
theorem d_Past_remember_16 : decode b_Past_remember 16 = .ok (.getfield 22, 3) := dc_180 (by decide +kernel)
theorem d_Past_remember_19 : decode b_Past_remember 19 = .ok (.iconst 1, 1) := dc_4 (by decide +kernel)
theorem d_Past_remember_20 : decode b_Past_remember 20 = .ok (.iadd, 1) := dc_96 (by decide +kernel)
theorem d_Past_remember_21 : decode b_Past_remember 21 = .ok (.goto 4, 3) := dc_167 (by decide +kernel)
theorem d_Past_remember_24 : decode b_Past_remember 24 = .ok (.iconst 0, 1) := dc_3 (by decide +kernel)
theorem d_Past_remember_25 : decode b_Past_remember 25 = .ok (.putfield 22, 3) := dc_181 (by decide +kernel)
theorem d_Past_remember_28 : decode b_Past_remember 28 = .ok (.aload_n 0, 1) := dc_42 (by decide +kernel)
theorem d_Past_remember_29 : decode b_Past_remember 29 = .ok (.getfield 22, 3) := dc_180 (by decide +kernel)
theorem d_Past_remember_32 : decode b_Past_remember 32 = .ok (.ifCond .lt 40, 3) := dc_155 (by decide +kernel)
theorem d_Past_remember_35 : decode b_Past_remember 35 = .ok (.aload_n 0, 1) := dc_42 (by decide +kernel)
theorem d_Past_remember_36 : decode b_Past_remember 36 = .ok (.getfield 22, 3) := dc_180 (by decide +kernel)
theorem d_Past_remember_39 : decode b_Past_remember 39 = .ok (.aload_n 0, 1) := dc_42 (by decide +kernel)
theorem d_Past_remember_40 : decode b_Past_remember 40 = .ok (.getfield 11, 3) := dc_180 (by decide +kernel)
theorem d_Past_remember_43 : decode b_Past_remember 43 = .ok (.arraylength, 1) := dc_190 (by decide +kernel)
theorem d_Past_remember_44 : decode b_Past_remember 44 = .ok (.if_icmp .ge 28, 3) := dc_162 (by decide +kernel)
theorem d_Past_remember_47 : decode b_Past_remember 47 = .ok (.aload_n 0, 1) := dc_42 (by decide +kernel)
theorem d_Past_remember_48 : decode b_Past_remember 48 = .ok (.getfield 11, 3) := dc_180 (by decide +kernel)
theorem d_Past_remember_51 : decode b_Past_remember 51 = .ok (.aload_n 0, 1) := dc_42 (by decide +kernel)
theorem d_Past_remember_52 : decode b_Past_remember 52 = .ok (.getfield 22, 3) := dc_180 (by decide +kernel)
theorem d_Past_remember_55 : decode b_Past_remember 55 = .ok (.aaload, 1) := dc_50 (by decide +kernel)
theorem d_Past_remember_56 : decode b_Past_remember 56 = .ok (.ifnull 16, 3) := dc_198 (by decide +kernel)
theorem d_Past_remember_59 : decode b_Past_remember 59 = .ok (.aload_n 0, 1) := dc_42 (by decide +kernel)
theorem d_Past_remember_60 : decode b_Past_remember 60 = .ok (.getfield 11, 3) := dc_180 (by decide +kernel)
theorem d_Past_remember_63 : decode b_Past_remember 63 = .ok (.aload_n 0, 1) := dc_42 (by decide +kernel)
theorem d_Past_remember_64 : decode b_Past_remember 64 = .ok (.getfield 22, 3) := dc_180 (by decide +kernel)
theorem d_Past_remember_67 : decode b_Past_remember 67 = .ok (.aaload, 1) := dc_50 (by decide +kernel)
theorem d_Past_remember_68 : decode b_Past_remember 68 = .ok (.aload_n 1, 1) := dc_43 (by decide +kernel)
theorem d_Past_remember_69 : decode b_Past_remember 69 = .ok (.invokevirtual 25, 3) := dc_182 (by decide +kernel)
theorem d_Past_remember_72 : decode b_Past_remember 72 = .ok (.aload_n 0, 1) := dc_42 (by decide +kernel)
theorem d_Past_remember_73 : decode b_Past_remember 73 = .ok (.aload_n 0, 1) := dc_42 (by decide +kernel)
theorem d_Past_remember_74 : decode b_Past_remember 74 = .ok (.getfield 18, 3) := dc_180 (by decide +kernel)
theorem d_Past_remember_77 : decode b_Past_remember 77 = .ok (.iconst 1, 1) := dc_4 (by decide +kernel)
theorem d_Past_remember_78 : decode b_Past_remember 78 = .ok (.iadd, 1) := dc_96 (by decide +kernel)
theorem d_Past_remember_79 : decode b_Past_remember 79 = .ok (.bipush 20, 2) := dc_16 (by decide +kernel)
theorem d_Past_remember_81 : decode b_Past_remember 81 = .ok (.invokestatic 29, 3) := dc_184 (by decide +kernel)
theorem d_Past_remember_84 : decode b_Past_remember 84 = .ok (.putfield 18, 3) := dc_181 (by decide +kernel)
theorem d_Past_remember_87 : decode b_Past_remember 87 = .ok (.return_, 1) := dc_177 (by decide +kernel)
def t_Past_remember_L72 (k1 : Nat)  (M : Mem)  : Mem := (qlet (setI M 70 2 (q_min (w32 ((M.1 70 2) + 1)) 20)) fun M16 => M16)
def t_Past_remember_L25 (k1 : Nat)  (M : Mem) (v3_ : Int) : Mem := (qlet (setI M 70 1 v3_) fun M4 => (if (M4.1 70 1) < 0 then (t_Past_remember_L72 k1 M4) else (if 20 ≤ (M4.1 70 1) then (t_Past_remember_L72 k1 M4) else (qlet (t_Scene_copy M4 (72 + 5 * ((M4.1 70 1)).toNat) k1) fun q13 => (t_Past_remember_L72 k1 q13)))))
def t_Past_remember (M : Mem) (k1 : Nat) : Mem := (if 20 ≤ (w32 ((M.1 70 1) + 1)) then (t_Past_remember_L25 k1 M 0) else (t_Past_remember_L25 k1 M (w32 ((M.1 70 1) + 1))))
set_option maxHeartbeats 4000000 in
set_option maxRecDepth 100000 in
theorem k_Past_remember_L72 (l : Launch) {p : Program} {e : Env} {s : State} {m : MethodId} {below : List Frame} {meth : Method} {c : Code} {b n : Nat} {C : CT} (hlo : 191 ≤ n) (k1 : Nat) (hk1 : isScene k1) (F : Cx b p m c b_Past_remember 2 s ([.ref (b + 70), .ref (b + k1)] : List Value).toArray "WardFalls$Past" C n 191) (hlk : meth.locks = false) (hr : meth.sig.returnType = none) {res : Mem} (M : Mem)  (H : Heap) (locs : List Loc) (ls : Array Slot) (hS : St b C n M s H locs) (hl : lv_has ls 2 [(0, .ref (b + 70))]) (hT : t_Past_remember_L72 k1 M = res) : W p l e (headSpec (wsM y_Past_remember b_Past_remember 2 (none)) (rmD 4)).room s m ([.ref (b + 70), .ref (b + k1)] : List Value).toArray below meth c H locs 0 0 (MQ below (QV b C n res) ([.ref (b + 70), .ref (b + k1)] : List Value).toArray s 0 0 (frb b)) (F0 m 72 ls []) := by
  unfold t_Past_remember_L72 at hT
  refine lv_aload_n F.hx F.hb d_Past_remember_72 rfl (lv_at hl 0 rfl) ?_
  refine lv_aload_n F.hx F.hb d_Past_remember_73 rfl (lv_at hl 0 rfl) ?_
  refine r_get (v := vI (M.1 70 2)) (N := 3) (T := T6) (j := 2) F hS (show 70 < 191 by decide) (show shK 70 = 10 from rfl) (show shN 70 = 3 from rfl) rfl (Nat.le_of_ble_eq_true rfl) ing6 mw_349 (fv_int rfl) d_Past_remember_74 ?_
  have i15 := hS.rng 70 2
  refine r_iconst F.hx F.hb d_Past_remember_77 ?_
  refine r_iadd F.hx F.hb d_Past_remember_78 ?_
  refine r_bipush F.hx F.hb d_Past_remember_79 rfl ?_
  refine r_mmin F hl.1 mw_1004 mw_532 mw_14 mw_533 ⟨Nat.le_of_ble_eq_true rfl, Nat.le_of_ble_eq_true rfl⟩ (Nat.le_of_ble_eq_true rfl) ⟨Nat.zero_le _, Nat.zero_le _⟩ (inr_w32 _) (inr_c rfl) d_Past_remember_81 ?_
  refine r_putI (N := 3) (T := T6) (j := 2) F hS (show 70 < 191 by decide) (show shK 70 = 10 from rfl) (show shN 70 = 3 from rfl) rfl (Nat.le_of_ble_eq_true rfl) ing6 tyok6 nm6 rfl rfl rfl rfl rfl rfl mw_349 (inr_min (inr_w32 _) (inr_c rfl)) d_Past_remember_84 (fun H locs hS => ?_)
  obtain ⟨M16, eM16⟩ : ∃ q, q = (setI M 70 2 (q_min (w32 ((M.1 70 2) + 1)) 20)) := ⟨_, rfl⟩
  replace hS : St b C n M16 s H locs := by rw [eM16]; exact hS
  replace hT := qlet_eq hT eM16
  subst hT
  exact r_vret F hlk hr hS d_Past_remember_87
set_option maxHeartbeats 4000000 in
set_option maxRecDepth 100000 in
theorem k_Past_remember_L25 (l : Launch) {p : Program} {e : Env} {s : State} {m : MethodId} {below : List Frame} {meth : Method} {c : Code} {b n : Nat} {C : CT} (hlo : 191 ≤ n) (k1 : Nat) (hk1 : isScene k1) (F : Cx b p m c b_Past_remember 2 s ([.ref (b + 70), .ref (b + k1)] : List Value).toArray "WardFalls$Past" C n 191) (hlk : meth.locks = false) (hr : meth.sig.returnType = none) {res : Mem} (M : Mem) (v3_ : Int) (hv3_ : InR v3_) (H : Heap) (locs : List Loc) (ls : Array Slot) (hS : St b C n M s H locs) (hl : lv_has ls 2 [(0, .ref (b + 70)), (1, .ref (b + k1))]) (hT : t_Past_remember_L25 k1 M v3_ = res) : W p l e (headSpec (wsM y_Past_remember b_Past_remember 2 (none)) (rmD 4)).room s m ([.ref (b + 70), .ref (b + k1)] : List Value).toArray below meth c H locs 0 0 (MQ below (QV b C n res) ([.ref (b + 70), .ref (b + k1)] : List Value).toArray s 0 0 (frb b)) (F0 m 25 ls [vI v3_, .ref (b + 70)]) := by
  unfold t_Past_remember_L25 at hT
  refine r_putI (N := 3) (T := T6) (j := 1) F hS (show 70 < 191 by decide) (show shK 70 = 10 from rfl) (show shN 70 = 3 from rfl) rfl (Nat.le_of_ble_eq_true rfl) ing6 tyok6 nm6 rfl rfl rfl rfl rfl rfl mw_348 hv3_ d_Past_remember_25 (fun H locs hS => ?_)
  obtain ⟨M4, eM4⟩ : ∃ q, q = (setI M 70 1 v3_) := ⟨_, rfl⟩
  replace hS : St b C n M4 s H locs := by rw [eM4]; exact hS
  replace hT := qlet_eq hT eM4
  refine lv_aload_n F.hx F.hb d_Past_remember_28 rfl (lv_at hl 0 rfl) ?_
  refine r_get (v := vI (M4.1 70 1)) (N := 3) (T := T6) (j := 1) F hS (show 70 < 191 by decide) (show shK 70 = 10 from rfl) (show shN 70 = 3 from rfl) rfl (Nat.le_of_ble_eq_true rfl) ing6 mw_348 (fv_int rfl) d_Past_remember_29 ?_
  have i5 := hS.rng 70 1
  refine r_if_lt (tgt := 72) F.hx F.hb i5 d_Past_remember_32 (by decide) (fun c6 => ?_) (fun c6 => ?_)
  · replace hT := (if_pos c6).symm.trans hT
    exact k_Past_remember_L72 l hlo k1 hk1 F hlk hr M4 _ _ _ hS (lv_sub hl [0] rfl) hT
  · replace hT := (if_neg c6).symm.trans hT
    refine lv_aload_n F.hx F.hb d_Past_remember_35 rfl (lv_at hl 0 rfl) ?_
    refine r_get (v := vI (M4.1 70 1)) (N := 3) (T := T6) (j := 1) F hS (show 70 < 191 by decide) (show shK 70 = 10 from rfl) (show shN 70 = 3 from rfl) rfl (Nat.le_of_ble_eq_true rfl) ing6 mw_348 (fv_int rfl) d_Past_remember_36 ?_
    have i7 := hS.rng 70 1
    refine lv_aload_n F.hx F.hb d_Past_remember_39 rfl (lv_at hl 0 rfl) ?_
    refine r_get (v := .ref (b + 71)) (N := 3) (T := T6) (j := 0) F hS (show 70 < 191 by decide) (show shK 70 = 10 from rfl) (show shN 70 = 3 from rfl) rfl (Nat.le_of_ble_eq_true rfl) ing6 mw_347 (fv_sg rfl rfl rfl) d_Past_remember_40 ?_
    refine r_alen3 F hS (show 71 < 191 by decide) (show shK 71 = 3 from rfl) (show shN 71 = 20 from rfl) d_Past_remember_43 rfl ?_
    refine r_icmp_ge (tgt := 72) F.hx F.hb i7 (inr_c rfl) d_Past_remember_44 (by decide) (fun c8 => ?_) (fun c8 => ?_)
    · replace hT := (if_pos c8).symm.trans hT
      exact k_Past_remember_L72 l hlo k1 hk1 F hlk hr M4 _ _ _ hS (lv_sub hl [0] rfl) hT
    · replace hT := (if_neg c8).symm.trans hT
      refine lv_aload_n F.hx F.hb d_Past_remember_47 rfl (lv_at hl 0 rfl) ?_
      refine r_get (v := .ref (b + 71)) (N := 3) (T := T6) (j := 0) F hS (show 70 < 191 by decide) (show shK 70 = 10 from rfl) (show shN 70 = 3 from rfl) rfl (Nat.le_of_ble_eq_true rfl) ing6 mw_347 (fv_sg rfl rfl rfl) d_Past_remember_48 ?_
      refine lv_aload_n F.hx F.hb d_Past_remember_51 rfl (lv_at hl 0 rfl) ?_
      refine r_get (v := vI (M4.1 70 1)) (N := 3) (T := T6) (j := 1) F hS (show 70 < 191 by decide) (show shK 70 = 10 from rfl) (show shN 70 = 3 from rfl) rfl (Nat.le_of_ble_eq_true rfl) ing6 mw_348 (fv_int rfl) d_Past_remember_52 ?_
      have i9 := hS.rng 70 1
      have h10 : isScene (72 + 5 * ((M4.1 70 1)).toNat) := scenes_at (by omega) (by omega)
      refine r_scn F hS i9 (by omega) (by omega) d_Past_remember_55 ?_
      refine lv_ifnull F.hx F.hb d_Past_remember_56 ?_
      refine lv_aload_n F.hx F.hb d_Past_remember_59 rfl (lv_at hl 0 rfl) ?_
      refine r_get (v := .ref (b + 71)) (N := 3) (T := T6) (j := 0) F hS (show 70 < 191 by decide) (show shK 70 = 10 from rfl) (show shN 70 = 3 from rfl) rfl (Nat.le_of_ble_eq_true rfl) ing6 mw_347 (fv_sg rfl rfl rfl) d_Past_remember_60 ?_
      refine lv_aload_n F.hx F.hb d_Past_remember_63 rfl (lv_at hl 0 rfl) ?_
      refine r_get (v := vI (M4.1 70 1)) (N := 3) (T := T6) (j := 1) F hS (show 70 < 191 by decide) (show shK 70 = 10 from rfl) (show shN 70 = 3 from rfl) rfl (Nat.le_of_ble_eq_true rfl) ing6 mw_348 (fv_int rfl) d_Past_remember_64 ?_
      have i11 := hS.rng 70 1
      have h12 : isScene (72 + 5 * ((M4.1 70 1)).toNat) := scenes_at (by omega) (by omega)
      refine r_scn F hS i11 (by omega) (by omega) d_Past_remember_67 ?_
      refine lv_aload_n F.hx F.hb d_Past_remember_68 rfl (lv_at hl 1 rfl) ?_
      obtain ⟨q13, hq13⟩ : ∃ q, q = (t_Scene_copy M4 (72 + 5 * ((M4.1 70 1)).toNat) k1) := ⟨_, rfl⟩
      replace hT := qlet_eq hT hq13
      refine r_backV F hS (r_runV (k := (72 + 5 * ((M4.1 70 1)).toNat)) (N := 7) (T := T9) (As := [.ref (b + k1)]) F hS (Scene_lt h12) (Scene_sh h12) rfl (c_Scene_copy l F.2.2.1 M4 (72 + 5 * ((M4.1 70 1)).toNat) k1 h12 hk1 _ hq13.symm) gs_Past_25 hd_Scene_copy ⟨Nat.le_of_ble_eq_true rfl, Nat.le_of_ble_eq_true rfl⟩ rfl hl.1 (Nat.le_of_ble_eq_true rfl) ⟨Nat.zero_le _, Nat.zero_le _⟩ rfl d_Past_remember_69) (fun H locs hS => ?_)
      exact k_Past_remember_L72 l hlo k1 hk1 F hlk hr q13 _ _ _ hS (lv_sub hl [0] rfl) hT
set_option maxHeartbeats 4000000 in
set_option maxRecDepth 100000 in
theorem c_Past_remember (l : Launch) {b n : Nat} {C : CT} (hlo : 191 ≤ n) (M : Mem) (k1 : Nat) (hk1 : isScene k1) (res : Mem) (hT : t_Past_remember M k1 = res) : CM l b C n 4 y_Past_remember b_Past_remember 2 (none) [.ref (b + 70), .ref (b + k1)] M (QV b C n res) := by
  refine CM.of (lo := 191) (ow := "WardFalls$Past") (by decide) rfl (Nat.le_of_ble_eq_true rfl) hlo (fun p e s m below meth c F hlk hr hS ls hl => ?_)
  have hl : lv_has ls 2 [(0, .ref (b + 70)), (1, .ref (b + k1))] := hl
  unfold t_Past_remember at hT
  refine lv_aload_n F.hx F.hb d_Past_remember_0 rfl (lv_at hl 0 rfl) ?_
  refine lv_aload_n F.hx F.hb d_Past_remember_1 rfl (lv_at hl 0 rfl) ?_
  refine r_get (v := vI (M.1 70 1)) (N := 3) (T := T6) (j := 1) F hS (show 70 < 191 by decide) (show shK 70 = 10 from rfl) (show shN 70 = 3 from rfl) rfl (Nat.le_of_ble_eq_true rfl) ing6 mw_348 (fv_int rfl) d_Past_remember_2 ?_
  have i1 := hS.rng 70 1
  refine r_iconst F.hx F.hb d_Past_remember_5 ?_
  refine r_iadd F.hx F.hb d_Past_remember_6 ?_
  refine lv_aload_n F.hx F.hb d_Past_remember_7 rfl (lv_at hl 0 rfl) ?_
  refine r_get (v := .ref (b + 71)) (N := 3) (T := T6) (j := 0) F hS (show 70 < 191 by decide) (show shK 70 = 10 from rfl) (show shN 70 = 3 from rfl) rfl (Nat.le_of_ble_eq_true rfl) ing6 mw_347 (fv_sg rfl rfl rfl) d_Past_remember_8 ?_
  refine r_alen3 F hS (show 71 < 191 by decide) (show shK 71 = 3 from rfl) (show shN 71 = 20 from rfl) d_Past_remember_11 rfl ?_
  refine r_icmp_ge (tgt := 24) F.hx F.hb (inr_w32 _) (inr_c rfl) d_Past_remember_12 (by decide) (fun c2 => ?_) (fun c2 => ?_)
  · replace hT := (if_pos c2).symm.trans hT
    refine r_iconst F.hx F.hb d_Past_remember_24 ?_
    exact k_Past_remember_L25 l hlo k1 hk1 F hlk hr M 0 (inr_c rfl) _ _ _ hS (lv_sub hl [0, 1] rfl) hT
  · replace hT := (if_neg c2).symm.trans hT
    refine lv_aload_n F.hx F.hb d_Past_remember_15 rfl (lv_at hl 0 rfl) ?_
    refine r_get (v := vI (M.1 70 1)) (N := 3) (T := T6) (j := 1) F hS (show 70 < 191 by decide) (show shK 70 = 10 from rfl) (show shN 70 = 3 from rfl) rfl (Nat.le_of_ble_eq_true rfl) ing6 mw_348 (fv_int rfl) d_Past_remember_16 ?_
    have i3 := hS.rng 70 1
    refine r_iconst F.hx F.hb d_Past_remember_19 ?_
    refine r_iadd F.hx F.hb d_Past_remember_20 ?_
    refine lv_goto (tgt := 25) F.hx F.hb d_Past_remember_21 (by decide) ?_
    exact k_Past_remember_L25 l hlo k1 hk1 F hlk hr M (w32 ((M.1 70 1) + 1)) (inr_w32 _) _ _ _ hS (lv_sub hl [0, 1] rfl) hT
theorem d_Scene_pourOne_0 : decode b_Scene_pourOne 0 = .ok (.iload_n 2, 1) := dc_28 (by decide +kernel)
theorem d_Scene_pourOne_1 : decode b_Scene_pourOne 1 = .ok (.istore_n 3, 1) := dc_62 (by decide +kernel)
theorem d_Scene_pourOne_2 : decode b_Scene_pourOne 2 = .ok (.iconst 0, 1) := dc_3 (by decide +kernel)
theorem d_Scene_pourOne_3 : decode b_Scene_pourOne 3 = .ok (.istore 4, 2) := dc_54 (by decide +kernel)
theorem d_Scene_pourOne_5 : decode b_Scene_pourOne 5 = .ok (.iload 4, 2) := dc_21 (by decide +kernel)
theorem d_Scene_pourOne_7 : decode b_Scene_pourOne 7 = .ok (.bipush 48, 2) := dc_16 (by decide +kernel)
theorem d_Scene_pourOne_9 : decode b_Scene_pourOne 9 = .ok (.if_icmp .gt 71, 3) := dc_163 (by decide +kernel)
theorem d_Scene_pourOne_12 : decode b_Scene_pourOne 12 = .ok (.aload_n 0, 1) := dc_42 (by decide +kernel)
theorem d_Scene_pourOne_13 : decode b_Scene_pourOne 13 = .ok (.aload_n 1, 1) := dc_43 (by decide +kernel)
theorem d_Scene_pourOne_14 : decode b_Scene_pourOne 14 = .ok (.iload_n 3, 1) := dc_29 (by decide +kernel)
theorem d_Scene_pourOne_15 : decode b_Scene_pourOne 15 = .ok (.invokevirtual 83, 3) := dc_182 (by decide +kernel)
theorem d_Scene_pourOne_18 : decode b_Scene_pourOne 18 = .ok (.istore 5, 2) := dc_54 (by decide +kernel)
theorem d_Scene_pourOne_20 : decode b_Scene_pourOne 20 = .ok (.iload 5, 2) := dc_21 (by decide +kernel)
theorem d_Scene_pourOne_22 : decode b_Scene_pourOne 22 = .ok (.ifCond .lt 16, 3) := dc_155 (by decide +kernel)
theorem d_Scene_pourOne_25 : decode b_Scene_pourOne 25 = .ok (.aload_n 0, 1) := dc_42 (by decide +kernel)
theorem d_Scene_pourOne_26 : decode b_Scene_pourOne 26 = .ok (.getfield 50, 3) := dc_180 (by decide +kernel)
theorem d_Scene_pourOne_29 : decode b_Scene_pourOne 29 = .ok (.iload 5, 2) := dc_21 (by decide +kernel)
theorem d_Scene_pourOne_31 : decode b_Scene_pourOne 31 = .ok (.invokestatic 60, 3) := dc_184 (by decide +kernel)
theorem d_Scene_pourOne_34 : decode b_Scene_pourOne 34 = .ok (.iconst 1, 1) := dc_4 (by decide +kernel)
theorem d_Scene_pourOne_35 : decode b_Scene_pourOne 35 = .ok (.if_icmp .ne 36, 3) := dc_160 (by decide +kernel)
theorem d_Scene_pourOne_38 : decode b_Scene_pourOne 38 = .ok (.aload_n 0, 1) := dc_42 (by decide +kernel)
theorem d_Scene_pourOne_39 : decode b_Scene_pourOne 39 = .ok (.getfield 50, 3) := dc_180 (by decide +kernel)
theorem d_Scene_pourOne_42 : decode b_Scene_pourOne 42 = .ok (.iload_n 3, 1) := dc_29 (by decide +kernel)
theorem d_Scene_pourOne_43 : decode b_Scene_pourOne 43 = .ok (.invokestatic 60, 3) := dc_184 (by decide +kernel)
theorem d_Scene_pourOne_46 : decode b_Scene_pourOne 46 = .ok (.ifCond .ne 7, 3) := dc_154 (by decide +kernel)
theorem d_Scene_pourOne_49 : decode b_Scene_pourOne 49 = .ok (.iconst 1, 1) := dc_4 (by decide +kernel)
theorem d_Scene_pourOne_50 : decode b_Scene_pourOne 50 = .ok (.goto 4, 3) := dc_167 (by decide +kernel)
theorem d_Scene_pourOne_53 : decode b_Scene_pourOne 53 = .ok (.iconst 0, 1) := dc_3 (by decide +kernel)
theorem d_Scene_pourOne_54 : decode b_Scene_pourOne 54 = .ok (.istore 6, 2) := dc_54 (by decide +kernel)
theorem d_Scene_pourOne_56 : decode b_Scene_pourOne 56 = .ok (.aload_n 0, 1) := dc_42 (by decide +kernel)
theorem d_Scene_pourOne_57 : decode b_Scene_pourOne 57 = .ok (.dup, 1) := dc_89 (by decide +kernel)
theorem d_Scene_pourOne_58 : decode b_Scene_pourOne 58 = .ok (.getfield 50, 3) := dc_180 (by decide +kernel)
theorem d_Scene_pourOne_61 : decode b_Scene_pourOne 61 = .ok (.lconst 1, 1) := dc_10 (by decide +kernel)
theorem d_Scene_pourOne_62 : decode b_Scene_pourOne 62 = .ok (.iload_n 3, 1) := dc_29 (by decide +kernel)
theorem d_Scene_pourOne_63 : decode b_Scene_pourOne 63 = .ok (.lshl, 1) := dc_121 (by decide +kernel)
theorem d_Scene_pourOne_64 : decode b_Scene_pourOne 64 = .ok (.lor, 1) := dc_129 (by decide +kernel)
theorem d_Scene_pourOne_65 : decode b_Scene_pourOne 65 = .ok (.putfield 50, 3) := dc_181 (by decide +kernel)
theorem d_Scene_pourOne_68 : decode b_Scene_pourOne 68 = .ok (.iload 6, 2) := dc_21 (by decide +kernel)
theorem d_Scene_pourOne_70 : decode b_Scene_pourOne 70 = .ok (.ireturn, 1) := dc_172 (by decide +kernel)
theorem d_Scene_pourOne_71 : decode b_Scene_pourOne 71 = .ok (.iload 5, 2) := dc_21 (by decide +kernel)
theorem d_Scene_pourOne_73 : decode b_Scene_pourOne 73 = .ok (.istore_n 3, 1) := dc_62 (by decide +kernel)
theorem d_Scene_pourOne_74 : decode b_Scene_pourOne 74 = .ok (.iinc 4 1, 3) := dc_132 (by decide +kernel)
theorem d_Scene_pourOne_77 : decode b_Scene_pourOne 77 = .ok (.goto (-72), 3) := dc_167 (by decide +kernel)
theorem d_Scene_pourOne_80 : decode b_Scene_pourOne 80 = .ok (.iconst 0, 1) := dc_3 (by decide +kernel)
theorem d_Scene_pourOne_81 : decode b_Scene_pourOne 81 = .ok (.ireturn, 1) := dc_172 (by decide +kernel)
def t_Scene_pourOne_L54 (k0 : Nat) (k1 : Nat) (x2 : Int)  (M : Mem) (v1_ : Int) (v2_ : Int) : Option (Mem × Int) := (qlet (setL M k0 6 ((M.2 k0 6) ||| (q_lshl 1 v1_))) fun M11 => (some (M11, v2_)))
def t_Scene_pourOne_L38 (k0 : Nat) (k1 : Nat) (x2 : Int)  (M : Mem) (v1_ : Int) : Option (Mem × Int) := (qlet (t_WF_bitOf M (M.2 k0 6) v1_) fun q8 => (if q8 = 0 then (t_Scene_pourOne_L54 k0 k1 x2 M v1_ 1) else (t_Scene_pourOne_L54 k0 k1 x2 M v1_ 0)))
def t_Scene_pourOne_L5 (k0 : Nat) (k1 : Nat) (x2 : Int)  : Nat → Mem → Int → Int → Option (Mem × Int)
  | 0, _, _, _ => none
  | fu + 1, M, v2_, v3_ => (if 48 < v3_ then (some (M, 0)) else (qlet (t_Scene_nextOf M k0 k1 v2_) fun q2 => (if q2 < 0 then (t_Scene_pourOne_L38 k0 k1 x2 M v2_) else (qlet (t_WF_bitOf M (M.2 k0 6) q2) fun q5 => (if q5 = 1 then (t_Scene_pourOne_L38 k0 k1 x2 M v2_) else (t_Scene_pourOne_L5 k0 k1 x2 fu M q2 (w32 (v3_ + 1))))))))
def t_Scene_pourOne (M : Mem) (k0 : Nat) (k1 : Nat) (x2 : Int) : Option (Mem × Int) := (t_Scene_pourOne_L5 k0 k1 x2 FU M x2 0)
set_option maxHeartbeats 4000000 in
set_option maxRecDepth 100000 in
theorem k_Scene_pourOne_L54 (l : Launch) {p : Program} {e : Env} {s : State} {m : MethodId} {below : List Frame} {meth : Method} {c : Code} {b n : Nat} {C : CT} (hlo : 191 ≤ n) (k0 : Nat) (k1 : Nat) (x2 : Int) (hk0 : isScene k0) (hk1 : isTown k1) (hx2 : InR x2) (F : Cx b p m c b_Scene_pourOne 7 s ([.ref (b + k0), .ref (b + k1), vI x2] : List Value).toArray "WardFalls$Scene" C n 191) (hlk : meth.locks = false) (hr : meth.sig.returnType = some .boolean) {res : Mem × Int} (M : Mem) (v1_ : Int) (hv1_ : InR v1_) (v2_ : Int) (hv2_ : v2_ = 0 ∨ v2_ = 1) (H : Heap) (locs : List Loc) (ls : Array Slot) (hS : St b C n M s H locs) (hl : lv_has ls 7 [(0, .ref (b + k0)), (3, vI v1_)]) (hT : t_Scene_pourOne_L54 k0 k1 x2 M v1_ v2_ = some res) : W p l e (headSpec (wsM y_Scene_pourOne b_Scene_pourOne 7 (some .boolean)) (rmD 3)).room s m ([.ref (b + k0), .ref (b + k1), vI x2] : List Value).toArray below meth c H locs 0 0 (MQ below (QZ b C n res.1 res.2) ([.ref (b + k0), .ref (b + k1), vI x2] : List Value).toArray s 0 0 (frb b)) (F0 m 54 ls [vI v2_]) := by
  unfold t_Scene_pourOne_L54 at hT
  refine lv_istore (lv' := [(6, vI v2_), (0, .ref (b + k0)), (3, vI v1_)]) F.hx F.hb d_Scene_pourOne_54 hl (Nat.le_of_ble_eq_true rfl) rfl (fun ls hl => ?_)
  refine lv_aload_n F.hx F.hb d_Scene_pourOne_56 rfl (lv_at hl 1 rfl) ?_
  refine lv_dup F.hx F.hb d_Scene_pourOne_57 rfl ?_
  refine r_get (v := .long (M.2 k0 6)) (N := 7) (T := T9) (j := 6) F hS (Scene_lt hk0) (Scene_sh hk0) (Scene_N hk0) rfl (Nat.le_of_ble_eq_true rfl) ing9 mw_291 (fv_long rfl) d_Scene_pourOne_58 ?_
  refine lv_lconst (v := 1) F.hx F.hb d_Scene_pourOne_61 rfl ?_
  refine lv_iload_n F.hx F.hb d_Scene_pourOne_62 rfl (lv_at hl 2 rfl) ?_
  refine r_lshl F.hx F.hb d_Scene_pourOne_63 ?_
  refine lv_lor F.hx F.hb d_Scene_pourOne_64 ?_
  refine r_putL (N := 7) (T := T9) (j := 6) F hS (Scene_lt hk0) (Scene_sh hk0) (Scene_N hk0) rfl (Nat.le_of_ble_eq_true rfl) ing9 tyok9 nm9 rfl rfl rfl mw_291 d_Scene_pourOne_65 (fun H locs hS => ?_)
  obtain ⟨M11, eM11⟩ : ∃ q, q = (setL M k0 6 ((M.2 k0 6) ||| (q_lshl 1 v1_))) := ⟨_, rfl⟩
  replace hS : St b C n M11 s H locs := by rw [eM11]; exact hS
  replace hT := qlet_eq hT eM11
  refine lv_iload F.hx F.hb d_Scene_pourOne_68 (lv_at hl 0 rfl) ?_
  cases hT
  exact r_zret F hlk hr hS hv2_ d_Scene_pourOne_70
set_option maxHeartbeats 4000000 in
set_option maxRecDepth 100000 in
theorem k_Scene_pourOne_L38 (l : Launch) {p : Program} {e : Env} {s : State} {m : MethodId} {below : List Frame} {meth : Method} {c : Code} {b n : Nat} {C : CT} (hlo : 191 ≤ n) (k0 : Nat) (k1 : Nat) (x2 : Int) (hk0 : isScene k0) (hk1 : isTown k1) (hx2 : InR x2) (F : Cx b p m c b_Scene_pourOne 7 s ([.ref (b + k0), .ref (b + k1), vI x2] : List Value).toArray "WardFalls$Scene" C n 191) (hlk : meth.locks = false) (hr : meth.sig.returnType = some .boolean) {res : Mem × Int} (M : Mem) (v1_ : Int) (hv1_ : InR v1_) (H : Heap) (locs : List Loc) (ls : Array Slot) (hS : St b C n M s H locs) (hl : lv_has ls 7 [(0, .ref (b + k0)), (3, vI v1_)]) (hT : t_Scene_pourOne_L38 k0 k1 x2 M v1_ = some res) : W p l e (headSpec (wsM y_Scene_pourOne b_Scene_pourOne 7 (some .boolean)) (rmD 3)).room s m ([.ref (b + k0), .ref (b + k1), vI x2] : List Value).toArray below meth c H locs 0 0 (MQ below (QZ b C n res.1 res.2) ([.ref (b + k0), .ref (b + k1), vI x2] : List Value).toArray s 0 0 (frb b)) (F0 m 38 ls []) := by
  unfold t_Scene_pourOne_L38 at hT
  refine lv_aload_n F.hx F.hb d_Scene_pourOne_38 rfl (lv_at hl 0 rfl) ?_
  refine r_get (v := .long (M.2 k0 6)) (N := 7) (T := T9) (j := 6) F hS (Scene_lt hk0) (Scene_sh hk0) (Scene_N hk0) rfl (Nat.le_of_ble_eq_true rfl) ing9 mw_291 (fv_long rfl) d_Scene_pourOne_39 ?_
  refine lv_iload_n F.hx F.hb d_Scene_pourOne_42 rfl (lv_at hl 1 rfl) ?_
  obtain ⟨q8, hq8⟩ : ∃ q, q = (t_WF_bitOf M (M.2 k0 6) v1_) := ⟨_, rfl⟩
  replace hT := qlet_eq hT hq8
  refine r_backI F hS (r_runSN (As := [.long (M.2 k0 6), vI v1_]) F hS (c_WF_bitOf l F.2.2.1 M (M.2 k0 6) v1_ hv1_ _ hq8.symm) mw_773 mw_772 mw_1 gs_Scene_60 hd_WF_bitOf ⟨Nat.le_of_ble_eq_true rfl, Nat.le_of_ble_eq_true rfl⟩ rfl hl.1 (Nat.le_of_ble_eq_true rfl) ⟨Nat.zero_le _, Nat.zero_le _⟩ rfl d_Scene_pourOne_43) (fun H locs hS h9 => ?_)
  refine r_if_ne (tgt := 53) F.hx F.hb h9 d_Scene_pourOne_46 (by decide) (fun c10 => ?_) (fun c10 => ?_)
  · replace hT := (if_neg c10).symm.trans hT
    refine r_iconst F.hx F.hb d_Scene_pourOne_53 ?_
    exact k_Scene_pourOne_L54 l hlo k0 k1 x2 hk0 hk1 hx2 F hlk hr M v1_ hv1_ 0 (Or.inl rfl) _ _ _ hS (lv_sub hl [0, 1] rfl) hT
  · replace hT := (if_pos c10).symm.trans hT
    refine r_iconst F.hx F.hb d_Scene_pourOne_49 ?_
    refine lv_goto (tgt := 54) F.hx F.hb d_Scene_pourOne_50 (by decide) ?_
    exact k_Scene_pourOne_L54 l hlo k0 k1 x2 hk0 hk1 hx2 F hlk hr M v1_ hv1_ 1 (Or.inr rfl) _ _ _ hS (lv_sub hl [0, 1] rfl) hT
set_option maxHeartbeats 4000000 in
set_option maxRecDepth 100000 in
theorem k_Scene_pourOne_L5 (l : Launch) {p : Program} {e : Env} {s : State} {m : MethodId} {below : List Frame} {meth : Method} {c : Code} {b n : Nat} {C : CT} (hlo : 191 ≤ n) (k0 : Nat) (k1 : Nat) (x2 : Int) (hk0 : isScene k0) (hk1 : isTown k1) (hx2 : InR x2) (F : Cx b p m c b_Scene_pourOne 7 s ([.ref (b + k0), .ref (b + k1), vI x2] : List Value).toArray "WardFalls$Scene" C n 191) (hlk : meth.locks = false) (hr : meth.sig.returnType = some .boolean) {res : Mem × Int} : ∀ (fu : Nat) (M : Mem) (v2_ : Int) (hv2_ : InR v2_) (v3_ : Int) (hv3_ : InR v3_) (H : Heap) (locs : List Loc) (ls : Array Slot), St b C n M s H locs → lv_has ls 7 [(0, .ref (b + k0)), (1, .ref (b + k1)), (3, vI v2_), (4, vI v3_)] → t_Scene_pourOne_L5 k0 k1 x2 fu M v2_ v3_ = some res → W p l e (headSpec (wsM y_Scene_pourOne b_Scene_pourOne 7 (some .boolean)) (rmD 3)).room s m ([.ref (b + k0), .ref (b + k1), vI x2] : List Value).toArray below meth c H locs 0 0 (MQ below (QZ b C n res.1 res.2) ([.ref (b + k0), .ref (b + k1), vI x2] : List Value).toArray s 0 0 (frb b)) (F0 m 5 ls []) := by
  intro fu
  induction fu with
  | zero => intro M v2_ hv2_ v3_ hv3_ H locs ls hS hl hT; exact absurd hT (by simp [t_Scene_pourOne_L5])
  | succ fu ih =>
    intro M v2_ hv2_ v3_ hv3_ H locs ls hS hl hT
    rw [t_Scene_pourOne_L5] at hT
    refine lv_iload F.hx F.hb d_Scene_pourOne_5 (lv_at hl 3 rfl) ?_
    refine r_bipush F.hx F.hb d_Scene_pourOne_7 rfl ?_
    refine r_icmp_gt (tgt := 80) F.hx F.hb hv3_ (inr_c rfl) d_Scene_pourOne_9 (by decide) (fun c1 => ?_) (fun c1 => ?_)
    · replace hT := (if_pos c1).symm.trans hT
      refine r_iconst F.hx F.hb d_Scene_pourOne_80 ?_
      cases hT
      exact r_zret F hlk hr hS (Or.inl rfl) d_Scene_pourOne_81
    · replace hT := (if_neg c1).symm.trans hT
      refine lv_aload_n F.hx F.hb d_Scene_pourOne_12 rfl (lv_at hl 0 rfl) ?_
      refine lv_aload_n F.hx F.hb d_Scene_pourOne_13 rfl (lv_at hl 1 rfl) ?_
      refine lv_iload_n F.hx F.hb d_Scene_pourOne_14 rfl (lv_at hl 2 rfl) ?_
      obtain ⟨q2, hq2⟩ : ∃ q, q = (t_Scene_nextOf M k0 k1 v2_) := ⟨_, rfl⟩
      replace hT := qlet_eq hT hq2
      refine r_backI F hS (r_runV (k := k0) (N := 7) (T := T9) (As := [.ref (b + k1), vI v2_]) F hS (Scene_lt hk0) (Scene_sh hk0) rfl (c_Scene_nextOf l F.2.2.1 M k0 k1 v2_ hk0 hk1 hv2_ _ hq2.symm) gs_Scene_83 hd_Scene_nextOf ⟨Nat.le_of_ble_eq_true rfl, Nat.le_of_ble_eq_true rfl⟩ rfl hl.1 (Nat.le_of_ble_eq_true rfl) ⟨Nat.zero_le _, Nat.zero_le _⟩ rfl d_Scene_pourOne_15) (fun H locs hS h3 => ?_)
      refine lv_istore (lv' := [(5, vI q2), (0, .ref (b + k0)), (1, .ref (b + k1)), (3, vI v2_), (4, vI v3_)]) F.hx F.hb d_Scene_pourOne_18 hl (Nat.le_of_ble_eq_true rfl) rfl (fun ls hl => ?_)
      refine lv_iload F.hx F.hb d_Scene_pourOne_20 (lv_at hl 0 rfl) ?_
      refine r_if_lt (tgt := 38) F.hx F.hb h3 d_Scene_pourOne_22 (by decide) (fun c4 => ?_) (fun c4 => ?_)
      · replace hT := (if_pos c4).symm.trans hT
        exact k_Scene_pourOne_L38 l hlo k0 k1 x2 hk0 hk1 hx2 F hlk hr M v2_ hv2_ _ _ _ hS (lv_sub hl [1, 3] rfl) hT
      · replace hT := (if_neg c4).symm.trans hT
        refine lv_aload_n F.hx F.hb d_Scene_pourOne_25 rfl (lv_at hl 1 rfl) ?_
        refine r_get (v := .long (M.2 k0 6)) (N := 7) (T := T9) (j := 6) F hS (Scene_lt hk0) (Scene_sh hk0) (Scene_N hk0) rfl (Nat.le_of_ble_eq_true rfl) ing9 mw_291 (fv_long rfl) d_Scene_pourOne_26 ?_
        refine lv_iload F.hx F.hb d_Scene_pourOne_29 (lv_at hl 0 rfl) ?_
        obtain ⟨q5, hq5⟩ : ∃ q, q = (t_WF_bitOf M (M.2 k0 6) q2) := ⟨_, rfl⟩
        replace hT := qlet_eq hT hq5
        refine r_backI F hS (r_runSN (As := [.long (M.2 k0 6), vI q2]) F hS (c_WF_bitOf l F.2.2.1 M (M.2 k0 6) q2 h3 _ hq5.symm) mw_773 mw_772 mw_1 gs_Scene_60 hd_WF_bitOf ⟨Nat.le_of_ble_eq_true rfl, Nat.le_of_ble_eq_true rfl⟩ rfl hl.1 (Nat.le_of_ble_eq_true rfl) ⟨Nat.zero_le _, Nat.zero_le _⟩ rfl d_Scene_pourOne_31) (fun H locs hS h6 => ?_)
        refine r_iconst F.hx F.hb d_Scene_pourOne_34 ?_
        refine r_icmp_ne (tgt := 71) F.hx F.hb h6 (inr_c rfl) d_Scene_pourOne_35 (by decide) (fun c7 => ?_) (fun c7 => ?_)
        · replace hT := (if_neg c7).symm.trans hT
          refine lv_iload F.hx F.hb d_Scene_pourOne_71 (lv_at hl 0 rfl) ?_
          refine lv_istore_n (lv' := [(3, vI q2), (5, vI q2), (0, .ref (b + k0)), (1, .ref (b + k1)), (4, vI v3_)]) F.hx F.hb d_Scene_pourOne_73 rfl hl (Nat.le_of_ble_eq_true rfl) rfl (fun ls hl => ?_)
          refine lv_iinc (v := Int32.ofInt (w32 (v3_ + 1))) (lv' := [(4, vI (w32 (v3_ + 1))), (3, vI q2), (5, vI q2), (0, .ref (b + k0)), (1, .ref (b + k1))]) F.hx F.hb d_Scene_pourOne_74 hl (k := 4) rfl (q_of_add _ _) (Nat.le_of_ble_eq_true rfl) rfl (fun ls hl => ?_)
          refine lv_goto (tgt := 5) F.hx F.hb d_Scene_pourOne_77 (by decide) ?_
          exact ih M q2 h3 (w32 (v3_ + 1)) (inr_w32 _) _ _ _ hS (lv_sub hl [3, 4, 1, 0] rfl) hT
        · replace hT := (if_pos c7).symm.trans hT
          exact k_Scene_pourOne_L38 l hlo k0 k1 x2 hk0 hk1 hx2 F hlk hr M v2_ hv2_ _ _ _ hS (lv_sub hl [1, 3] rfl) hT
set_option maxHeartbeats 4000000 in
set_option maxRecDepth 100000 in
theorem c_Scene_pourOne (l : Launch) {b n : Nat} {C : CT} (hlo : 191 ≤ n) (M : Mem) (k0 : Nat) (k1 : Nat) (x2 : Int) (hk0 : isScene k0) (hk1 : isTown k1) (hx2 : InR x2) (res : Mem × Int) (hT : t_Scene_pourOne M k0 k1 x2 = some res) : CM l b C n 3 y_Scene_pourOne b_Scene_pourOne 7 (some .boolean) [.ref (b + k0), .ref (b + k1), vI x2] M (QZ b C n res.1 res.2) := by
  refine CM.of (lo := 191) (ow := "WardFalls$Scene") (by decide) rfl (Nat.le_of_ble_eq_true rfl) hlo (fun p e s m below meth c F hlk hr hS ls hl => ?_)
  have hl : lv_has ls 7 [(0, .ref (b + k0)), (1, .ref (b + k1)), (2, vI x2)] := hl
  unfold t_Scene_pourOne at hT
  refine lv_iload_n F.hx F.hb d_Scene_pourOne_0 rfl (lv_at hl 2 rfl) ?_
  refine lv_istore_n (lv' := [(3, vI x2), (0, .ref (b + k0)), (1, .ref (b + k1)), (2, vI x2)]) F.hx F.hb d_Scene_pourOne_1 rfl hl (Nat.le_of_ble_eq_true rfl) rfl (fun ls hl => ?_)
  refine r_iconst F.hx F.hb d_Scene_pourOne_2 ?_
  refine lv_istore (lv' := [(4, vI 0), (3, vI x2), (0, .ref (b + k0)), (1, .ref (b + k1)), (2, vI x2)]) F.hx F.hb d_Scene_pourOne_3 hl (Nat.le_of_ble_eq_true rfl) rfl (fun ls hl => ?_)
  exact k_Scene_pourOne_L5 l hlo k0 k1 x2 hk0 hk1 hx2 F hlk hr FU M x2 hx2 0 (inr_c rfl) _ _ _ hS (lv_sub hl [2, 3, 1, 0] rfl) hT
theorem d_Scene_pourAnew_0 : decode b_Scene_pourAnew 0 = .ok (.aload_n 0, 1) := dc_42 (by decide +kernel)
theorem d_Scene_pourAnew_1 : decode b_Scene_pourAnew 1 = .ok (.getfield 50, 3) := dc_180 (by decide +kernel)
theorem d_Scene_pourAnew_4 : decode b_Scene_pourAnew 4 = .ok (.lstore_n 2, 1) := dc_65 (by decide +kernel)
theorem d_Scene_pourAnew_5 : decode b_Scene_pourAnew 5 = .ok (.aload_n 0, 1) := dc_42 (by decide +kernel)
theorem d_Scene_pourAnew_6 : decode b_Scene_pourAnew 6 = .ok (.lconst 0, 1) := dc_9 (by decide +kernel)
theorem d_Scene_pourAnew_7 : decode b_Scene_pourAnew 7 = .ok (.putfield 50, 3) := dc_181 (by decide +kernel)
theorem d_Scene_pourAnew_10 : decode b_Scene_pourAnew 10 = .ok (.iconst 0, 1) := dc_3 (by decide +kernel)
theorem d_Scene_pourAnew_11 : decode b_Scene_pourAnew 11 = .ok (.istore 4, 2) := dc_54 (by decide +kernel)
theorem d_Scene_pourAnew_13 : decode b_Scene_pourAnew 13 = .ok (.iload 4, 2) := dc_21 (by decide +kernel)
theorem d_Scene_pourAnew_15 : decode b_Scene_pourAnew 15 = .ok (.aload_n 1, 1) := dc_43 (by decide +kernel)
theorem d_Scene_pourAnew_16 : decode b_Scene_pourAnew 16 = .ok (.getfield 97, 3) := dc_180 (by decide +kernel)
theorem d_Scene_pourAnew_19 : decode b_Scene_pourAnew 19 = .ok (.if_icmp .ge 27, 3) := dc_162 (by decide +kernel)
theorem d_Scene_pourAnew_22 : decode b_Scene_pourAnew 22 = .ok (.lload_n 2, 1) := dc_32 (by decide +kernel)
theorem d_Scene_pourAnew_23 : decode b_Scene_pourAnew 23 = .ok (.iload 4, 2) := dc_21 (by decide +kernel)
theorem d_Scene_pourAnew_25 : decode b_Scene_pourAnew 25 = .ok (.invokestatic 60, 3) := dc_184 (by decide +kernel)
theorem d_Scene_pourAnew_28 : decode b_Scene_pourAnew 28 = .ok (.iconst 1, 1) := dc_4 (by decide +kernel)
theorem d_Scene_pourAnew_29 : decode b_Scene_pourAnew 29 = .ok (.if_icmp .ne 11, 3) := dc_160 (by decide +kernel)
theorem d_Scene_pourAnew_32 : decode b_Scene_pourAnew 32 = .ok (.aload_n 0, 1) := dc_42 (by decide +kernel)
theorem d_Scene_pourAnew_33 : decode b_Scene_pourAnew 33 = .ok (.aload_n 1, 1) := dc_43 (by decide +kernel)
theorem d_Scene_pourAnew_34 : decode b_Scene_pourAnew 34 = .ok (.iload 4, 2) := dc_21 (by decide +kernel)
theorem d_Scene_pourAnew_36 : decode b_Scene_pourAnew 36 = .ok (.invokevirtual 100, 3) := dc_182 (by decide +kernel)
theorem d_Scene_pourAnew_39 : decode b_Scene_pourAnew 39 = .ok (.pop, 1) := dc_87 (by decide +kernel)
theorem d_Scene_pourAnew_40 : decode b_Scene_pourAnew 40 = .ok (.iinc 4 1, 3) := dc_132 (by decide +kernel)
theorem d_Scene_pourAnew_43 : decode b_Scene_pourAnew 43 = .ok (.goto (-30), 3) := dc_167 (by decide +kernel)
theorem d_Scene_pourAnew_46 : decode b_Scene_pourAnew 46 = .ok (.return_, 1) := dc_177 (by decide +kernel)
def t_Scene_pourAnew_L40 (k0 : Nat) (k1 : Nat) (bk13 : Mem → Int64 → Int → Option (Mem)) (M : Mem) (v2_ : Int64) (v3_ : Int) : Option (Mem) := (bk13 M v2_ (w32 (v3_ + 1)))
def t_Scene_pourAnew_L13 (k0 : Nat) (k1 : Nat)  : Nat → Mem → Int64 → Int → Option (Mem)
  | 0, _, _, _ => none
  | fu + 1, M, v2_, v3_ => (if (M.1 k1 13) ≤ v3_ then (some M) else (qlet (t_WF_bitOf M v2_ v3_) fun q4 => (if q4 = 1 then (obind (t_Scene_pourOne M k0 k1 v3_) fun q7 => (t_Scene_pourAnew_L40 k0 k1 (fun a0_ a1_ a2_ => t_Scene_pourAnew_L13 k0 k1 fu a0_ a1_ a2_) (q7.1) v2_ v3_)) else (t_Scene_pourAnew_L40 k0 k1 (fun a0_ a1_ a2_ => t_Scene_pourAnew_L13 k0 k1 fu a0_ a1_ a2_) M v2_ v3_))))
def t_Scene_pourAnew (M : Mem) (k0 : Nat) (k1 : Nat) : Option (Mem) := (qlet (setL M k0 6 0) fun M1 => (t_Scene_pourAnew_L13 k0 k1 FU M1 (M.2 k0 6) 0))
set_option maxHeartbeats 4000000 in
set_option maxRecDepth 100000 in
theorem k_Scene_pourAnew_L40 (l : Launch) {p : Program} {e : Env} {s : State} {m : MethodId} {below : List Frame} {meth : Method} {c : Code} {b n : Nat} {C : CT} (hlo : 191 ≤ n) (k0 : Nat) (k1 : Nat) (hk0 : isScene k0) (hk1 : isTown k1) (F : Cx b p m c b_Scene_pourAnew 5 s ([.ref (b + k0), .ref (b + k1)] : List Value).toArray "WardFalls$Scene" C n 191) (hlk : meth.locks = false) (hr : meth.sig.returnType = none) {res : Mem} (bk13 : Mem → Int64 → Int → Option (Mem)) (hbk13 : ∀ (M : Mem) (v2_ : Int64) (v3_ : Int) (hv3_ : InR v3_) (H : Heap) (locs : List Loc) (ls : Array Slot), St b C n M s H locs → lv_has ls 5 [(0, .ref (b + k0)), (1, .ref (b + k1)), (2, .long v2_), (4, vI v3_)] → bk13 M v2_ v3_ = some res → W p l e (headSpec (wsM y_Scene_pourAnew b_Scene_pourAnew 5 (none)) (rmD 4)).room s m ([.ref (b + k0), .ref (b + k1)] : List Value).toArray below meth c H locs 0 0 (MQ below (QV b C n res) ([.ref (b + k0), .ref (b + k1)] : List Value).toArray s 0 0 (frb b)) (F0 m 13 ls [])) (M : Mem) (v2_ : Int64) (v3_ : Int) (hv3_ : InR v3_) (H : Heap) (locs : List Loc) (ls : Array Slot) (hS : St b C n M s H locs) (hl : lv_has ls 5 [(0, .ref (b + k0)), (1, .ref (b + k1)), (2, .long v2_), (4, vI v3_)]) (hT : t_Scene_pourAnew_L40 k0 k1 bk13 M v2_ v3_ = some res) : W p l e (headSpec (wsM y_Scene_pourAnew b_Scene_pourAnew 5 (none)) (rmD 4)).room s m ([.ref (b + k0), .ref (b + k1)] : List Value).toArray below meth c H locs 0 0 (MQ below (QV b C n res) ([.ref (b + k0), .ref (b + k1)] : List Value).toArray s 0 0 (frb b)) (F0 m 40 ls []) := by
  unfold t_Scene_pourAnew_L40 at hT
  refine lv_iinc (v := Int32.ofInt (w32 (v3_ + 1))) (lv' := [(4, vI (w32 (v3_ + 1))), (0, .ref (b + k0)), (1, .ref (b + k1)), (2, .long v2_)]) F.hx F.hb d_Scene_pourAnew_40 hl (k := 3) rfl (q_of_add _ _) (Nat.le_of_ble_eq_true rfl) rfl (fun ls hl => ?_)
  refine lv_goto (tgt := 13) F.hx F.hb d_Scene_pourAnew_43 (by decide) ?_
  exact hbk13 M v2_ (w32 (v3_ + 1)) (inr_w32 _) _ _ _ hS (lv_sub hl [1, 2, 3, 0] rfl) hT
set_option maxHeartbeats 4000000 in
set_option maxRecDepth 100000 in
theorem k_Scene_pourAnew_L13 (l : Launch) {p : Program} {e : Env} {s : State} {m : MethodId} {below : List Frame} {meth : Method} {c : Code} {b n : Nat} {C : CT} (hlo : 191 ≤ n) (k0 : Nat) (k1 : Nat) (hk0 : isScene k0) (hk1 : isTown k1) (F : Cx b p m c b_Scene_pourAnew 5 s ([.ref (b + k0), .ref (b + k1)] : List Value).toArray "WardFalls$Scene" C n 191) (hlk : meth.locks = false) (hr : meth.sig.returnType = none) {res : Mem} : ∀ (fu : Nat) (M : Mem) (v2_ : Int64) (v3_ : Int) (hv3_ : InR v3_) (H : Heap) (locs : List Loc) (ls : Array Slot), St b C n M s H locs → lv_has ls 5 [(0, .ref (b + k0)), (1, .ref (b + k1)), (2, .long v2_), (4, vI v3_)] → t_Scene_pourAnew_L13 k0 k1 fu M v2_ v3_ = some res → W p l e (headSpec (wsM y_Scene_pourAnew b_Scene_pourAnew 5 (none)) (rmD 4)).room s m ([.ref (b + k0), .ref (b + k1)] : List Value).toArray below meth c H locs 0 0 (MQ below (QV b C n res) ([.ref (b + k0), .ref (b + k1)] : List Value).toArray s 0 0 (frb b)) (F0 m 13 ls []) := by
  intro fu
  induction fu with
  | zero => intro M v2_ v3_ hv3_ H locs ls hS hl hT; exact absurd hT (by simp [t_Scene_pourAnew_L13])
  | succ fu ih =>
    intro M v2_ v3_ hv3_ H locs ls hS hl hT
    rw [t_Scene_pourAnew_L13] at hT
    refine lv_iload F.hx F.hb d_Scene_pourAnew_13 (lv_at hl 3 rfl) ?_
    refine lv_aload_n F.hx F.hb d_Scene_pourAnew_15 rfl (lv_at hl 1 rfl) ?_
    refine r_get (v := vI (M.1 k1 13)) (N := 20) (T := T11) (j := 13) F hS (Town_lt hk1) (Town_sh hk1) (Town_N hk1) rfl (Nat.le_of_ble_eq_true rfl) ing11 mw_131 (fv_int rfl) d_Scene_pourAnew_16 ?_
    have i2 := hS.rng k1 13
    refine r_icmp_ge (tgt := 46) F.hx F.hb hv3_ i2 d_Scene_pourAnew_19 (by decide) (fun c3 => ?_) (fun c3 => ?_)
    · replace hT := (if_pos c3).symm.trans hT
      cases hT
      exact r_vret F hlk hr hS d_Scene_pourAnew_46
    · replace hT := (if_neg c3).symm.trans hT
      refine lv_lload_n F.hx F.hb d_Scene_pourAnew_22 rfl (lv_at hl 2 rfl) ?_
      refine lv_iload F.hx F.hb d_Scene_pourAnew_23 (lv_at hl 3 rfl) ?_
      obtain ⟨q4, hq4⟩ : ∃ q, q = (t_WF_bitOf M v2_ v3_) := ⟨_, rfl⟩
      replace hT := qlet_eq hT hq4
      refine r_backI F hS (r_runSN (As := [.long v2_, vI v3_]) F hS (c_WF_bitOf l F.2.2.1 M v2_ v3_ hv3_ _ hq4.symm) mw_773 mw_772 mw_1 gs_Scene_60 hd_WF_bitOf ⟨Nat.le_of_ble_eq_true rfl, Nat.le_of_ble_eq_true rfl⟩ rfl hl.1 (Nat.le_of_ble_eq_true rfl) ⟨Nat.zero_le _, Nat.zero_le _⟩ rfl d_Scene_pourAnew_25) (fun H locs hS h5 => ?_)
      refine r_iconst F.hx F.hb d_Scene_pourAnew_28 ?_
      refine r_icmp_ne (tgt := 40) F.hx F.hb h5 (inr_c rfl) d_Scene_pourAnew_29 (by decide) (fun c6 => ?_) (fun c6 => ?_)
      · replace hT := (if_neg c6).symm.trans hT
        exact k_Scene_pourAnew_L40 l hlo k0 k1 hk0 hk1 F hlk hr (fun a0_ a1_ a2_ => t_Scene_pourAnew_L13 k0 k1 fu a0_ a1_ a2_) ih M v2_ v3_ hv3_ _ _ _ hS (lv_sub hl [0, 1, 2, 3] rfl) hT
      · replace hT := (if_pos c6).symm.trans hT
        refine lv_aload_n F.hx F.hb d_Scene_pourAnew_32 rfl (lv_at hl 0 rfl) ?_
        refine lv_aload_n F.hx F.hb d_Scene_pourAnew_33 rfl (lv_at hl 1 rfl) ?_
        refine lv_iload F.hx F.hb d_Scene_pourAnew_34 (lv_at hl 3 rfl) ?_
        obtain ⟨q7, hq7, hT⟩ := q_obind hT
        refine r_backZ F hS (r_runV (k := k0) (N := 7) (T := T9) (As := [.ref (b + k1), vI v3_]) F hS (Scene_lt hk0) (Scene_sh hk0) rfl (c_Scene_pourOne l F.2.2.1 M k0 k1 v3_ hk0 hk1 hv3_ _ hq7) gs_Scene_100 hd_Scene_pourOne ⟨Nat.le_of_ble_eq_true rfl, Nat.le_of_ble_eq_true rfl⟩ rfl hl.1 (Nat.le_of_ble_eq_true rfl) ⟨Nat.zero_le _, Nat.zero_le _⟩ rfl d_Scene_pourAnew_36) (fun H locs hS h8 => ?_)
        refine lv_pop F.hx F.hb d_Scene_pourAnew_39 rfl ?_
        exact k_Scene_pourAnew_L40 l hlo k0 k1 hk0 hk1 F hlk hr (fun a0_ a1_ a2_ => t_Scene_pourAnew_L13 k0 k1 fu a0_ a1_ a2_) ih (q7.1) v2_ v3_ hv3_ _ _ _ hS (lv_sub hl [0, 1, 2, 3] rfl) hT
set_option maxHeartbeats 4000000 in
set_option maxRecDepth 100000 in
theorem c_Scene_pourAnew (l : Launch) {b n : Nat} {C : CT} (hlo : 191 ≤ n) (M : Mem) (k0 : Nat) (k1 : Nat) (hk0 : isScene k0) (hk1 : isTown k1) (res : Mem) (hT : t_Scene_pourAnew M k0 k1 = some res) : CM l b C n 4 y_Scene_pourAnew b_Scene_pourAnew 5 (none) [.ref (b + k0), .ref (b + k1)] M (QV b C n res) := by
  refine CM.of (lo := 191) (ow := "WardFalls$Scene") (by decide) rfl (Nat.le_of_ble_eq_true rfl) hlo (fun p e s m below meth c F hlk hr hS ls hl => ?_)
  have hl : lv_has ls 5 [(0, .ref (b + k0)), (1, .ref (b + k1))] := hl
  unfold t_Scene_pourAnew at hT
  refine lv_aload_n F.hx F.hb d_Scene_pourAnew_0 rfl (lv_at hl 0 rfl) ?_
  refine r_get (v := .long (M.2 k0 6)) (N := 7) (T := T9) (j := 6) F hS (Scene_lt hk0) (Scene_sh hk0) (Scene_N hk0) rfl (Nat.le_of_ble_eq_true rfl) ing9 mw_291 (fv_long rfl) d_Scene_pourAnew_1 ?_
  refine lv_lstore_n (lv' := [(2, .long (M.2 k0 6)), (0, .ref (b + k0)), (1, .ref (b + k1))]) F.hx F.hb d_Scene_pourAnew_4 rfl hl (Nat.le_of_ble_eq_true rfl) rfl (fun ls hl => ?_)
  refine lv_aload_n F.hx F.hb d_Scene_pourAnew_5 rfl (lv_at hl 1 rfl) ?_
  refine lv_lconst (v := 0) F.hx F.hb d_Scene_pourAnew_6 rfl ?_
  refine r_putL (N := 7) (T := T9) (j := 6) F hS (Scene_lt hk0) (Scene_sh hk0) (Scene_N hk0) rfl (Nat.le_of_ble_eq_true rfl) ing9 tyok9 nm9 rfl rfl rfl mw_291 d_Scene_pourAnew_7 (fun H locs hS => ?_)
  obtain ⟨M1, eM1⟩ : ∃ q, q = (setL M k0 6 0) := ⟨_, rfl⟩
  replace hS : St b C n M1 s H locs := by rw [eM1]; exact hS
  replace hT := qlet_eq hT eM1
  refine r_iconst F.hx F.hb d_Scene_pourAnew_10 ?_
  refine lv_istore (lv' := [(4, vI 0), (2, .long (M.2 k0 6)), (0, .ref (b + k0)), (1, .ref (b + k1))]) F.hx F.hb d_Scene_pourAnew_11 hl (Nat.le_of_ble_eq_true rfl) rfl (fun ls hl => ?_)
  exact k_Scene_pourAnew_L13 l hlo k0 k1 hk0 hk1 F hlk hr FU M1 (M.2 k0 6) 0 (inr_c rfl) _ _ _ hS (lv_sub hl [2, 3, 1, 0] rfl) hT
theorem d_WF_vote_0 : decode b_WF_vote 0 = .ok (.aload_n 0, 1) := dc_42 (by decide +kernel)
theorem d_WF_vote_1 : decode b_WF_vote 1 = .ok (.getfield 22, 3) := dc_180 (by decide +kernel)
theorem d_WF_vote_4 : decode b_WF_vote 4 = .ok (.iload_n 1, 1) := dc_27 (by decide +kernel)
theorem d_WF_vote_5 : decode b_WF_vote 5 = .ok (.invokevirtual 198, 3) := dc_182 (by decide +kernel)
theorem d_WF_vote_8 : decode b_WF_vote 8 = .ok (.ifCond .eq 25, 3) := dc_153 (by decide +kernel)
theorem d_WF_vote_11 : decode b_WF_vote 11 = .ok (.iload_n 2, 1) := dc_28 (by decide +kernel)
theorem d_WF_vote_12 : decode b_WF_vote 12 = .ok (.invokestatic 284, 3) := dc_184 (by decide +kernel)
theorem d_WF_vote_15 : decode b_WF_vote 15 = .ok (.ifCond .eq 18, 3) := dc_153 (by decide +kernel)
theorem d_WF_vote_18 : decode b_WF_vote 18 = .ok (.aload_n 0, 1) := dc_42 (by decide +kernel)
theorem d_WF_vote_19 : decode b_WF_vote 19 = .ok (.getfield 46, 3) := dc_180 (by decide +kernel)
theorem d_WF_vote_22 : decode b_WF_vote 22 = .ok (.getfield 201, 3) := dc_180 (by decide +kernel)
theorem d_WF_vote_25 : decode b_WF_vote 25 = .ok (.iload_n 1, 1) := dc_27 (by decide +kernel)
theorem d_WF_vote_26 : decode b_WF_vote 26 = .ok (.invokestatic 204, 3) := dc_184 (by decide +kernel)
theorem d_WF_vote_29 : decode b_WF_vote 29 = .ok (.iload_n 2, 1) := dc_28 (by decide +kernel)
theorem d_WF_vote_30 : decode b_WF_vote 30 = .ok (.if_icmp .ne 5, 3) := dc_160 (by decide +kernel)
theorem d_WF_vote_33 : decode b_WF_vote 33 = .ok (.iconst 0, 1) := dc_3 (by decide +kernel)
theorem d_WF_vote_34 : decode b_WF_vote 34 = .ok (.ireturn, 1) := dc_172 (by decide +kernel)
theorem d_WF_vote_35 : decode b_WF_vote 35 = .ok (.aload_n 0, 1) := dc_42 (by decide +kernel)
theorem d_WF_vote_36 : decode b_WF_vote 36 = .ok (.getfield 69, 3) := dc_180 (by decide +kernel)
theorem d_WF_vote_39 : decode b_WF_vote 39 = .ok (.aload_n 0, 1) := dc_42 (by decide +kernel)
theorem d_WF_vote_40 : decode b_WF_vote 40 = .ok (.getfield 46, 3) := dc_180 (by decide +kernel)
theorem d_WF_vote_43 : decode b_WF_vote 43 = .ok (.invokevirtual 287, 3) := dc_182 (by decide +kernel)
theorem d_WF_vote_46 : decode b_WF_vote 46 = .ok (.aload_n 0, 1) := dc_42 (by decide +kernel)
theorem d_WF_vote_47 : decode b_WF_vote 47 = .ok (.getfield 46, 3) := dc_180 (by decide +kernel)
theorem d_WF_vote_50 : decode b_WF_vote 50 = .ok (.getfield 201, 3) := dc_180 (by decide +kernel)
theorem d_WF_vote_53 : decode b_WF_vote 53 = .ok (.iload_n 1, 1) := dc_27 (by decide +kernel)
theorem d_WF_vote_54 : decode b_WF_vote 54 = .ok (.iload_n 2, 1) := dc_28 (by decide +kernel)
theorem d_WF_vote_55 : decode b_WF_vote 55 = .ok (.invokestatic 291, 3) := dc_184 (by decide +kernel)
theorem d_WF_vote_58 : decode b_WF_vote 58 = .ok (.aload_n 0, 1) := dc_42 (by decide +kernel)
theorem d_WF_vote_59 : decode b_WF_vote 59 = .ok (.getfield 46, 3) := dc_180 (by decide +kernel)
theorem d_WF_vote_62 : decode b_WF_vote 62 = .ok (.aload_n 0, 1) := dc_42 (by decide +kernel)
theorem d_WF_vote_63 : decode b_WF_vote 63 = .ok (.getfield 22, 3) := dc_180 (by decide +kernel)
theorem d_WF_vote_66 : decode b_WF_vote 66 = .ok (.invokevirtual 295, 3) := dc_182 (by decide +kernel)
theorem d_WF_vote_69 : decode b_WF_vote 69 = .ok (.iconst 1, 1) := dc_4 (by decide +kernel)
theorem d_WF_vote_70 : decode b_WF_vote 70 = .ok (.ireturn, 1) := dc_172 (by decide +kernel)
def t_WF_vote (M : Mem) (x1 : Int) (x2 : Int) : Option (Mem × Int) := (qlet (t_Town_hasWard M ((M.1 0 4).toNat) x1) fun q2 => (if q2 = 0 then (some (M, 0)) else (qlet (t_WF_isDown M x2) fun q5 => (if q5 = 0 then (some (M, 0)) else (qlet (t_WF_look M 48 4 x1) fun q8 => (if q8 = x2 then (some (M, 0)) else (qlet (t_Past_remember M 47) fun q11 => (qlet (t_WF_put q11 48 4 x1 x2) fun q13 => (obind (t_Scene_pourAnew q13 47 ((q13.1 0 4).toNat)) fun q16 => (some (q16, 1)))))))))))
set_option maxHeartbeats 4000000 in
set_option maxRecDepth 100000 in
theorem c_WF_vote (l : Launch) {b n : Nat} {C : CT} (hlo : 191 ≤ n) (M : Mem) (x1 : Int) (x2 : Int) (hx1 : InR x1) (hx2 : InR x2) (res : Mem × Int) (hT : t_WF_vote M x1 x2 = some res) : CM l b C n 5 y_WF_vote b_WF_vote 3 (some .boolean) [.ref (b + 0), vI x1, vI x2] M (QZ b C n res.1 res.2) := by
  refine CM.of (lo := 191) (ow := "WardFalls") (by decide) rfl (Nat.le_of_ble_eq_true rfl) hlo (fun p e s m below meth c F hlk hr hS ls hl => ?_)
  have hl : lv_has ls 3 [(0, .ref (b + 0)), (1, vI x1), (2, vI x2)] := hl
  unfold t_WF_vote at hT
  refine lv_aload_n F.hx F.hb d_WF_vote_0 rfl (lv_at hl 0 rfl) ?_
  have h1 := St_town hS
  refine r_get (v := .ref (b + ((M.1 0 4).toNat))) (N := 19) (T := T0) (j := 4) F hS (show 0 < 191 by decide) (show shK 0 = 4 from rfl) (show shN 0 = 19 from rfl) rfl (Nat.le_of_ble_eq_true rfl) ing0 mw_554 (fv_town hS) d_WF_vote_1 ?_
  refine lv_iload_n F.hx F.hb d_WF_vote_4 rfl (lv_at hl 1 rfl) ?_
  obtain ⟨q2, hq2⟩ : ∃ q, q = (t_Town_hasWard M ((M.1 0 4).toNat) x1) := ⟨_, rfl⟩
  replace hT := qlet_eq hT hq2
  refine r_backZ F hS (r_runV (k := ((M.1 0 4).toNat)) (N := 20) (T := T11) (As := [vI x1]) F hS (Town_lt h1) (Town_sh h1) rfl (c_Town_hasWard l F.2.2.1 M ((M.1 0 4).toNat) x1 h1 hx1 _ hq2.symm) gs_WF_198 hd_Town_hasWard ⟨Nat.le_of_ble_eq_true rfl, Nat.le_of_ble_eq_true rfl⟩ rfl hl.1 (Nat.le_of_ble_eq_true rfl) ⟨Nat.zero_le _, Nat.zero_le _⟩ rfl d_WF_vote_5) (fun H locs hS h3 => ?_)
  refine r_if_eq (tgt := 33) F.hx F.hb (inr_z h3) d_WF_vote_8 (by decide) (fun c4 => ?_) (fun c4 => ?_)
  · replace hT := (if_pos c4).symm.trans hT
    refine r_iconst F.hx F.hb d_WF_vote_33 ?_
    cases hT
    exact r_zret F hlk hr hS (Or.inl rfl) d_WF_vote_34
  · replace hT := (if_neg c4).symm.trans hT
    refine lv_iload_n F.hx F.hb d_WF_vote_11 rfl (lv_at hl 2 rfl) ?_
    obtain ⟨q5, hq5⟩ : ∃ q, q = (t_WF_isDown M x2) := ⟨_, rfl⟩
    replace hT := qlet_eq hT hq5
    refine r_backZ F hS (r_runS (As := [vI x2]) F hS (c_WF_isDown l F.2.2.1 M x2 hx2 _ hq5.symm) gs_WF_284 hd_WF_isDown ⟨Nat.le_of_ble_eq_true rfl, Nat.le_of_ble_eq_true rfl⟩ rfl hl.1 (Nat.le_of_ble_eq_true rfl) ⟨Nat.zero_le _, Nat.zero_le _⟩ rfl d_WF_vote_12) (fun H locs hS h6 => ?_)
    refine r_if_eq (tgt := 33) F.hx F.hb (inr_z h6) d_WF_vote_15 (by decide) (fun c7 => ?_) (fun c7 => ?_)
    · replace hT := (if_pos c7).symm.trans hT
      refine r_iconst F.hx F.hb d_WF_vote_33 ?_
      cases hT
      exact r_zret F hlk hr hS (Or.inl rfl) d_WF_vote_34
    · replace hT := (if_neg c7).symm.trans hT
      refine lv_aload_n F.hx F.hb d_WF_vote_18 rfl (lv_at hl 0 rfl) ?_
      refine r_get (v := .ref (b + 47)) (N := 19) (T := T0) (j := 8) F hS (show 0 < 191 by decide) (show shK 0 = 4 from rfl) (show shN 0 = 19 from rfl) rfl (Nat.le_of_ble_eq_true rfl) ing0 mw_558 (fv_sg rfl rfl rfl) d_WF_vote_19 ?_
      refine r_get (v := .ref (b + 48)) (N := 7) (T := T9) (j := 0) F hS (show 47 < 191 by decide) (show shK 47 = 13 from rfl) (show shN 47 = 7 from rfl) rfl (Nat.le_of_ble_eq_true rfl) ing9 mw_276 (fv_sg rfl rfl rfl) d_WF_vote_22 ?_
      refine lv_iload_n F.hx F.hb d_WF_vote_25 rfl (lv_at hl 1 rfl) ?_
      obtain ⟨q8, hq8⟩ : ∃ q, q = (t_WF_look M 48 4 x1) := ⟨_, rfl⟩
      replace hT := qlet_eq hT hq8
      refine r_backI F hS (r_runS (As := [.ref (b + 48), vI x1]) F hS (c_WF_look l F.2.2.1 M 48 4 x1 (show arrP 0 48 4 191 from ⟨rfl, rfl, by decide⟩) hx1 _ hq8.symm) gs_WF_204 hd_WF_look ⟨Nat.le_of_ble_eq_true rfl, Nat.le_of_ble_eq_true rfl⟩ rfl hl.1 (Nat.le_of_ble_eq_true rfl) ⟨Nat.zero_le _, Nat.zero_le _⟩ rfl d_WF_vote_26) (fun H locs hS h9 => ?_)
      refine lv_iload_n F.hx F.hb d_WF_vote_29 rfl (lv_at hl 2 rfl) ?_
      refine r_icmp_ne (tgt := 35) F.hx F.hb h9 hx2 d_WF_vote_30 (by decide) (fun c10 => ?_) (fun c10 => ?_)
      · replace hT := (if_neg c10).symm.trans hT
        refine lv_aload_n F.hx F.hb d_WF_vote_35 rfl (lv_at hl 0 rfl) ?_
        refine r_get (v := .ref (b + 70)) (N := 19) (T := T0) (j := 14) F hS (show 0 < 191 by decide) (show shK 0 = 4 from rfl) (show shN 0 = 19 from rfl) rfl (Nat.le_of_ble_eq_true rfl) ing0 mw_564 (fv_sg rfl rfl rfl) d_WF_vote_36 ?_
        refine lv_aload_n F.hx F.hb d_WF_vote_39 rfl (lv_at hl 0 rfl) ?_
        refine r_get (v := .ref (b + 47)) (N := 19) (T := T0) (j := 8) F hS (show 0 < 191 by decide) (show shK 0 = 4 from rfl) (show shN 0 = 19 from rfl) rfl (Nat.le_of_ble_eq_true rfl) ing0 mw_558 (fv_sg rfl rfl rfl) d_WF_vote_40 ?_
        obtain ⟨q11, hq11⟩ : ∃ q, q = (t_Past_remember M 47) := ⟨_, rfl⟩
        replace hT := qlet_eq hT hq11
        refine r_backV F hS (r_runV (k := 70) (N := 3) (T := T6) (As := [.ref (b + 47)]) F hS (show 70 < 191 by decide) (show shK 70 = 10 from rfl) rfl (c_Past_remember l F.2.2.1 M 47 (by decide : isScene 47) _ hq11.symm) gs_WF_287 hd_Past_remember ⟨Nat.le_of_ble_eq_true rfl, Nat.le_of_ble_eq_true rfl⟩ rfl hl.1 (Nat.le_of_ble_eq_true rfl) ⟨Nat.zero_le _, Nat.zero_le _⟩ rfl d_WF_vote_43) (fun H locs hS => ?_)
        refine lv_aload_n F.hx F.hb d_WF_vote_46 rfl (lv_at hl 0 rfl) ?_
        refine r_get (v := .ref (b + 47)) (N := 19) (T := T0) (j := 8) F hS (show 0 < 191 by decide) (show shK 0 = 4 from rfl) (show shN 0 = 19 from rfl) rfl (Nat.le_of_ble_eq_true rfl) ing0 mw_558 (fv_sg rfl rfl rfl) d_WF_vote_47 ?_
        refine r_get (v := .ref (b + 48)) (N := 7) (T := T9) (j := 0) F hS (show 47 < 191 by decide) (show shK 47 = 13 from rfl) (show shN 47 = 7 from rfl) rfl (Nat.le_of_ble_eq_true rfl) ing9 mw_276 (fv_sg rfl rfl rfl) d_WF_vote_50 ?_
        refine lv_iload_n F.hx F.hb d_WF_vote_53 rfl (lv_at hl 1 rfl) ?_
        refine lv_iload_n F.hx F.hb d_WF_vote_54 rfl (lv_at hl 2 rfl) ?_
        obtain ⟨q13, hq13⟩ : ∃ q, q = (t_WF_put q11 48 4 x1 x2) := ⟨_, rfl⟩
        replace hT := qlet_eq hT hq13
        refine r_backV F hS (r_runS (As := [.ref (b + 48), vI x1, vI x2]) F hS (c_WF_put l F.2.2.1 q11 48 4 x1 x2 (show arrP 0 48 4 191 from ⟨rfl, rfl, by decide⟩) hx1 hx2 _ hq13.symm) gs_WF_291 hd_WF_put ⟨Nat.le_of_ble_eq_true rfl, Nat.le_of_ble_eq_true rfl⟩ rfl hl.1 (Nat.le_of_ble_eq_true rfl) ⟨Nat.zero_le _, Nat.zero_le _⟩ rfl d_WF_vote_55) (fun H locs hS => ?_)
        refine lv_aload_n F.hx F.hb d_WF_vote_58 rfl (lv_at hl 0 rfl) ?_
        refine r_get (v := .ref (b + 47)) (N := 19) (T := T0) (j := 8) F hS (show 0 < 191 by decide) (show shK 0 = 4 from rfl) (show shN 0 = 19 from rfl) rfl (Nat.le_of_ble_eq_true rfl) ing0 mw_558 (fv_sg rfl rfl rfl) d_WF_vote_59 ?_
        refine lv_aload_n F.hx F.hb d_WF_vote_62 rfl (lv_at hl 0 rfl) ?_
        have h15 := St_town hS
        refine r_get (v := .ref (b + ((q13.1 0 4).toNat))) (N := 19) (T := T0) (j := 4) F hS (show 0 < 191 by decide) (show shK 0 = 4 from rfl) (show shN 0 = 19 from rfl) rfl (Nat.le_of_ble_eq_true rfl) ing0 mw_554 (fv_town hS) d_WF_vote_63 ?_
        obtain ⟨q16, hq16, hT⟩ := q_obind hT
        refine r_backV F hS (r_runV (k := 47) (N := 7) (T := T9) (As := [.ref (b + ((q13.1 0 4).toNat))]) F hS (show 47 < 191 by decide) (show shK 47 = 13 from rfl) rfl (c_Scene_pourAnew l F.2.2.1 q13 47 ((q13.1 0 4).toNat) (by decide : isScene 47) h15 _ hq16) gs_WF_295 hd_Scene_pourAnew ⟨Nat.le_of_ble_eq_true rfl, Nat.le_of_ble_eq_true rfl⟩ rfl hl.1 (Nat.le_of_ble_eq_true rfl) ⟨Nat.zero_le _, Nat.zero_le _⟩ rfl d_WF_vote_66) (fun H locs hS => ?_)
        refine r_iconst F.hx F.hb d_WF_vote_69 ?_
        cases hT
        exact r_zret F hlk hr hS (Or.inr rfl) d_WF_vote_70
      · replace hT := (if_pos c10).symm.trans hT
        refine r_iconst F.hx F.hb d_WF_vote_33 ?_
        cases hT
        exact r_zret F hlk hr hS (Or.inl rfl) d_WF_vote_34
theorem d_WF_net_0 : decode b_WF_net 0 = .ok (.aload_n 0, 1) := dc_42 (by decide +kernel)
theorem d_WF_net_1 : decode b_WF_net 1 = .ok (.iload_n 1, 1) := dc_27 (by decide +kernel)
theorem d_WF_net_2 : decode b_WF_net 2 = .ok (.invokevirtual 250, 3) := dc_182 (by decide +kernel)
theorem d_WF_net_5 : decode b_WF_net 5 = .ok (.ifCond .eq 27, 3) := dc_153 (by decide +kernel)
theorem d_WF_net_8 : decode b_WF_net 8 = .ok (.aload_n 0, 1) := dc_42 (by decide +kernel)
theorem d_WF_net_9 : decode b_WF_net 9 = .ok (.getfield 46, 3) := dc_180 (by decide +kernel)
theorem d_WF_net_12 : decode b_WF_net 12 = .ok (.getfield 176, 3) := dc_180 (by decide +kernel)
theorem d_WF_net_15 : decode b_WF_net 15 = .ok (.iload_n 1, 1) := dc_27 (by decide +kernel)
theorem d_WF_net_16 : decode b_WF_net 16 = .ok (.invokestatic 169, 3) := dc_184 (by decide +kernel)
theorem d_WF_net_19 : decode b_WF_net 19 = .ok (.iconst 1, 1) := dc_4 (by decide +kernel)
theorem d_WF_net_20 : decode b_WF_net 20 = .ok (.if_icmp .ne 7, 3) := dc_160 (by decide +kernel)
theorem d_WF_net_23 : decode b_WF_net 23 = .ok (.iconst 1, 1) := dc_4 (by decide +kernel)
theorem d_WF_net_24 : decode b_WF_net 24 = .ok (.goto 4, 3) := dc_167 (by decide +kernel)
theorem d_WF_net_27 : decode b_WF_net 27 = .ok (.iconst 0, 1) := dc_3 (by decide +kernel)
theorem d_WF_net_28 : decode b_WF_net 28 = .ok (.iload_n 2, 1) := dc_28 (by decide +kernel)
theorem d_WF_net_29 : decode b_WF_net 29 = .ok (.if_icmp .ne 5, 3) := dc_160 (by decide +kernel)
theorem d_WF_net_32 : decode b_WF_net 32 = .ok (.iconst 0, 1) := dc_3 (by decide +kernel)
theorem d_WF_net_33 : decode b_WF_net 33 = .ok (.ireturn, 1) := dc_172 (by decide +kernel)
theorem d_WF_net_34 : decode b_WF_net 34 = .ok (.aload_n 0, 1) := dc_42 (by decide +kernel)
theorem d_WF_net_35 : decode b_WF_net 35 = .ok (.getfield 69, 3) := dc_180 (by decide +kernel)
theorem d_WF_net_38 : decode b_WF_net 38 = .ok (.aload_n 0, 1) := dc_42 (by decide +kernel)
theorem d_WF_net_39 : decode b_WF_net 39 = .ok (.getfield 46, 3) := dc_180 (by decide +kernel)
theorem d_WF_net_42 : decode b_WF_net 42 = .ok (.invokevirtual 287, 3) := dc_182 (by decide +kernel)
theorem d_WF_net_45 : decode b_WF_net 45 = .ok (.aload_n 0, 1) := dc_42 (by decide +kernel)
theorem d_WF_net_46 : decode b_WF_net 46 = .ok (.getfield 46, 3) := dc_180 (by decide +kernel)
theorem d_WF_net_49 : decode b_WF_net 49 = .ok (.dup, 1) := dc_89 (by decide +kernel)
theorem d_WF_net_50 : decode b_WF_net 50 = .ok (.getfield 176, 3) := dc_180 (by decide +kernel)
theorem d_WF_net_53 : decode b_WF_net 53 = .ok (.lconst 1, 1) := dc_10 (by decide +kernel)
theorem d_WF_net_54 : decode b_WF_net 54 = .ok (.iload_n 1, 1) := dc_27 (by decide +kernel)
theorem d_WF_net_55 : decode b_WF_net 55 = .ok (.lshl, 1) := dc_121 (by decide +kernel)
theorem d_WF_net_56 : decode b_WF_net 56 = .ok (.lxor, 1) := dc_131 (by decide +kernel)
theorem d_WF_net_57 : decode b_WF_net 57 = .ok (.putfield 176, 3) := dc_181 (by decide +kernel)
theorem d_WF_net_60 : decode b_WF_net 60 = .ok (.aload_n 0, 1) := dc_42 (by decide +kernel)
theorem d_WF_net_61 : decode b_WF_net 61 = .ok (.getfield 83, 3) := dc_180 (by decide +kernel)
theorem d_WF_net_64 : decode b_WF_net 64 = .ok (.iconst 0, 1) := dc_3 (by decide +kernel)
theorem d_WF_net_65 : decode b_WF_net 65 = .ok (.putfield 280, 3) := dc_181 (by decide +kernel)
theorem d_WF_net_68 : decode b_WF_net 68 = .ok (.iconst 1, 1) := dc_4 (by decide +kernel)
theorem d_WF_net_69 : decode b_WF_net 69 = .ok (.ireturn, 1) := dc_172 (by decide +kernel)
def t_WF_net_L28 (x1 : Int) (x2 : Int)  (M : Mem) (v3_ : Int) : Mem × Int := (if v3_ = x2 then (M, 0) else (qlet (t_Past_remember M 47) fun q8 => (qlet (setL q8 47 5 ((q8.2 47 5) ^^^ (q_lshl 1 x1))) fun M10 => (qlet (setI M10 177 8 0) fun M11 => (M11, 1)))))
def t_WF_net (M : Mem) (x1 : Int) (x2 : Int) : Mem × Int := (qlet (t_WF_isFree M x1) fun q1 => (if q1 = 0 then (M, 0) else (qlet (t_WF_bitOf M (M.2 47 5) x1) fun q4 => (if q4 = 1 then (t_WF_net_L28 x1 x2 M 1) else (t_WF_net_L28 x1 x2 M 0)))))
set_option maxHeartbeats 4000000 in
set_option maxRecDepth 100000 in
theorem k_WF_net_L28 (l : Launch) {p : Program} {e : Env} {s : State} {m : MethodId} {below : List Frame} {meth : Method} {c : Code} {b n : Nat} {C : CT} (hlo : 191 ≤ n) (x1 : Int) (x2 : Int) (hx1 : InR x1) (hx2 : InR x2) (F : Cx b p m c b_WF_net 3 s ([.ref (b + 0), vI x1, vI x2] : List Value).toArray "WardFalls" C n 191) (hlk : meth.locks = false) (hr : meth.sig.returnType = some .boolean) {res : Mem × Int} (M : Mem) (v3_ : Int) (hv3_ : v3_ = 0 ∨ v3_ = 1) (H : Heap) (locs : List Loc) (ls : Array Slot) (hS : St b C n M s H locs) (hl : lv_has ls 3 [(0, .ref (b + 0)), (1, vI x1), (2, vI x2)]) (hT : t_WF_net_L28 x1 x2 M v3_ = res) : W p l e (headSpec (wsM y_WF_net b_WF_net 3 (some .boolean)) (rmD 5)).room s m ([.ref (b + 0), vI x1, vI x2] : List Value).toArray below meth c H locs 0 0 (MQ below (QZ b C n res.1 res.2) ([.ref (b + 0), vI x1, vI x2] : List Value).toArray s 0 0 (frb b)) (F0 m 28 ls [vI v3_]) := by
  unfold t_WF_net_L28 at hT
  refine lv_iload_n F.hx F.hb d_WF_net_28 rfl (lv_at hl 2 rfl) ?_
  refine r_icmp_ne (tgt := 34) F.hx F.hb (inr_z hv3_) hx2 d_WF_net_29 (by decide) (fun c7 => ?_) (fun c7 => ?_)
  · replace hT := (if_neg c7).symm.trans hT
    refine lv_aload_n F.hx F.hb d_WF_net_34 rfl (lv_at hl 0 rfl) ?_
    refine r_get (v := .ref (b + 70)) (N := 19) (T := T0) (j := 14) F hS (show 0 < 191 by decide) (show shK 0 = 4 from rfl) (show shN 0 = 19 from rfl) rfl (Nat.le_of_ble_eq_true rfl) ing0 mw_564 (fv_sg rfl rfl rfl) d_WF_net_35 ?_
    refine lv_aload_n F.hx F.hb d_WF_net_38 rfl (lv_at hl 0 rfl) ?_
    refine r_get (v := .ref (b + 47)) (N := 19) (T := T0) (j := 8) F hS (show 0 < 191 by decide) (show shK 0 = 4 from rfl) (show shN 0 = 19 from rfl) rfl (Nat.le_of_ble_eq_true rfl) ing0 mw_558 (fv_sg rfl rfl rfl) d_WF_net_39 ?_
    obtain ⟨q8, hq8⟩ : ∃ q, q = (t_Past_remember M 47) := ⟨_, rfl⟩
    replace hT := qlet_eq hT hq8
    refine r_backV F hS (r_runV (k := 70) (N := 3) (T := T6) (As := [.ref (b + 47)]) F hS (show 70 < 191 by decide) (show shK 70 = 10 from rfl) rfl (c_Past_remember l F.2.2.1 M 47 (by decide : isScene 47) _ hq8.symm) gs_WF_287 hd_Past_remember ⟨Nat.le_of_ble_eq_true rfl, Nat.le_of_ble_eq_true rfl⟩ rfl hl.1 (Nat.le_of_ble_eq_true rfl) ⟨Nat.zero_le _, Nat.zero_le _⟩ rfl d_WF_net_42) (fun H locs hS => ?_)
    refine lv_aload_n F.hx F.hb d_WF_net_45 rfl (lv_at hl 0 rfl) ?_
    refine r_get (v := .ref (b + 47)) (N := 19) (T := T0) (j := 8) F hS (show 0 < 191 by decide) (show shK 0 = 4 from rfl) (show shN 0 = 19 from rfl) rfl (Nat.le_of_ble_eq_true rfl) ing0 mw_558 (fv_sg rfl rfl rfl) d_WF_net_46 ?_
    refine lv_dup F.hx F.hb d_WF_net_49 rfl ?_
    refine r_get (v := .long (q8.2 47 5)) (N := 7) (T := T9) (j := 5) F hS (show 47 < 191 by decide) (show shK 47 = 13 from rfl) (show shN 47 = 7 from rfl) rfl (Nat.le_of_ble_eq_true rfl) ing9 mw_290 (fv_long rfl) d_WF_net_50 ?_
    refine lv_lconst (v := 1) F.hx F.hb d_WF_net_53 rfl ?_
    refine lv_iload_n F.hx F.hb d_WF_net_54 rfl (lv_at hl 1 rfl) ?_
    refine r_lshl F.hx F.hb d_WF_net_55 ?_
    refine lv_lxor F.hx F.hb d_WF_net_56 ?_
    refine r_putL (N := 7) (T := T9) (j := 5) F hS (show 47 < 191 by decide) (show shK 47 = 13 from rfl) (show shN 47 = 7 from rfl) rfl (Nat.le_of_ble_eq_true rfl) ing9 tyok9 nm9 rfl rfl rfl mw_290 d_WF_net_57 (fun H locs hS => ?_)
    obtain ⟨M10, eM10⟩ : ∃ q, q = (setL q8 47 5 ((q8.2 47 5) ^^^ (q_lshl 1 x1))) := ⟨_, rfl⟩
    replace hS : St b C n M10 s H locs := by rw [eM10]; exact hS
    replace hT := qlet_eq hT eM10
    refine lv_aload_n F.hx F.hb d_WF_net_60 rfl (lv_at hl 0 rfl) ?_
    refine r_get (v := .ref (b + 177)) (N := 19) (T := T0) (j := 16) F hS (show 0 < 191 by decide) (show shK 0 = 4 from rfl) (show shN 0 = 19 from rfl) rfl (Nat.le_of_ble_eq_true rfl) ing0 mw_566 (fv_sg rfl rfl rfl) d_WF_net_61 ?_
    refine r_iconst F.hx F.hb d_WF_net_64 ?_
    refine r_putI (N := 9) (T := T4) (j := 8) F hS (show 177 < 191 by decide) (show shK 177 = 8 from rfl) (show shN 177 = 9 from rfl) rfl (Nat.le_of_ble_eq_true rfl) ing4 tyok4 nm4 rfl rfl (nar_z (Or.inl rfl)) (fit_z (Or.inl rfl)) rfl rfl mw_448 (inr_c rfl) d_WF_net_65 (fun H locs hS => ?_)
    obtain ⟨M11, eM11⟩ : ∃ q, q = (setI M10 177 8 0) := ⟨_, rfl⟩
    replace hS : St b C n M11 s H locs := by rw [eM11]; exact hS
    replace hT := qlet_eq hT eM11
    refine r_iconst F.hx F.hb d_WF_net_68 ?_
    subst hT
    exact r_zret F hlk hr hS (Or.inr rfl) d_WF_net_69
  · replace hT := (if_pos c7).symm.trans hT
    refine r_iconst F.hx F.hb d_WF_net_32 ?_
    subst hT
    exact r_zret F hlk hr hS (Or.inl rfl) d_WF_net_33
set_option maxHeartbeats 4000000 in
set_option maxRecDepth 100000 in
theorem c_WF_net (l : Launch) {b n : Nat} {C : CT} (hlo : 191 ≤ n) (M : Mem) (x1 : Int) (x2 : Int) (hx1 : InR x1) (hx2 : InR x2) (res : Mem × Int) (hT : t_WF_net M x1 x2 = res) : CM l b C n 5 y_WF_net b_WF_net 3 (some .boolean) [.ref (b + 0), vI x1, vI x2] M (QZ b C n res.1 res.2) := by
  refine CM.of (lo := 191) (ow := "WardFalls") (by decide) rfl (Nat.le_of_ble_eq_true rfl) hlo (fun p e s m below meth c F hlk hr hS ls hl => ?_)
  have hl : lv_has ls 3 [(0, .ref (b + 0)), (1, vI x1), (2, vI x2)] := hl
  unfold t_WF_net at hT
  refine lv_aload_n F.hx F.hb d_WF_net_0 rfl (lv_at hl 0 rfl) ?_
  refine lv_iload_n F.hx F.hb d_WF_net_1 rfl (lv_at hl 1 rfl) ?_
  obtain ⟨q1, hq1⟩ : ∃ q, q = (t_WF_isFree M x1) := ⟨_, rfl⟩
  replace hT := qlet_eq hT hq1
  refine r_backZ F hS (r_runV (k := 0) (N := 19) (T := T0) (As := [vI x1]) F hS (show 0 < 191 by decide) (show shK 0 = 4 from rfl) rfl (c_WF_isFree l F.2.2.1 M x1 hx1 _ hq1.symm) gs_WF_250 hd_WF_isFree ⟨Nat.le_of_ble_eq_true rfl, Nat.le_of_ble_eq_true rfl⟩ rfl hl.1 (Nat.le_of_ble_eq_true rfl) ⟨Nat.zero_le _, Nat.zero_le _⟩ rfl d_WF_net_2) (fun H locs hS h2 => ?_)
  refine r_if_eq (tgt := 32) F.hx F.hb (inr_z h2) d_WF_net_5 (by decide) (fun c3 => ?_) (fun c3 => ?_)
  · replace hT := (if_pos c3).symm.trans hT
    refine r_iconst F.hx F.hb d_WF_net_32 ?_
    subst hT
    exact r_zret F hlk hr hS (Or.inl rfl) d_WF_net_33
  · replace hT := (if_neg c3).symm.trans hT
    refine lv_aload_n F.hx F.hb d_WF_net_8 rfl (lv_at hl 0 rfl) ?_
    refine r_get (v := .ref (b + 47)) (N := 19) (T := T0) (j := 8) F hS (show 0 < 191 by decide) (show shK 0 = 4 from rfl) (show shN 0 = 19 from rfl) rfl (Nat.le_of_ble_eq_true rfl) ing0 mw_558 (fv_sg rfl rfl rfl) d_WF_net_9 ?_
    refine r_get (v := .long (M.2 47 5)) (N := 7) (T := T9) (j := 5) F hS (show 47 < 191 by decide) (show shK 47 = 13 from rfl) (show shN 47 = 7 from rfl) rfl (Nat.le_of_ble_eq_true rfl) ing9 mw_290 (fv_long rfl) d_WF_net_12 ?_
    refine lv_iload_n F.hx F.hb d_WF_net_15 rfl (lv_at hl 1 rfl) ?_
    obtain ⟨q4, hq4⟩ : ∃ q, q = (t_WF_bitOf M (M.2 47 5) x1) := ⟨_, rfl⟩
    replace hT := qlet_eq hT hq4
    refine r_backI F hS (r_runS (As := [.long (M.2 47 5), vI x1]) F hS (c_WF_bitOf l F.2.2.1 M (M.2 47 5) x1 hx1 _ hq4.symm) gs_WF_169 hd_WF_bitOf ⟨Nat.le_of_ble_eq_true rfl, Nat.le_of_ble_eq_true rfl⟩ rfl hl.1 (Nat.le_of_ble_eq_true rfl) ⟨Nat.zero_le _, Nat.zero_le _⟩ rfl d_WF_net_16) (fun H locs hS h5 => ?_)
    refine r_iconst F.hx F.hb d_WF_net_19 ?_
    refine r_icmp_ne (tgt := 27) F.hx F.hb h5 (inr_c rfl) d_WF_net_20 (by decide) (fun c6 => ?_) (fun c6 => ?_)
    · replace hT := (if_neg c6).symm.trans hT
      refine r_iconst F.hx F.hb d_WF_net_27 ?_
      exact k_WF_net_L28 l hlo x1 x2 hx1 hx2 F hlk hr M 0 (Or.inl rfl) _ _ _ hS (lv_sub hl [0, 1, 2] rfl) hT
    · replace hT := (if_pos c6).symm.trans hT
      refine r_iconst F.hx F.hb d_WF_net_23 ?_
      refine lv_goto (tgt := 28) F.hx F.hb d_WF_net_24 (by decide) ?_
      exact k_WF_net_L28 l hlo x1 x2 hx1 hx2 F hlk hr M 1 (Or.inr rfl) _ _ _ hS (lv_sub hl [0, 1, 2] rfl) hT
theorem d_WF_lay_0 : decode b_WF_lay 0 = .ok (.aload_n 0, 1) := dc_42 (by decide +kernel)
theorem d_WF_lay_1 : decode b_WF_lay 1 = .ok (.getfield 22, 3) := dc_180 (by decide +kernel)
theorem d_WF_lay_4 : decode b_WF_lay 4 = .ok (.iload_n 1, 1) := dc_27 (by decide +kernel)
theorem d_WF_lay_5 : decode b_WF_lay 5 = .ok (.invokevirtual 225, 3) := dc_182 (by decide +kernel)
theorem d_WF_lay_8 : decode b_WF_lay 8 = .ok (.ifCond .eq 26, 3) := dc_153 (by decide +kernel)
theorem d_WF_lay_11 : decode b_WF_lay 11 = .ok (.aload_n 0, 1) := dc_42 (by decide +kernel)
theorem d_WF_lay_12 : decode b_WF_lay 12 = .ok (.iload_n 2, 1) := dc_28 (by decide +kernel)
theorem d_WF_lay_13 : decode b_WF_lay 13 = .ok (.invokevirtual 250, 3) := dc_182 (by decide +kernel)
theorem d_WF_lay_16 : decode b_WF_lay 16 = .ok (.ifCond .eq 18, 3) := dc_153 (by decide +kernel)
theorem d_WF_lay_19 : decode b_WF_lay 19 = .ok (.aload_n 0, 1) := dc_42 (by decide +kernel)
theorem d_WF_lay_20 : decode b_WF_lay 20 = .ok (.getfield 46, 3) := dc_180 (by decide +kernel)
theorem d_WF_lay_23 : decode b_WF_lay 23 = .ok (.aload_n 0, 1) := dc_42 (by decide +kernel)
theorem d_WF_lay_24 : decode b_WF_lay 24 = .ok (.getfield 22, 3) := dc_180 (by decide +kernel)
theorem d_WF_lay_27 : decode b_WF_lay 27 = .ok (.iload_n 2, 1) := dc_28 (by decide +kernel)
theorem d_WF_lay_28 : decode b_WF_lay 28 = .ok (.invokevirtual 182, 3) := dc_182 (by decide +kernel)
theorem d_WF_lay_31 : decode b_WF_lay 31 = .ok (.ifCond .lt 5, 3) := dc_155 (by decide +kernel)
theorem d_WF_lay_34 : decode b_WF_lay 34 = .ok (.iconst 0, 1) := dc_3 (by decide +kernel)
theorem d_WF_lay_35 : decode b_WF_lay 35 = .ok (.ireturn, 1) := dc_172 (by decide +kernel)
theorem d_WF_lay_36 : decode b_WF_lay 36 = .ok (.aload_n 0, 1) := dc_42 (by decide +kernel)
theorem d_WF_lay_37 : decode b_WF_lay 37 = .ok (.getfield 69, 3) := dc_180 (by decide +kernel)
theorem d_WF_lay_40 : decode b_WF_lay 40 = .ok (.aload_n 0, 1) := dc_42 (by decide +kernel)
theorem d_WF_lay_41 : decode b_WF_lay 41 = .ok (.getfield 46, 3) := dc_180 (by decide +kernel)
theorem d_WF_lay_44 : decode b_WF_lay 44 = .ok (.invokevirtual 287, 3) := dc_182 (by decide +kernel)
theorem d_WF_lay_47 : decode b_WF_lay 47 = .ok (.aload_n 0, 1) := dc_42 (by decide +kernel)
theorem d_WF_lay_48 : decode b_WF_lay 48 = .ok (.getfield 46, 3) := dc_180 (by decide +kernel)
theorem d_WF_lay_51 : decode b_WF_lay 51 = .ok (.getfield 228, 3) := dc_180 (by decide +kernel)
theorem d_WF_lay_54 : decode b_WF_lay 54 = .ok (.iload_n 1, 1) := dc_27 (by decide +kernel)
theorem d_WF_lay_55 : decode b_WF_lay 55 = .ok (.iload_n 2, 1) := dc_28 (by decide +kernel)
theorem d_WF_lay_56 : decode b_WF_lay 56 = .ok (.invokestatic 291, 3) := dc_184 (by decide +kernel)
theorem d_WF_lay_59 : decode b_WF_lay 59 = .ok (.aload_n 0, 1) := dc_42 (by decide +kernel)
theorem d_WF_lay_60 : decode b_WF_lay 60 = .ok (.getfield 83, 3) := dc_180 (by decide +kernel)
theorem d_WF_lay_63 : decode b_WF_lay 63 = .ok (.iconst 0, 1) := dc_3 (by decide +kernel)
theorem d_WF_lay_64 : decode b_WF_lay 64 = .ok (.putfield 280, 3) := dc_181 (by decide +kernel)
theorem d_WF_lay_67 : decode b_WF_lay 67 = .ok (.iconst 1, 1) := dc_4 (by decide +kernel)
theorem d_WF_lay_68 : decode b_WF_lay 68 = .ok (.ireturn, 1) := dc_172 (by decide +kernel)
def t_WF_lay (M : Mem) (x1 : Int) (x2 : Int) : Option (Mem × Int) := (qlet (t_Town_hasThing M ((M.1 0 4).toNat) x1) fun q2 => (if q2 = 0 then (some (M, 0)) else (qlet (t_WF_isFree M x2) fun q5 => (if q5 = 0 then (some (M, 0)) else (obind (t_Scene_thingIn M 47 ((M.1 0 4).toNat) x2) fun q9 => (if q9 < 0 then (qlet (t_Past_remember M 47) fun q12 => (qlet (t_WF_put q12 49 8 x1 x2) fun q14 => (qlet (setI q14 177 8 0) fun M16 => (some (M16, 1))))) else (some (M, 0))))))))
set_option maxHeartbeats 4000000 in
set_option maxRecDepth 100000 in
theorem c_WF_lay (l : Launch) {b n : Nat} {C : CT} (hlo : 191 ≤ n) (M : Mem) (x1 : Int) (x2 : Int) (hx1 : InR x1) (hx2 : InR x2) (res : Mem × Int) (hT : t_WF_lay M x1 x2 = some res) : CM l b C n 5 y_WF_lay b_WF_lay 3 (some .boolean) [.ref (b + 0), vI x1, vI x2] M (QZ b C n res.1 res.2) := by
  refine CM.of (lo := 191) (ow := "WardFalls") (by decide) rfl (Nat.le_of_ble_eq_true rfl) hlo (fun p e s m below meth c F hlk hr hS ls hl => ?_)
  have hl : lv_has ls 3 [(0, .ref (b + 0)), (1, vI x1), (2, vI x2)] := hl
  unfold t_WF_lay at hT
  refine lv_aload_n F.hx F.hb d_WF_lay_0 rfl (lv_at hl 0 rfl) ?_
  have h1 := St_town hS
  refine r_get (v := .ref (b + ((M.1 0 4).toNat))) (N := 19) (T := T0) (j := 4) F hS (show 0 < 191 by decide) (show shK 0 = 4 from rfl) (show shN 0 = 19 from rfl) rfl (Nat.le_of_ble_eq_true rfl) ing0 mw_554 (fv_town hS) d_WF_lay_1 ?_
  refine lv_iload_n F.hx F.hb d_WF_lay_4 rfl (lv_at hl 1 rfl) ?_
  obtain ⟨q2, hq2⟩ : ∃ q, q = (t_Town_hasThing M ((M.1 0 4).toNat) x1) := ⟨_, rfl⟩
  replace hT := qlet_eq hT hq2
  refine r_backZ F hS (r_runV (k := ((M.1 0 4).toNat)) (N := 20) (T := T11) (As := [vI x1]) F hS (Town_lt h1) (Town_sh h1) rfl (c_Town_hasThing l F.2.2.1 M ((M.1 0 4).toNat) x1 h1 hx1 _ hq2.symm) gs_WF_225 hd_Town_hasThing ⟨Nat.le_of_ble_eq_true rfl, Nat.le_of_ble_eq_true rfl⟩ rfl hl.1 (Nat.le_of_ble_eq_true rfl) ⟨Nat.zero_le _, Nat.zero_le _⟩ rfl d_WF_lay_5) (fun H locs hS h3 => ?_)
  refine r_if_eq (tgt := 34) F.hx F.hb (inr_z h3) d_WF_lay_8 (by decide) (fun c4 => ?_) (fun c4 => ?_)
  · replace hT := (if_pos c4).symm.trans hT
    refine r_iconst F.hx F.hb d_WF_lay_34 ?_
    cases hT
    exact r_zret F hlk hr hS (Or.inl rfl) d_WF_lay_35
  · replace hT := (if_neg c4).symm.trans hT
    refine lv_aload_n F.hx F.hb d_WF_lay_11 rfl (lv_at hl 0 rfl) ?_
    refine lv_iload_n F.hx F.hb d_WF_lay_12 rfl (lv_at hl 2 rfl) ?_
    obtain ⟨q5, hq5⟩ : ∃ q, q = (t_WF_isFree M x2) := ⟨_, rfl⟩
    replace hT := qlet_eq hT hq5
    refine r_backZ F hS (r_runV (k := 0) (N := 19) (T := T0) (As := [vI x2]) F hS (show 0 < 191 by decide) (show shK 0 = 4 from rfl) rfl (c_WF_isFree l F.2.2.1 M x2 hx2 _ hq5.symm) gs_WF_250 hd_WF_isFree ⟨Nat.le_of_ble_eq_true rfl, Nat.le_of_ble_eq_true rfl⟩ rfl hl.1 (Nat.le_of_ble_eq_true rfl) ⟨Nat.zero_le _, Nat.zero_le _⟩ rfl d_WF_lay_13) (fun H locs hS h6 => ?_)
    refine r_if_eq (tgt := 34) F.hx F.hb (inr_z h6) d_WF_lay_16 (by decide) (fun c7 => ?_) (fun c7 => ?_)
    · replace hT := (if_pos c7).symm.trans hT
      refine r_iconst F.hx F.hb d_WF_lay_34 ?_
      cases hT
      exact r_zret F hlk hr hS (Or.inl rfl) d_WF_lay_35
    · replace hT := (if_neg c7).symm.trans hT
      refine lv_aload_n F.hx F.hb d_WF_lay_19 rfl (lv_at hl 0 rfl) ?_
      refine r_get (v := .ref (b + 47)) (N := 19) (T := T0) (j := 8) F hS (show 0 < 191 by decide) (show shK 0 = 4 from rfl) (show shN 0 = 19 from rfl) rfl (Nat.le_of_ble_eq_true rfl) ing0 mw_558 (fv_sg rfl rfl rfl) d_WF_lay_20 ?_
      refine lv_aload_n F.hx F.hb d_WF_lay_23 rfl (lv_at hl 0 rfl) ?_
      have h8 := St_town hS
      refine r_get (v := .ref (b + ((M.1 0 4).toNat))) (N := 19) (T := T0) (j := 4) F hS (show 0 < 191 by decide) (show shK 0 = 4 from rfl) (show shN 0 = 19 from rfl) rfl (Nat.le_of_ble_eq_true rfl) ing0 mw_554 (fv_town hS) d_WF_lay_24 ?_
      refine lv_iload_n F.hx F.hb d_WF_lay_27 rfl (lv_at hl 2 rfl) ?_
      obtain ⟨q9, hq9, hT⟩ := q_obind hT
      refine r_backI F hS (r_runV (k := 47) (N := 7) (T := T9) (As := [.ref (b + ((M.1 0 4).toNat)), vI x2]) F hS (show 47 < 191 by decide) (show shK 47 = 13 from rfl) rfl (c_Scene_thingIn l F.2.2.1 M 47 ((M.1 0 4).toNat) x2 (by decide : isScene 47) h8 hx2 _ hq9) gs_WF_182 hd_Scene_thingIn ⟨Nat.le_of_ble_eq_true rfl, Nat.le_of_ble_eq_true rfl⟩ rfl hl.1 (Nat.le_of_ble_eq_true rfl) ⟨Nat.zero_le _, Nat.zero_le _⟩ rfl d_WF_lay_28) (fun H locs hS h10 => ?_)
      refine r_if_lt (tgt := 36) F.hx F.hb h10 d_WF_lay_31 (by decide) (fun c11 => ?_) (fun c11 => ?_)
      · replace hT := (if_pos c11).symm.trans hT
        refine lv_aload_n F.hx F.hb d_WF_lay_36 rfl (lv_at hl 0 rfl) ?_
        refine r_get (v := .ref (b + 70)) (N := 19) (T := T0) (j := 14) F hS (show 0 < 191 by decide) (show shK 0 = 4 from rfl) (show shN 0 = 19 from rfl) rfl (Nat.le_of_ble_eq_true rfl) ing0 mw_564 (fv_sg rfl rfl rfl) d_WF_lay_37 ?_
        refine lv_aload_n F.hx F.hb d_WF_lay_40 rfl (lv_at hl 0 rfl) ?_
        refine r_get (v := .ref (b + 47)) (N := 19) (T := T0) (j := 8) F hS (show 0 < 191 by decide) (show shK 0 = 4 from rfl) (show shN 0 = 19 from rfl) rfl (Nat.le_of_ble_eq_true rfl) ing0 mw_558 (fv_sg rfl rfl rfl) d_WF_lay_41 ?_
        obtain ⟨q12, hq12⟩ : ∃ q, q = (t_Past_remember M 47) := ⟨_, rfl⟩
        replace hT := qlet_eq hT hq12
        refine r_backV F hS (r_runV (k := 70) (N := 3) (T := T6) (As := [.ref (b + 47)]) F hS (show 70 < 191 by decide) (show shK 70 = 10 from rfl) rfl (c_Past_remember l F.2.2.1 M 47 (by decide : isScene 47) _ hq12.symm) gs_WF_287 hd_Past_remember ⟨Nat.le_of_ble_eq_true rfl, Nat.le_of_ble_eq_true rfl⟩ rfl hl.1 (Nat.le_of_ble_eq_true rfl) ⟨Nat.zero_le _, Nat.zero_le _⟩ rfl d_WF_lay_44) (fun H locs hS => ?_)
        refine lv_aload_n F.hx F.hb d_WF_lay_47 rfl (lv_at hl 0 rfl) ?_
        refine r_get (v := .ref (b + 47)) (N := 19) (T := T0) (j := 8) F hS (show 0 < 191 by decide) (show shK 0 = 4 from rfl) (show shN 0 = 19 from rfl) rfl (Nat.le_of_ble_eq_true rfl) ing0 mw_558 (fv_sg rfl rfl rfl) d_WF_lay_48 ?_
        refine r_get (v := .ref (b + 49)) (N := 7) (T := T9) (j := 1) F hS (show 47 < 191 by decide) (show shK 47 = 13 from rfl) (show shN 47 = 7 from rfl) rfl (Nat.le_of_ble_eq_true rfl) ing9 mw_280 (fv_sg rfl rfl rfl) d_WF_lay_51 ?_
        refine lv_iload_n F.hx F.hb d_WF_lay_54 rfl (lv_at hl 1 rfl) ?_
        refine lv_iload_n F.hx F.hb d_WF_lay_55 rfl (lv_at hl 2 rfl) ?_
        obtain ⟨q14, hq14⟩ : ∃ q, q = (t_WF_put q12 49 8 x1 x2) := ⟨_, rfl⟩
        replace hT := qlet_eq hT hq14
        refine r_backV F hS (r_runS (As := [.ref (b + 49), vI x1, vI x2]) F hS (c_WF_put l F.2.2.1 q12 49 8 x1 x2 (show arrP 0 49 8 191 from ⟨rfl, rfl, by decide⟩) hx1 hx2 _ hq14.symm) gs_WF_291 hd_WF_put ⟨Nat.le_of_ble_eq_true rfl, Nat.le_of_ble_eq_true rfl⟩ rfl hl.1 (Nat.le_of_ble_eq_true rfl) ⟨Nat.zero_le _, Nat.zero_le _⟩ rfl d_WF_lay_56) (fun H locs hS => ?_)
        refine lv_aload_n F.hx F.hb d_WF_lay_59 rfl (lv_at hl 0 rfl) ?_
        refine r_get (v := .ref (b + 177)) (N := 19) (T := T0) (j := 16) F hS (show 0 < 191 by decide) (show shK 0 = 4 from rfl) (show shN 0 = 19 from rfl) rfl (Nat.le_of_ble_eq_true rfl) ing0 mw_566 (fv_sg rfl rfl rfl) d_WF_lay_60 ?_
        refine r_iconst F.hx F.hb d_WF_lay_63 ?_
        refine r_putI (N := 9) (T := T4) (j := 8) F hS (show 177 < 191 by decide) (show shK 177 = 8 from rfl) (show shN 177 = 9 from rfl) rfl (Nat.le_of_ble_eq_true rfl) ing4 tyok4 nm4 rfl rfl (nar_z (Or.inl rfl)) (fit_z (Or.inl rfl)) rfl rfl mw_448 (inr_c rfl) d_WF_lay_64 (fun H locs hS => ?_)
        obtain ⟨M16, eM16⟩ : ∃ q, q = (setI q14 177 8 0) := ⟨_, rfl⟩
        replace hS : St b C n M16 s H locs := by rw [eM16]; exact hS
        replace hT := qlet_eq hT eM16
        refine r_iconst F.hx F.hb d_WF_lay_67 ?_
        cases hT
        exact r_zret F hlk hr hS (Or.inr rfl) d_WF_lay_68
      · replace hT := (if_neg c11).symm.trans hT
        refine r_iconst F.hx F.hb d_WF_lay_34 ?_
        cases hT
        exact r_zret F hlk hr hS (Or.inl rfl) d_WF_lay_35
theorem d_WF_pour_0 : decode b_WF_pour 0 = .ok (.aload_n 0, 1) := dc_42 (by decide +kernel)
theorem d_WF_pour_1 : decode b_WF_pour 1 = .ok (.iload_n 1, 1) := dc_27 (by decide +kernel)
theorem d_WF_pour_2 : decode b_WF_pour 2 = .ok (.invokevirtual 250, 3) := dc_182 (by decide +kernel)
theorem d_WF_pour_5 : decode b_WF_pour 5 = .ok (.ifCond .eq 14, 3) := dc_153 (by decide +kernel)
theorem d_WF_pour_8 : decode b_WF_pour 8 = .ok (.iload_n 2, 1) := dc_28 (by decide +kernel)
theorem d_WF_pour_9 : decode b_WF_pour 9 = .ok (.iconst 1, 1) := dc_4 (by decide +kernel)
theorem d_WF_pour_10 : decode b_WF_pour 10 = .ok (.if_icmp .lt 9, 3) := dc_161 (by decide +kernel)
theorem d_WF_pour_13 : decode b_WF_pour 13 = .ok (.iload_n 2, 1) := dc_28 (by decide +kernel)
theorem d_WF_pour_14 : decode b_WF_pour 14 = .ok (.bipush 99, 2) := dc_16 (by decide +kernel)
theorem d_WF_pour_16 : decode b_WF_pour 16 = .ok (.if_icmp .le 5, 3) := dc_164 (by decide +kernel)
theorem d_WF_pour_19 : decode b_WF_pour 19 = .ok (.iconst (-1), 1) := dc_2 (by decide +kernel)
theorem d_WF_pour_20 : decode b_WF_pour 20 = .ok (.ireturn, 1) := dc_172 (by decide +kernel)
theorem d_WF_pour_21 : decode b_WF_pour 21 = .ok (.aload_n 0, 1) := dc_42 (by decide +kernel)
theorem d_WF_pour_22 : decode b_WF_pour 22 = .ok (.getfield 50, 3) := dc_180 (by decide +kernel)
theorem d_WF_pour_25 : decode b_WF_pour 25 = .ok (.aload_n 0, 1) := dc_42 (by decide +kernel)
theorem d_WF_pour_26 : decode b_WF_pour 26 = .ok (.getfield 46, 3) := dc_180 (by decide +kernel)
theorem d_WF_pour_29 : decode b_WF_pour 29 = .ok (.invokevirtual 299, 3) := dc_182 (by decide +kernel)
theorem d_WF_pour_32 : decode b_WF_pour 32 = .ok (.iconst 0, 1) := dc_3 (by decide +kernel)
theorem d_WF_pour_33 : decode b_WF_pour 33 = .ok (.istore_n 3, 1) := dc_62 (by decide +kernel)
theorem d_WF_pour_34 : decode b_WF_pour 34 = .ok (.iconst 0, 1) := dc_3 (by decide +kernel)
theorem d_WF_pour_35 : decode b_WF_pour 35 = .ok (.istore 4, 2) := dc_54 (by decide +kernel)
theorem d_WF_pour_37 : decode b_WF_pour 37 = .ok (.iload 4, 2) := dc_21 (by decide +kernel)
theorem d_WF_pour_39 : decode b_WF_pour 39 = .ok (.iload_n 2, 1) := dc_28 (by decide +kernel)
theorem d_WF_pour_40 : decode b_WF_pour 40 = .ok (.if_icmp .ge 27, 3) := dc_162 (by decide +kernel)
theorem d_WF_pour_43 : decode b_WF_pour 43 = .ok (.aload_n 0, 1) := dc_42 (by decide +kernel)
theorem d_WF_pour_44 : decode b_WF_pour 44 = .ok (.getfield 50, 3) := dc_180 (by decide +kernel)
theorem d_WF_pour_47 : decode b_WF_pour 47 = .ok (.aload_n 0, 1) := dc_42 (by decide +kernel)
theorem d_WF_pour_48 : decode b_WF_pour 48 = .ok (.getfield 22, 3) := dc_180 (by decide +kernel)
theorem d_WF_pour_51 : decode b_WF_pour 51 = .ok (.iload_n 1, 1) := dc_27 (by decide +kernel)
theorem d_WF_pour_52 : decode b_WF_pour 52 = .ok (.invokevirtual 302, 3) := dc_182 (by decide +kernel)
theorem d_WF_pour_55 : decode b_WF_pour 55 = .ok (.ifCond .eq 6, 3) := dc_153 (by decide +kernel)
theorem d_WF_pour_58 : decode b_WF_pour 58 = .ok (.iinc 3 1, 3) := dc_132 (by decide +kernel)
theorem d_WF_pour_61 : decode b_WF_pour 61 = .ok (.iinc 4 1, 3) := dc_132 (by decide +kernel)
theorem d_WF_pour_64 : decode b_WF_pour 64 = .ok (.goto (-27), 3) := dc_167 (by decide +kernel)
theorem d_WF_pour_67 : decode b_WF_pour 67 = .ok (.iload_n 3, 1) := dc_29 (by decide +kernel)
theorem d_WF_pour_68 : decode b_WF_pour 68 = .ok (.ifCond .le 28, 3) := dc_158 (by decide +kernel)
theorem d_WF_pour_71 : decode b_WF_pour 71 = .ok (.aload_n 0, 1) := dc_42 (by decide +kernel)
theorem d_WF_pour_72 : decode b_WF_pour 72 = .ok (.getfield 69, 3) := dc_180 (by decide +kernel)
theorem d_WF_pour_75 : decode b_WF_pour 75 = .ok (.aload_n 0, 1) := dc_42 (by decide +kernel)
theorem d_WF_pour_76 : decode b_WF_pour 76 = .ok (.getfield 46, 3) := dc_180 (by decide +kernel)
theorem d_WF_pour_79 : decode b_WF_pour 79 = .ok (.invokevirtual 287, 3) := dc_182 (by decide +kernel)
theorem d_WF_pour_82 : decode b_WF_pour 82 = .ok (.aload_n 0, 1) := dc_42 (by decide +kernel)
theorem d_WF_pour_83 : decode b_WF_pour 83 = .ok (.getfield 46, 3) := dc_180 (by decide +kernel)
theorem d_WF_pour_86 : decode b_WF_pour 86 = .ok (.aload_n 0, 1) := dc_42 (by decide +kernel)
theorem d_WF_pour_87 : decode b_WF_pour 87 = .ok (.getfield 50, 3) := dc_180 (by decide +kernel)
theorem d_WF_pour_90 : decode b_WF_pour 90 = .ok (.getfield 179, 3) := dc_180 (by decide +kernel)
theorem d_WF_pour_93 : decode b_WF_pour 93 = .ok (.putfield 179, 3) := dc_181 (by decide +kernel)
theorem d_WF_pour_96 : decode b_WF_pour 96 = .ok (.iload_n 3, 1) := dc_29 (by decide +kernel)
theorem d_WF_pour_97 : decode b_WF_pour 97 = .ok (.ireturn, 1) := dc_172 (by decide +kernel)
def t_WF_pour_L61 (x1 : Int) (x2 : Int) (bk37 : Mem → Int → Int → Option (Mem × Int)) (M : Mem) (v3_ : Int) (v4_ : Int) : Option (Mem × Int) := (bk37 M v3_ (w32 (v4_ + 1)))
def t_WF_pour_L37 (x1 : Int) (x2 : Int)  : Nat → Mem → Int → Int → Option (Mem × Int)
  | 0, _, _, _ => none
  | fu + 1, M, v3_, v4_ => (if x2 ≤ v4_ then (if v3_ ≤ 0 then (some (M, v3_)) else (qlet (t_Past_remember M 47) fun q10 => (qlet (setL q10 47 6 (q10.2 52 6)) fun M12 => (some (M12, v3_))))) else (obind (t_Scene_pourOne M 52 ((M.1 0 4).toNat) x1) fun q14 => (if (q14.2) = 0 then (t_WF_pour_L61 x1 x2 (fun a0_ a1_ a2_ => t_WF_pour_L37 x1 x2 fu a0_ a1_ a2_) (q14.1) v3_ v4_) else (t_WF_pour_L61 x1 x2 (fun a0_ a1_ a2_ => t_WF_pour_L37 x1 x2 fu a0_ a1_ a2_) (q14.1) (w32 (v3_ + 1)) v4_))))
def t_WF_pour (M : Mem) (x1 : Int) (x2 : Int) : Option (Mem × Int) := (qlet (t_WF_isFree M x1) fun q1 => (if q1 = 0 then (some (M, (-1))) else (if x2 < 1 then (some (M, (-1))) else (if x2 ≤ 99 then (qlet (t_Scene_copy M 52 47) fun q6 => (t_WF_pour_L37 x1 x2 FU q6 0 0)) else (some (M, (-1)))))))
set_option maxHeartbeats 4000000 in
set_option maxRecDepth 100000 in
theorem k_WF_pour_L61 (l : Launch) {p : Program} {e : Env} {s : State} {m : MethodId} {below : List Frame} {meth : Method} {c : Code} {b n : Nat} {C : CT} (hlo : 191 ≤ n) (x1 : Int) (x2 : Int) (hx1 : InR x1) (hx2 : InR x2) (F : Cx b p m c b_WF_pour 5 s ([.ref (b + 0), vI x1, vI x2] : List Value).toArray "WardFalls" C n 191) (hlk : meth.locks = false) (hr : meth.sig.returnType = some .int) {res : Mem × Int} (bk37 : Mem → Int → Int → Option (Mem × Int)) (hbk37 : ∀ (M : Mem) (v3_ : Int) (hv3_ : InR v3_) (v4_ : Int) (hv4_ : InR v4_) (H : Heap) (locs : List Loc) (ls : Array Slot), St b C n M s H locs → lv_has ls 5 [(0, .ref (b + 0)), (1, vI x1), (2, vI x2), (3, vI v3_), (4, vI v4_)] → bk37 M v3_ v4_ = some res → W p l e (headSpec (wsM y_WF_pour b_WF_pour 5 (some .int)) (rmD 5)).room s m ([.ref (b + 0), vI x1, vI x2] : List Value).toArray below meth c H locs 0 0 (MQ below (QI b C n res.1 res.2) ([.ref (b + 0), vI x1, vI x2] : List Value).toArray s 0 0 (frb b)) (F0 m 37 ls [])) (M : Mem) (v3_ : Int) (hv3_ : InR v3_) (v4_ : Int) (hv4_ : InR v4_) (H : Heap) (locs : List Loc) (ls : Array Slot) (hS : St b C n M s H locs) (hl : lv_has ls 5 [(0, .ref (b + 0)), (1, vI x1), (2, vI x2), (3, vI v3_), (4, vI v4_)]) (hT : t_WF_pour_L61 x1 x2 bk37 M v3_ v4_ = some res) : W p l e (headSpec (wsM y_WF_pour b_WF_pour 5 (some .int)) (rmD 5)).room s m ([.ref (b + 0), vI x1, vI x2] : List Value).toArray below meth c H locs 0 0 (MQ below (QI b C n res.1 res.2) ([.ref (b + 0), vI x1, vI x2] : List Value).toArray s 0 0 (frb b)) (F0 m 61 ls []) := by
  unfold t_WF_pour_L61 at hT
  refine lv_iinc (v := Int32.ofInt (w32 (v4_ + 1))) (lv' := [(4, vI (w32 (v4_ + 1))), (0, .ref (b + 0)), (1, vI x1), (2, vI x2), (3, vI v3_)]) F.hx F.hb d_WF_pour_61 hl (k := 4) rfl (q_of_add _ _) (Nat.le_of_ble_eq_true rfl) rfl (fun ls hl => ?_)
  refine lv_goto (tgt := 37) F.hx F.hb d_WF_pour_64 (by decide) ?_
  exact hbk37 M v3_ hv3_ (w32 (v4_ + 1)) (inr_w32 _) _ _ _ hS (lv_sub hl [1, 2, 3, 4, 0] rfl) hT
set_option maxHeartbeats 4000000 in
set_option maxRecDepth 100000 in
theorem k_WF_pour_L37 (l : Launch) {p : Program} {e : Env} {s : State} {m : MethodId} {below : List Frame} {meth : Method} {c : Code} {b n : Nat} {C : CT} (hlo : 191 ≤ n) (x1 : Int) (x2 : Int) (hx1 : InR x1) (hx2 : InR x2) (F : Cx b p m c b_WF_pour 5 s ([.ref (b + 0), vI x1, vI x2] : List Value).toArray "WardFalls" C n 191) (hlk : meth.locks = false) (hr : meth.sig.returnType = some .int) {res : Mem × Int} : ∀ (fu : Nat) (M : Mem) (v3_ : Int) (hv3_ : InR v3_) (v4_ : Int) (hv4_ : InR v4_) (H : Heap) (locs : List Loc) (ls : Array Slot), St b C n M s H locs → lv_has ls 5 [(0, .ref (b + 0)), (1, vI x1), (2, vI x2), (3, vI v3_), (4, vI v4_)] → t_WF_pour_L37 x1 x2 fu M v3_ v4_ = some res → W p l e (headSpec (wsM y_WF_pour b_WF_pour 5 (some .int)) (rmD 5)).room s m ([.ref (b + 0), vI x1, vI x2] : List Value).toArray below meth c H locs 0 0 (MQ below (QI b C n res.1 res.2) ([.ref (b + 0), vI x1, vI x2] : List Value).toArray s 0 0 (frb b)) (F0 m 37 ls []) := by
  intro fu
  induction fu with
  | zero => intro M v3_ hv3_ v4_ hv4_ H locs ls hS hl hT; exact absurd hT (by simp [t_WF_pour_L37])
  | succ fu ih =>
    intro M v3_ hv3_ v4_ hv4_ H locs ls hS hl hT
    rw [t_WF_pour_L37] at hT
    refine lv_iload F.hx F.hb d_WF_pour_37 (lv_at hl 4 rfl) ?_
    refine lv_iload_n F.hx F.hb d_WF_pour_39 rfl (lv_at hl 2 rfl) ?_
    refine r_icmp_ge (tgt := 67) F.hx F.hb hv4_ hx2 d_WF_pour_40 (by decide) (fun c8 => ?_) (fun c8 => ?_)
    · replace hT := (if_pos c8).symm.trans hT
      refine lv_iload_n F.hx F.hb d_WF_pour_67 rfl (lv_at hl 3 rfl) ?_
      refine r_if_le (tgt := 96) F.hx F.hb hv3_ d_WF_pour_68 (by decide) (fun c9 => ?_) (fun c9 => ?_)
      · replace hT := (if_pos c9).symm.trans hT
        refine lv_iload_n F.hx F.hb d_WF_pour_96 rfl (lv_at hl 3 rfl) ?_
        cases hT
        exact r_iret F hlk hr rfl hS hv3_ d_WF_pour_97
      · replace hT := (if_neg c9).symm.trans hT
        refine lv_aload_n F.hx F.hb d_WF_pour_71 rfl (lv_at hl 0 rfl) ?_
        refine r_get (v := .ref (b + 70)) (N := 19) (T := T0) (j := 14) F hS (show 0 < 191 by decide) (show shK 0 = 4 from rfl) (show shN 0 = 19 from rfl) rfl (Nat.le_of_ble_eq_true rfl) ing0 mw_564 (fv_sg rfl rfl rfl) d_WF_pour_72 ?_
        refine lv_aload_n F.hx F.hb d_WF_pour_75 rfl (lv_at hl 0 rfl) ?_
        refine r_get (v := .ref (b + 47)) (N := 19) (T := T0) (j := 8) F hS (show 0 < 191 by decide) (show shK 0 = 4 from rfl) (show shN 0 = 19 from rfl) rfl (Nat.le_of_ble_eq_true rfl) ing0 mw_558 (fv_sg rfl rfl rfl) d_WF_pour_76 ?_
        obtain ⟨q10, hq10⟩ : ∃ q, q = (t_Past_remember M 47) := ⟨_, rfl⟩
        replace hT := qlet_eq hT hq10
        refine r_backV F hS (r_runV (k := 70) (N := 3) (T := T6) (As := [.ref (b + 47)]) F hS (show 70 < 191 by decide) (show shK 70 = 10 from rfl) rfl (c_Past_remember l F.2.2.1 M 47 (by decide : isScene 47) _ hq10.symm) gs_WF_287 hd_Past_remember ⟨Nat.le_of_ble_eq_true rfl, Nat.le_of_ble_eq_true rfl⟩ rfl hl.1 (Nat.le_of_ble_eq_true rfl) ⟨Nat.zero_le _, Nat.zero_le _⟩ rfl d_WF_pour_79) (fun H locs hS => ?_)
        refine lv_aload_n F.hx F.hb d_WF_pour_82 rfl (lv_at hl 0 rfl) ?_
        refine r_get (v := .ref (b + 47)) (N := 19) (T := T0) (j := 8) F hS (show 0 < 191 by decide) (show shK 0 = 4 from rfl) (show shN 0 = 19 from rfl) rfl (Nat.le_of_ble_eq_true rfl) ing0 mw_558 (fv_sg rfl rfl rfl) d_WF_pour_83 ?_
        refine lv_aload_n F.hx F.hb d_WF_pour_86 rfl (lv_at hl 0 rfl) ?_
        refine r_get (v := .ref (b + 52)) (N := 19) (T := T0) (j := 9) F hS (show 0 < 191 by decide) (show shK 0 = 4 from rfl) (show shN 0 = 19 from rfl) rfl (Nat.le_of_ble_eq_true rfl) ing0 mw_559 (fv_sg rfl rfl rfl) d_WF_pour_87 ?_
        refine r_get (v := .long (q10.2 52 6)) (N := 7) (T := T9) (j := 6) F hS (show 52 < 191 by decide) (show shK 52 = 13 from rfl) (show shN 52 = 7 from rfl) rfl (Nat.le_of_ble_eq_true rfl) ing9 mw_292 (fv_long rfl) d_WF_pour_90 ?_
        refine r_putL (N := 7) (T := T9) (j := 6) F hS (show 47 < 191 by decide) (show shK 47 = 13 from rfl) (show shN 47 = 7 from rfl) rfl (Nat.le_of_ble_eq_true rfl) ing9 tyok9 nm9 rfl rfl rfl mw_292 d_WF_pour_93 (fun H locs hS => ?_)
        obtain ⟨M12, eM12⟩ : ∃ q, q = (setL q10 47 6 (q10.2 52 6)) := ⟨_, rfl⟩
        replace hS : St b C n M12 s H locs := by rw [eM12]; exact hS
        replace hT := qlet_eq hT eM12
        refine lv_iload_n F.hx F.hb d_WF_pour_96 rfl (lv_at hl 3 rfl) ?_
        cases hT
        exact r_iret F hlk hr rfl hS hv3_ d_WF_pour_97
    · replace hT := (if_neg c8).symm.trans hT
      refine lv_aload_n F.hx F.hb d_WF_pour_43 rfl (lv_at hl 0 rfl) ?_
      refine r_get (v := .ref (b + 52)) (N := 19) (T := T0) (j := 9) F hS (show 0 < 191 by decide) (show shK 0 = 4 from rfl) (show shN 0 = 19 from rfl) rfl (Nat.le_of_ble_eq_true rfl) ing0 mw_559 (fv_sg rfl rfl rfl) d_WF_pour_44 ?_
      refine lv_aload_n F.hx F.hb d_WF_pour_47 rfl (lv_at hl 0 rfl) ?_
      have h13 := St_town hS
      refine r_get (v := .ref (b + ((M.1 0 4).toNat))) (N := 19) (T := T0) (j := 4) F hS (show 0 < 191 by decide) (show shK 0 = 4 from rfl) (show shN 0 = 19 from rfl) rfl (Nat.le_of_ble_eq_true rfl) ing0 mw_554 (fv_town hS) d_WF_pour_48 ?_
      refine lv_iload_n F.hx F.hb d_WF_pour_51 rfl (lv_at hl 1 rfl) ?_
      obtain ⟨q14, hq14, hT⟩ := q_obind hT
      refine r_backZ F hS (r_runV (k := 52) (N := 7) (T := T9) (As := [.ref (b + ((M.1 0 4).toNat)), vI x1]) F hS (show 52 < 191 by decide) (show shK 52 = 13 from rfl) rfl (c_Scene_pourOne l F.2.2.1 M 52 ((M.1 0 4).toNat) x1 (by decide : isScene 52) h13 hx1 _ hq14) gs_WF_302 hd_Scene_pourOne ⟨Nat.le_of_ble_eq_true rfl, Nat.le_of_ble_eq_true rfl⟩ rfl hl.1 (Nat.le_of_ble_eq_true rfl) ⟨Nat.zero_le _, Nat.zero_le _⟩ rfl d_WF_pour_52) (fun H locs hS h15 => ?_)
      refine r_if_eq (tgt := 61) F.hx F.hb (inr_z h15) d_WF_pour_55 (by decide) (fun c16 => ?_) (fun c16 => ?_)
      · replace hT := (if_pos c16).symm.trans hT
        exact k_WF_pour_L61 l hlo x1 x2 hx1 hx2 F hlk hr (fun a0_ a1_ a2_ => t_WF_pour_L37 x1 x2 fu a0_ a1_ a2_) ih (q14.1) v3_ hv3_ v4_ hv4_ _ _ _ hS (lv_sub hl [0, 1, 2, 3, 4] rfl) hT
      · replace hT := (if_neg c16).symm.trans hT
        refine lv_iinc (v := Int32.ofInt (w32 (v3_ + 1))) (lv' := [(3, vI (w32 (v3_ + 1))), (0, .ref (b + 0)), (1, vI x1), (2, vI x2), (4, vI v4_)]) F.hx F.hb d_WF_pour_58 hl (k := 3) rfl (q_of_add _ _) (Nat.le_of_ble_eq_true rfl) rfl (fun ls hl => ?_)
        exact k_WF_pour_L61 l hlo x1 x2 hx1 hx2 F hlk hr (fun a0_ a1_ a2_ => t_WF_pour_L37 x1 x2 fu a0_ a1_ a2_) ih (q14.1) (w32 (v3_ + 1)) (inr_w32 _) v4_ hv4_ _ _ _ hS (lv_sub hl [1, 2, 3, 0, 4] rfl) hT
set_option maxHeartbeats 4000000 in
set_option maxRecDepth 100000 in
theorem c_WF_pour (l : Launch) {b n : Nat} {C : CT} (hlo : 191 ≤ n) (M : Mem) (x1 : Int) (x2 : Int) (hx1 : InR x1) (hx2 : InR x2) (res : Mem × Int) (hT : t_WF_pour M x1 x2 = some res) : CM l b C n 5 y_WF_pour b_WF_pour 5 (some .int) [.ref (b + 0), vI x1, vI x2] M (QI b C n res.1 res.2) := by
  refine CM.of (lo := 191) (ow := "WardFalls") (by decide) rfl (Nat.le_of_ble_eq_true rfl) hlo (fun p e s m below meth c F hlk hr hS ls hl => ?_)
  have hl : lv_has ls 5 [(0, .ref (b + 0)), (1, vI x1), (2, vI x2)] := hl
  unfold t_WF_pour at hT
  refine lv_aload_n F.hx F.hb d_WF_pour_0 rfl (lv_at hl 0 rfl) ?_
  refine lv_iload_n F.hx F.hb d_WF_pour_1 rfl (lv_at hl 1 rfl) ?_
  obtain ⟨q1, hq1⟩ : ∃ q, q = (t_WF_isFree M x1) := ⟨_, rfl⟩
  replace hT := qlet_eq hT hq1
  refine r_backZ F hS (r_runV (k := 0) (N := 19) (T := T0) (As := [vI x1]) F hS (show 0 < 191 by decide) (show shK 0 = 4 from rfl) rfl (c_WF_isFree l F.2.2.1 M x1 hx1 _ hq1.symm) gs_WF_250 hd_WF_isFree ⟨Nat.le_of_ble_eq_true rfl, Nat.le_of_ble_eq_true rfl⟩ rfl hl.1 (Nat.le_of_ble_eq_true rfl) ⟨Nat.zero_le _, Nat.zero_le _⟩ rfl d_WF_pour_2) (fun H locs hS h2 => ?_)
  refine r_if_eq (tgt := 19) F.hx F.hb (inr_z h2) d_WF_pour_5 (by decide) (fun c3 => ?_) (fun c3 => ?_)
  · replace hT := (if_pos c3).symm.trans hT
    refine r_iconst F.hx F.hb d_WF_pour_19 ?_
    cases hT
    exact r_iret F hlk hr rfl hS (inr_c rfl) d_WF_pour_20
  · replace hT := (if_neg c3).symm.trans hT
    refine lv_iload_n F.hx F.hb d_WF_pour_8 rfl (lv_at hl 2 rfl) ?_
    refine r_iconst F.hx F.hb d_WF_pour_9 ?_
    refine r_icmp_lt (tgt := 19) F.hx F.hb hx2 (inr_c rfl) d_WF_pour_10 (by decide) (fun c4 => ?_) (fun c4 => ?_)
    · replace hT := (if_pos c4).symm.trans hT
      refine r_iconst F.hx F.hb d_WF_pour_19 ?_
      cases hT
      exact r_iret F hlk hr rfl hS (inr_c rfl) d_WF_pour_20
    · replace hT := (if_neg c4).symm.trans hT
      refine lv_iload_n F.hx F.hb d_WF_pour_13 rfl (lv_at hl 2 rfl) ?_
      refine r_bipush F.hx F.hb d_WF_pour_14 rfl ?_
      refine r_icmp_le (tgt := 21) F.hx F.hb hx2 (inr_c rfl) d_WF_pour_16 (by decide) (fun c5 => ?_) (fun c5 => ?_)
      · replace hT := (if_pos c5).symm.trans hT
        refine lv_aload_n F.hx F.hb d_WF_pour_21 rfl (lv_at hl 0 rfl) ?_
        refine r_get (v := .ref (b + 52)) (N := 19) (T := T0) (j := 9) F hS (show 0 < 191 by decide) (show shK 0 = 4 from rfl) (show shN 0 = 19 from rfl) rfl (Nat.le_of_ble_eq_true rfl) ing0 mw_559 (fv_sg rfl rfl rfl) d_WF_pour_22 ?_
        refine lv_aload_n F.hx F.hb d_WF_pour_25 rfl (lv_at hl 0 rfl) ?_
        refine r_get (v := .ref (b + 47)) (N := 19) (T := T0) (j := 8) F hS (show 0 < 191 by decide) (show shK 0 = 4 from rfl) (show shN 0 = 19 from rfl) rfl (Nat.le_of_ble_eq_true rfl) ing0 mw_558 (fv_sg rfl rfl rfl) d_WF_pour_26 ?_
        obtain ⟨q6, hq6⟩ : ∃ q, q = (t_Scene_copy M 52 47) := ⟨_, rfl⟩
        replace hT := qlet_eq hT hq6
        refine r_backV F hS (r_runV (k := 52) (N := 7) (T := T9) (As := [.ref (b + 47)]) F hS (show 52 < 191 by decide) (show shK 52 = 13 from rfl) rfl (c_Scene_copy l F.2.2.1 M 52 47 (by decide : isScene 52) (by decide : isScene 47) _ hq6.symm) gs_WF_299 hd_Scene_copy ⟨Nat.le_of_ble_eq_true rfl, Nat.le_of_ble_eq_true rfl⟩ rfl hl.1 (Nat.le_of_ble_eq_true rfl) ⟨Nat.zero_le _, Nat.zero_le _⟩ rfl d_WF_pour_29) (fun H locs hS => ?_)
        refine r_iconst F.hx F.hb d_WF_pour_32 ?_
        refine lv_istore_n (lv' := [(3, vI 0), (0, .ref (b + 0)), (1, vI x1), (2, vI x2)]) F.hx F.hb d_WF_pour_33 rfl hl (Nat.le_of_ble_eq_true rfl) rfl (fun ls hl => ?_)
        refine r_iconst F.hx F.hb d_WF_pour_34 ?_
        refine lv_istore (lv' := [(4, vI 0), (3, vI 0), (0, .ref (b + 0)), (1, vI x1), (2, vI x2)]) F.hx F.hb d_WF_pour_35 hl (Nat.le_of_ble_eq_true rfl) rfl (fun ls hl => ?_)
        exact k_WF_pour_L37 l hlo x1 x2 hx1 hx2 F hlk hr FU q6 0 (inr_c rfl) 0 (inr_c rfl) _ _ _ hS (lv_sub hl [2, 3, 4, 1, 0] rfl) hT
      · replace hT := (if_neg c5).symm.trans hT
        refine r_iconst F.hx F.hb d_WF_pour_19 ?_
        cases hT
        exact r_iret F hlk hr rfl hS (inr_c rfl) d_WF_pour_20
theorem d_WF_drain_0 : decode b_WF_drain 0 = .ok (.aload_n 0, 1) := dc_42 (by decide +kernel)
theorem d_WF_drain_1 : decode b_WF_drain 1 = .ok (.getfield 46, 3) := dc_180 (by decide +kernel)
theorem d_WF_drain_4 : decode b_WF_drain 4 = .ok (.getfield 179, 3) := dc_180 (by decide +kernel)
theorem d_WF_drain_7 : decode b_WF_drain 7 = .ok (.invokestatic 305, 3) := dc_184 (by decide +kernel)
theorem d_WF_drain_10 : decode b_WF_drain 10 = .ok (.istore_n 1, 1) := dc_60 (by decide +kernel)
theorem d_WF_drain_11 : decode b_WF_drain 11 = .ok (.iload_n 1, 1) := dc_27 (by decide +kernel)
theorem d_WF_drain_12 : decode b_WF_drain 12 = .ok (.ifCond .le 22, 3) := dc_158 (by decide +kernel)
theorem d_WF_drain_15 : decode b_WF_drain 15 = .ok (.aload_n 0, 1) := dc_42 (by decide +kernel)
theorem d_WF_drain_16 : decode b_WF_drain 16 = .ok (.getfield 69, 3) := dc_180 (by decide +kernel)
theorem d_WF_drain_19 : decode b_WF_drain 19 = .ok (.aload_n 0, 1) := dc_42 (by decide +kernel)
theorem d_WF_drain_20 : decode b_WF_drain 20 = .ok (.getfield 46, 3) := dc_180 (by decide +kernel)
theorem d_WF_drain_23 : decode b_WF_drain 23 = .ok (.invokevirtual 287, 3) := dc_182 (by decide +kernel)
theorem d_WF_drain_26 : decode b_WF_drain 26 = .ok (.aload_n 0, 1) := dc_42 (by decide +kernel)
theorem d_WF_drain_27 : decode b_WF_drain 27 = .ok (.getfield 46, 3) := dc_180 (by decide +kernel)
theorem d_WF_drain_30 : decode b_WF_drain 30 = .ok (.lconst 0, 1) := dc_9 (by decide +kernel)
theorem d_WF_drain_31 : decode b_WF_drain 31 = .ok (.putfield 179, 3) := dc_181 (by decide +kernel)
theorem d_WF_drain_34 : decode b_WF_drain 34 = .ok (.iload_n 1, 1) := dc_27 (by decide +kernel)
theorem d_WF_drain_35 : decode b_WF_drain 35 = .ok (.ireturn, 1) := dc_172 (by decide +kernel)
def t_WF_drain (M : Mem)  : Mem × Int := (qlet (t_Long_bitCount M (M.2 47 6)) fun q1 => (if q1 ≤ 0 then (M, q1) else (qlet (t_Past_remember M 47) fun q4 => (qlet (setL q4 47 6 0) fun M6 => (M6, q1)))))
set_option maxHeartbeats 4000000 in
set_option maxRecDepth 100000 in
theorem c_WF_drain (l : Launch) {b n : Nat} {C : CT} (hlo : 191 ≤ n) (M : Mem)   (res : Mem × Int) (hT : t_WF_drain M  = res) : CM l b C n 5 y_WF_drain b_WF_drain 2 (some .int) [.ref (b + 0)] M (QI b C n res.1 res.2) := by
  refine CM.of (lo := 191) (ow := "WardFalls") (by decide) rfl (Nat.le_of_ble_eq_true rfl) hlo (fun p e s m below meth c F hlk hr hS ls hl => ?_)
  have hl : lv_has ls 2 [(0, .ref (b + 0))] := hl
  unfold t_WF_drain at hT
  refine lv_aload_n F.hx F.hb d_WF_drain_0 rfl (lv_at hl 0 rfl) ?_
  refine r_get (v := .ref (b + 47)) (N := 19) (T := T0) (j := 8) F hS (show 0 < 191 by decide) (show shK 0 = 4 from rfl) (show shN 0 = 19 from rfl) rfl (Nat.le_of_ble_eq_true rfl) ing0 mw_558 (fv_sg rfl rfl rfl) d_WF_drain_1 ?_
  refine r_get (v := .long (M.2 47 6)) (N := 7) (T := T9) (j := 6) F hS (show 47 < 191 by decide) (show shK 47 = 13 from rfl) (show shN 47 = 7 from rfl) rfl (Nat.le_of_ble_eq_true rfl) ing9 mw_292 (fv_long rfl) d_WF_drain_4 ?_
  obtain ⟨q1, hq1⟩ : ∃ q, q = (t_Long_bitCount M (M.2 47 6)) := ⟨_, rfl⟩
  replace hT := qlet_eq hT hq1
  refine r_backI F hS (r_runS (As := [.long (M.2 47 6)]) F hS (c_Long_bitCount l (Nat.zero_le _) M (M.2 47 6) _ hq1.symm) gs_WF_305 hd_Long_bitCount ⟨Nat.le_of_ble_eq_true rfl, Nat.le_of_ble_eq_true rfl⟩ rfl hl.1 (Nat.le_of_ble_eq_true rfl) ⟨Nat.zero_le _, Nat.zero_le _⟩ rfl d_WF_drain_7) (fun H locs hS h2 => ?_)
  refine lv_istore_n (lv' := [(1, vI q1), (0, .ref (b + 0))]) F.hx F.hb d_WF_drain_10 rfl hl (Nat.le_of_ble_eq_true rfl) rfl (fun ls hl => ?_)
  refine lv_iload_n F.hx F.hb d_WF_drain_11 rfl (lv_at hl 0 rfl) ?_
  refine r_if_le (tgt := 34) F.hx F.hb h2 d_WF_drain_12 (by decide) (fun c3 => ?_) (fun c3 => ?_)
  · replace hT := (if_pos c3).symm.trans hT
    refine lv_iload_n F.hx F.hb d_WF_drain_34 rfl (lv_at hl 0 rfl) ?_
    subst hT
    exact r_iret F hlk hr rfl hS h2 d_WF_drain_35
  · replace hT := (if_neg c3).symm.trans hT
    refine lv_aload_n F.hx F.hb d_WF_drain_15 rfl (lv_at hl 1 rfl) ?_
    refine r_get (v := .ref (b + 70)) (N := 19) (T := T0) (j := 14) F hS (show 0 < 191 by decide) (show shK 0 = 4 from rfl) (show shN 0 = 19 from rfl) rfl (Nat.le_of_ble_eq_true rfl) ing0 mw_564 (fv_sg rfl rfl rfl) d_WF_drain_16 ?_
    refine lv_aload_n F.hx F.hb d_WF_drain_19 rfl (lv_at hl 1 rfl) ?_
    refine r_get (v := .ref (b + 47)) (N := 19) (T := T0) (j := 8) F hS (show 0 < 191 by decide) (show shK 0 = 4 from rfl) (show shN 0 = 19 from rfl) rfl (Nat.le_of_ble_eq_true rfl) ing0 mw_558 (fv_sg rfl rfl rfl) d_WF_drain_20 ?_
    obtain ⟨q4, hq4⟩ : ∃ q, q = (t_Past_remember M 47) := ⟨_, rfl⟩
    replace hT := qlet_eq hT hq4
    refine r_backV F hS (r_runV (k := 70) (N := 3) (T := T6) (As := [.ref (b + 47)]) F hS (show 70 < 191 by decide) (show shK 70 = 10 from rfl) rfl (c_Past_remember l F.2.2.1 M 47 (by decide : isScene 47) _ hq4.symm) gs_WF_287 hd_Past_remember ⟨Nat.le_of_ble_eq_true rfl, Nat.le_of_ble_eq_true rfl⟩ rfl hl.1 (Nat.le_of_ble_eq_true rfl) ⟨Nat.zero_le _, Nat.zero_le _⟩ rfl d_WF_drain_23) (fun H locs hS => ?_)
    refine lv_aload_n F.hx F.hb d_WF_drain_26 rfl (lv_at hl 1 rfl) ?_
    refine r_get (v := .ref (b + 47)) (N := 19) (T := T0) (j := 8) F hS (show 0 < 191 by decide) (show shK 0 = 4 from rfl) (show shN 0 = 19 from rfl) rfl (Nat.le_of_ble_eq_true rfl) ing0 mw_558 (fv_sg rfl rfl rfl) d_WF_drain_27 ?_
    refine lv_lconst (v := 0) F.hx F.hb d_WF_drain_30 rfl ?_
    refine r_putL (N := 7) (T := T9) (j := 6) F hS (show 47 < 191 by decide) (show shK 47 = 13 from rfl) (show shN 47 = 7 from rfl) rfl (Nat.le_of_ble_eq_true rfl) ing9 tyok9 nm9 rfl rfl rfl mw_292 d_WF_drain_31 (fun H locs hS => ?_)
    obtain ⟨M6, eM6⟩ : ∃ q, q = (setL q4 47 6 0) := ⟨_, rfl⟩
    replace hS : St b C n M6 s H locs := by rw [eM6]; exact hS
    replace hT := qlet_eq hT eM6
    refine lv_iload_n F.hx F.hb d_WF_drain_34 rfl (lv_at hl 0 rfl) ?_
    subst hT
    exact r_iret F hlk hr rfl hS h2 d_WF_drain_35
theorem d_WF_flood_0 : decode b_WF_flood 0 = .ok (.aload_n 0, 1) := dc_42 (by decide +kernel)
theorem d_WF_flood_1 : decode b_WF_flood 1 = .ok (.getfield 22, 3) := dc_180 (by decide +kernel)
theorem d_WF_flood_4 : decode b_WF_flood 4 = .ok (.iload_n 1, 1) := dc_27 (by decide +kernel)
theorem d_WF_flood_5 : decode b_WF_flood 5 = .ok (.invokevirtual 198, 3) := dc_182 (by decide +kernel)
theorem d_WF_flood_8 : decode b_WF_flood 8 = .ok (.ifCond .eq 10, 3) := dc_153 (by decide +kernel)
theorem d_WF_flood_11 : decode b_WF_flood 11 = .ok (.iload_n 2, 1) := dc_28 (by decide +kernel)
theorem d_WF_flood_12 : decode b_WF_flood 12 = .ok (.invokestatic 284, 3) := dc_184 (by decide +kernel)
theorem d_WF_flood_15 : decode b_WF_flood 15 = .ok (.ifCond .ne 7, 3) := dc_154 (by decide +kernel)
theorem d_WF_flood_18 : decode b_WF_flood 18 = .ok (.ldc2_w 309, 3) := dc_20 (by decide +kernel)
theorem d_WF_flood_21 : decode b_WF_flood 21 = .ok (.lreturn, 1) := dc_173 (by decide +kernel)
theorem d_WF_flood_22 : decode b_WF_flood 22 = .ok (.aload_n 0, 1) := dc_42 (by decide +kernel)
theorem d_WF_flood_23 : decode b_WF_flood 23 = .ok (.getfield 50, 3) := dc_180 (by decide +kernel)
theorem d_WF_flood_26 : decode b_WF_flood 26 = .ok (.aload_n 0, 1) := dc_42 (by decide +kernel)
theorem d_WF_flood_27 : decode b_WF_flood 27 = .ok (.getfield 46, 3) := dc_180 (by decide +kernel)
theorem d_WF_flood_30 : decode b_WF_flood 30 = .ok (.invokevirtual 299, 3) := dc_182 (by decide +kernel)
theorem d_WF_flood_33 : decode b_WF_flood 33 = .ok (.aload_n 0, 1) := dc_42 (by decide +kernel)
theorem d_WF_flood_34 : decode b_WF_flood 34 = .ok (.getfield 50, 3) := dc_180 (by decide +kernel)
theorem d_WF_flood_37 : decode b_WF_flood 37 = .ok (.getfield 201, 3) := dc_180 (by decide +kernel)
theorem d_WF_flood_40 : decode b_WF_flood 40 = .ok (.iload_n 1, 1) := dc_27 (by decide +kernel)
theorem d_WF_flood_41 : decode b_WF_flood 41 = .ok (.iload_n 2, 1) := dc_28 (by decide +kernel)
theorem d_WF_flood_42 : decode b_WF_flood 42 = .ok (.invokestatic 291, 3) := dc_184 (by decide +kernel)
theorem d_WF_flood_45 : decode b_WF_flood 45 = .ok (.aload_n 0, 1) := dc_42 (by decide +kernel)
theorem d_WF_flood_46 : decode b_WF_flood 46 = .ok (.getfield 50, 3) := dc_180 (by decide +kernel)
theorem d_WF_flood_49 : decode b_WF_flood 49 = .ok (.aload_n 0, 1) := dc_42 (by decide +kernel)
theorem d_WF_flood_50 : decode b_WF_flood 50 = .ok (.getfield 22, 3) := dc_180 (by decide +kernel)
theorem d_WF_flood_53 : decode b_WF_flood 53 = .ok (.invokevirtual 295, 3) := dc_182 (by decide +kernel)
theorem d_WF_flood_56 : decode b_WF_flood 56 = .ok (.aload_n 0, 1) := dc_42 (by decide +kernel)
theorem d_WF_flood_57 : decode b_WF_flood 57 = .ok (.getfield 50, 3) := dc_180 (by decide +kernel)
theorem d_WF_flood_60 : decode b_WF_flood 60 = .ok (.getfield 179, 3) := dc_180 (by decide +kernel)
theorem d_WF_flood_63 : decode b_WF_flood 63 = .ok (.lreturn, 1) := dc_173 (by decide +kernel)
def t_WF_flood (M : Mem) (x1 : Int) (x2 : Int) : Option (Mem × Int64) := (qlet (t_Town_hasWard M ((M.1 0 4).toNat) x1) fun q2 => (if q2 = 0 then (some (M, (-1))) else (qlet (t_WF_isDown M x2) fun q5 => (if q5 = 0 then (some (M, (-1))) else (qlet (t_Scene_copy M 52 47) fun q8 => (qlet (t_WF_put q8 53 4 x1 x2) fun q10 => (obind (t_Scene_pourAnew q10 52 ((q10.1 0 4).toNat)) fun q13 => (some (q13, (q13.2 52 6))))))))))
set_option maxHeartbeats 4000000 in
set_option maxRecDepth 100000 in
theorem c_WF_flood (l : Launch) {b n : Nat} {C : CT} (hlo : 191 ≤ n) (M : Mem) (x1 : Int) (x2 : Int) (hx1 : InR x1) (hx2 : InR x2) (res : Mem × Int64) (hT : t_WF_flood M x1 x2 = some res) : CM l b C n 5 y_WF_flood b_WF_flood 3 (some .long) [.ref (b + 0), vI x1, vI x2] M (QL b C n res.1 res.2) := by
  refine CM.of (lo := 191) (ow := "WardFalls") (by decide) rfl (Nat.le_of_ble_eq_true rfl) hlo (fun p e s m below meth c F hlk hr hS ls hl => ?_)
  have hl : lv_has ls 3 [(0, .ref (b + 0)), (1, vI x1), (2, vI x2)] := hl
  unfold t_WF_flood at hT
  refine lv_aload_n F.hx F.hb d_WF_flood_0 rfl (lv_at hl 0 rfl) ?_
  have h1 := St_town hS
  refine r_get (v := .ref (b + ((M.1 0 4).toNat))) (N := 19) (T := T0) (j := 4) F hS (show 0 < 191 by decide) (show shK 0 = 4 from rfl) (show shN 0 = 19 from rfl) rfl (Nat.le_of_ble_eq_true rfl) ing0 mw_554 (fv_town hS) d_WF_flood_1 ?_
  refine lv_iload_n F.hx F.hb d_WF_flood_4 rfl (lv_at hl 1 rfl) ?_
  obtain ⟨q2, hq2⟩ : ∃ q, q = (t_Town_hasWard M ((M.1 0 4).toNat) x1) := ⟨_, rfl⟩
  replace hT := qlet_eq hT hq2
  refine r_backZ F hS (r_runV (k := ((M.1 0 4).toNat)) (N := 20) (T := T11) (As := [vI x1]) F hS (Town_lt h1) (Town_sh h1) rfl (c_Town_hasWard l F.2.2.1 M ((M.1 0 4).toNat) x1 h1 hx1 _ hq2.symm) gs_WF_198 hd_Town_hasWard ⟨Nat.le_of_ble_eq_true rfl, Nat.le_of_ble_eq_true rfl⟩ rfl hl.1 (Nat.le_of_ble_eq_true rfl) ⟨Nat.zero_le _, Nat.zero_le _⟩ rfl d_WF_flood_5) (fun H locs hS h3 => ?_)
  refine r_if_eq (tgt := 18) F.hx F.hb (inr_z h3) d_WF_flood_8 (by decide) (fun c4 => ?_) (fun c4 => ?_)
  · replace hT := (if_pos c4).symm.trans hT
    refine lv_ldc2 (v := (-1)) F.hx F.hb F.hown (F.hts mw_1037) d_WF_flood_18 ?_
    cases hT
    exact r_lret F hlk hr hS d_WF_flood_21
  · replace hT := (if_neg c4).symm.trans hT
    refine lv_iload_n F.hx F.hb d_WF_flood_11 rfl (lv_at hl 2 rfl) ?_
    obtain ⟨q5, hq5⟩ : ∃ q, q = (t_WF_isDown M x2) := ⟨_, rfl⟩
    replace hT := qlet_eq hT hq5
    refine r_backZ F hS (r_runS (As := [vI x2]) F hS (c_WF_isDown l F.2.2.1 M x2 hx2 _ hq5.symm) gs_WF_284 hd_WF_isDown ⟨Nat.le_of_ble_eq_true rfl, Nat.le_of_ble_eq_true rfl⟩ rfl hl.1 (Nat.le_of_ble_eq_true rfl) ⟨Nat.zero_le _, Nat.zero_le _⟩ rfl d_WF_flood_12) (fun H locs hS h6 => ?_)
    refine r_if_ne (tgt := 22) F.hx F.hb (inr_z h6) d_WF_flood_15 (by decide) (fun c7 => ?_) (fun c7 => ?_)
    · replace hT := (if_neg c7).symm.trans hT
      refine lv_aload_n F.hx F.hb d_WF_flood_22 rfl (lv_at hl 0 rfl) ?_
      refine r_get (v := .ref (b + 52)) (N := 19) (T := T0) (j := 9) F hS (show 0 < 191 by decide) (show shK 0 = 4 from rfl) (show shN 0 = 19 from rfl) rfl (Nat.le_of_ble_eq_true rfl) ing0 mw_559 (fv_sg rfl rfl rfl) d_WF_flood_23 ?_
      refine lv_aload_n F.hx F.hb d_WF_flood_26 rfl (lv_at hl 0 rfl) ?_
      refine r_get (v := .ref (b + 47)) (N := 19) (T := T0) (j := 8) F hS (show 0 < 191 by decide) (show shK 0 = 4 from rfl) (show shN 0 = 19 from rfl) rfl (Nat.le_of_ble_eq_true rfl) ing0 mw_558 (fv_sg rfl rfl rfl) d_WF_flood_27 ?_
      obtain ⟨q8, hq8⟩ : ∃ q, q = (t_Scene_copy M 52 47) := ⟨_, rfl⟩
      replace hT := qlet_eq hT hq8
      refine r_backV F hS (r_runV (k := 52) (N := 7) (T := T9) (As := [.ref (b + 47)]) F hS (show 52 < 191 by decide) (show shK 52 = 13 from rfl) rfl (c_Scene_copy l F.2.2.1 M 52 47 (by decide : isScene 52) (by decide : isScene 47) _ hq8.symm) gs_WF_299 hd_Scene_copy ⟨Nat.le_of_ble_eq_true rfl, Nat.le_of_ble_eq_true rfl⟩ rfl hl.1 (Nat.le_of_ble_eq_true rfl) ⟨Nat.zero_le _, Nat.zero_le _⟩ rfl d_WF_flood_30) (fun H locs hS => ?_)
      refine lv_aload_n F.hx F.hb d_WF_flood_33 rfl (lv_at hl 0 rfl) ?_
      refine r_get (v := .ref (b + 52)) (N := 19) (T := T0) (j := 9) F hS (show 0 < 191 by decide) (show shK 0 = 4 from rfl) (show shN 0 = 19 from rfl) rfl (Nat.le_of_ble_eq_true rfl) ing0 mw_559 (fv_sg rfl rfl rfl) d_WF_flood_34 ?_
      refine r_get (v := .ref (b + 53)) (N := 7) (T := T9) (j := 0) F hS (show 52 < 191 by decide) (show shK 52 = 13 from rfl) (show shN 52 = 7 from rfl) rfl (Nat.le_of_ble_eq_true rfl) ing9 mw_276 (fv_sg rfl rfl rfl) d_WF_flood_37 ?_
      refine lv_iload_n F.hx F.hb d_WF_flood_40 rfl (lv_at hl 1 rfl) ?_
      refine lv_iload_n F.hx F.hb d_WF_flood_41 rfl (lv_at hl 2 rfl) ?_
      obtain ⟨q10, hq10⟩ : ∃ q, q = (t_WF_put q8 53 4 x1 x2) := ⟨_, rfl⟩
      replace hT := qlet_eq hT hq10
      refine r_backV F hS (r_runS (As := [.ref (b + 53), vI x1, vI x2]) F hS (c_WF_put l F.2.2.1 q8 53 4 x1 x2 (show arrP 0 53 4 191 from ⟨rfl, rfl, by decide⟩) hx1 hx2 _ hq10.symm) gs_WF_291 hd_WF_put ⟨Nat.le_of_ble_eq_true rfl, Nat.le_of_ble_eq_true rfl⟩ rfl hl.1 (Nat.le_of_ble_eq_true rfl) ⟨Nat.zero_le _, Nat.zero_le _⟩ rfl d_WF_flood_42) (fun H locs hS => ?_)
      refine lv_aload_n F.hx F.hb d_WF_flood_45 rfl (lv_at hl 0 rfl) ?_
      refine r_get (v := .ref (b + 52)) (N := 19) (T := T0) (j := 9) F hS (show 0 < 191 by decide) (show shK 0 = 4 from rfl) (show shN 0 = 19 from rfl) rfl (Nat.le_of_ble_eq_true rfl) ing0 mw_559 (fv_sg rfl rfl rfl) d_WF_flood_46 ?_
      refine lv_aload_n F.hx F.hb d_WF_flood_49 rfl (lv_at hl 0 rfl) ?_
      have h12 := St_town hS
      refine r_get (v := .ref (b + ((q10.1 0 4).toNat))) (N := 19) (T := T0) (j := 4) F hS (show 0 < 191 by decide) (show shK 0 = 4 from rfl) (show shN 0 = 19 from rfl) rfl (Nat.le_of_ble_eq_true rfl) ing0 mw_554 (fv_town hS) d_WF_flood_50 ?_
      obtain ⟨q13, hq13, hT⟩ := q_obind hT
      refine r_backV F hS (r_runV (k := 52) (N := 7) (T := T9) (As := [.ref (b + ((q10.1 0 4).toNat))]) F hS (show 52 < 191 by decide) (show shK 52 = 13 from rfl) rfl (c_Scene_pourAnew l F.2.2.1 q10 52 ((q10.1 0 4).toNat) (by decide : isScene 52) h12 _ hq13) gs_WF_295 hd_Scene_pourAnew ⟨Nat.le_of_ble_eq_true rfl, Nat.le_of_ble_eq_true rfl⟩ rfl hl.1 (Nat.le_of_ble_eq_true rfl) ⟨Nat.zero_le _, Nat.zero_le _⟩ rfl d_WF_flood_53) (fun H locs hS => ?_)
      refine lv_aload_n F.hx F.hb d_WF_flood_56 rfl (lv_at hl 0 rfl) ?_
      refine r_get (v := .ref (b + 52)) (N := 19) (T := T0) (j := 9) F hS (show 0 < 191 by decide) (show shK 0 = 4 from rfl) (show shN 0 = 19 from rfl) rfl (Nat.le_of_ble_eq_true rfl) ing0 mw_559 (fv_sg rfl rfl rfl) d_WF_flood_57 ?_
      refine r_get (v := .long (q13.2 52 6)) (N := 7) (T := T9) (j := 6) F hS (show 52 < 191 by decide) (show shK 52 = 13 from rfl) (show shN 52 = 7 from rfl) rfl (Nat.le_of_ble_eq_true rfl) ing9 mw_292 (fv_long rfl) d_WF_flood_60 ?_
      cases hT
      exact r_lret F hlk hr hS d_WF_flood_63
    · replace hT := (if_pos c7).symm.trans hT
      refine lv_ldc2 (v := (-1)) F.hx F.hb F.hown (F.hts mw_1037) d_WF_flood_18 ?_
      cases hT
      exact r_lret F hlk hr hS d_WF_flood_21
theorem d_WF_canWalk_0 : decode b_WF_canWalk 0 = .ok (.aload_n 0, 1) := dc_42 (by decide +kernel)
theorem d_WF_canWalk_1 : decode b_WF_canWalk 1 = .ok (.getfield 22, 3) := dc_180 (by decide +kernel)
theorem d_WF_canWalk_4 : decode b_WF_canWalk 4 = .ok (.iload_n 1, 1) := dc_27 (by decide +kernel)
theorem d_WF_canWalk_5 : decode b_WF_canWalk 5 = .ok (.invokevirtual 150, 3) := dc_182 (by decide +kernel)
theorem d_WF_canWalk_8 : decode b_WF_canWalk 8 = .ok (.ifCond .eq 48, 3) := dc_153 (by decide +kernel)
theorem d_WF_canWalk_11 : decode b_WF_canWalk 11 = .ok (.aload_n 0, 1) := dc_42 (by decide +kernel)
theorem d_WF_canWalk_12 : decode b_WF_canWalk 12 = .ok (.getfield 22, 3) := dc_180 (by decide +kernel)
theorem d_WF_canWalk_15 : decode b_WF_canWalk 15 = .ok (.iload_n 2, 1) := dc_28 (by decide +kernel)
theorem d_WF_canWalk_16 : decode b_WF_canWalk 16 = .ok (.invokevirtual 150, 3) := dc_182 (by decide +kernel)
theorem d_WF_canWalk_19 : decode b_WF_canWalk 19 = .ok (.ifCond .eq 37, 3) := dc_153 (by decide +kernel)
theorem d_WF_canWalk_22 : decode b_WF_canWalk 22 = .ok (.aload_n 0, 1) := dc_42 (by decide +kernel)
theorem d_WF_canWalk_23 : decode b_WF_canWalk 23 = .ok (.getfield 46, 3) := dc_180 (by decide +kernel)
theorem d_WF_canWalk_26 : decode b_WF_canWalk 26 = .ok (.aload_n 0, 1) := dc_42 (by decide +kernel)
theorem d_WF_canWalk_27 : decode b_WF_canWalk 27 = .ok (.getfield 22, 3) := dc_180 (by decide +kernel)
theorem d_WF_canWalk_30 : decode b_WF_canWalk 30 = .ok (.iload_n 1, 1) := dc_27 (by decide +kernel)
theorem d_WF_canWalk_31 : decode b_WF_canWalk 31 = .ok (.invokevirtual 189, 3) := dc_182 (by decide +kernel)
theorem d_WF_canWalk_34 : decode b_WF_canWalk 34 = .ok (.ifCond .eq 22, 3) := dc_153 (by decide +kernel)
theorem d_WF_canWalk_37 : decode b_WF_canWalk 37 = .ok (.aload_n 0, 1) := dc_42 (by decide +kernel)
theorem d_WF_canWalk_38 : decode b_WF_canWalk 38 = .ok (.getfield 46, 3) := dc_180 (by decide +kernel)
theorem d_WF_canWalk_41 : decode b_WF_canWalk 41 = .ok (.aload_n 0, 1) := dc_42 (by decide +kernel)
theorem d_WF_canWalk_42 : decode b_WF_canWalk 42 = .ok (.getfield 22, 3) := dc_180 (by decide +kernel)
theorem d_WF_canWalk_45 : decode b_WF_canWalk 45 = .ok (.iload_n 2, 1) := dc_28 (by decide +kernel)
theorem d_WF_canWalk_46 : decode b_WF_canWalk 46 = .ok (.invokevirtual 189, 3) := dc_182 (by decide +kernel)
theorem d_WF_canWalk_49 : decode b_WF_canWalk 49 = .ok (.ifCond .eq 7, 3) := dc_153 (by decide +kernel)
theorem d_WF_canWalk_52 : decode b_WF_canWalk 52 = .ok (.iconst 1, 1) := dc_4 (by decide +kernel)
theorem d_WF_canWalk_53 : decode b_WF_canWalk 53 = .ok (.goto 4, 3) := dc_167 (by decide +kernel)
theorem d_WF_canWalk_56 : decode b_WF_canWalk 56 = .ok (.iconst 0, 1) := dc_3 (by decide +kernel)
theorem d_WF_canWalk_57 : decode b_WF_canWalk 57 = .ok (.ireturn, 1) := dc_172 (by decide +kernel)
def t_WF_canWalk (M : Mem) (x1 : Int) (x2 : Int) : Int := (qlet (t_Town_hasCell M ((M.1 0 4).toNat) x1) fun q2 => (if q2 = 0 then 0 else (qlet (t_Town_hasCell M ((M.1 0 4).toNat) x2) fun q6 => (if q6 = 0 then 0 else (qlet (t_Scene_standsIn M 47 ((M.1 0 4).toNat) x1) fun q10 => (if q10 = 0 then 0 else (qlet (t_Scene_standsIn M 47 ((M.1 0 4).toNat) x2) fun q14 => (if q14 = 0 then 0 else 1))))))))
set_option maxHeartbeats 4000000 in
set_option maxRecDepth 100000 in
theorem c_WF_canWalk (l : Launch) {b n : Nat} {C : CT} (hlo : 191 ≤ n) (M : Mem) (x1 : Int) (x2 : Int) (hx1 : InR x1) (hx2 : InR x2) (res : Int) (hT : t_WF_canWalk M x1 x2 = res) : CM l b C n 3 y_WF_canWalk b_WF_canWalk 3 (some .boolean) [.ref (b + 0), vI x1, vI x2] M (QZ b C n M res) := by
  refine CM.of (lo := 191) (ow := "WardFalls") (by decide) rfl (Nat.le_of_ble_eq_true rfl) hlo (fun p e s m below meth c F hlk hr hS ls hl => ?_)
  have hl : lv_has ls 3 [(0, .ref (b + 0)), (1, vI x1), (2, vI x2)] := hl
  unfold t_WF_canWalk at hT
  refine lv_aload_n F.hx F.hb d_WF_canWalk_0 rfl (lv_at hl 0 rfl) ?_
  have h1 := St_town hS
  refine r_get (v := .ref (b + ((M.1 0 4).toNat))) (N := 19) (T := T0) (j := 4) F hS (show 0 < 191 by decide) (show shK 0 = 4 from rfl) (show shN 0 = 19 from rfl) rfl (Nat.le_of_ble_eq_true rfl) ing0 mw_554 (fv_town hS) d_WF_canWalk_1 ?_
  refine lv_iload_n F.hx F.hb d_WF_canWalk_4 rfl (lv_at hl 1 rfl) ?_
  obtain ⟨q2, hq2⟩ : ∃ q, q = (t_Town_hasCell M ((M.1 0 4).toNat) x1) := ⟨_, rfl⟩
  replace hT := qlet_eq hT hq2
  refine r_backZ F hS (r_runV (k := ((M.1 0 4).toNat)) (N := 20) (T := T11) (As := [vI x1]) F hS (Town_lt h1) (Town_sh h1) rfl (c_Town_hasCell l F.2.2.1 M ((M.1 0 4).toNat) x1 h1 hx1 _ hq2.symm) gs_WF_150 hd_Town_hasCell ⟨Nat.le_of_ble_eq_true rfl, Nat.le_of_ble_eq_true rfl⟩ rfl hl.1 (Nat.le_of_ble_eq_true rfl) ⟨Nat.zero_le _, Nat.zero_le _⟩ rfl d_WF_canWalk_5) (fun H locs hS h3 => ?_)
  refine r_if_eq (tgt := 56) F.hx F.hb (inr_z h3) d_WF_canWalk_8 (by decide) (fun c4 => ?_) (fun c4 => ?_)
  · replace hT := (if_pos c4).symm.trans hT
    refine r_iconst F.hx F.hb d_WF_canWalk_56 ?_
    subst hT
    exact r_zret F hlk hr hS (Or.inl rfl) d_WF_canWalk_57
  · replace hT := (if_neg c4).symm.trans hT
    refine lv_aload_n F.hx F.hb d_WF_canWalk_11 rfl (lv_at hl 0 rfl) ?_
    have h5 := St_town hS
    refine r_get (v := .ref (b + ((M.1 0 4).toNat))) (N := 19) (T := T0) (j := 4) F hS (show 0 < 191 by decide) (show shK 0 = 4 from rfl) (show shN 0 = 19 from rfl) rfl (Nat.le_of_ble_eq_true rfl) ing0 mw_554 (fv_town hS) d_WF_canWalk_12 ?_
    refine lv_iload_n F.hx F.hb d_WF_canWalk_15 rfl (lv_at hl 2 rfl) ?_
    obtain ⟨q6, hq6⟩ : ∃ q, q = (t_Town_hasCell M ((M.1 0 4).toNat) x2) := ⟨_, rfl⟩
    replace hT := qlet_eq hT hq6
    refine r_backZ F hS (r_runV (k := ((M.1 0 4).toNat)) (N := 20) (T := T11) (As := [vI x2]) F hS (Town_lt h5) (Town_sh h5) rfl (c_Town_hasCell l F.2.2.1 M ((M.1 0 4).toNat) x2 h5 hx2 _ hq6.symm) gs_WF_150 hd_Town_hasCell ⟨Nat.le_of_ble_eq_true rfl, Nat.le_of_ble_eq_true rfl⟩ rfl hl.1 (Nat.le_of_ble_eq_true rfl) ⟨Nat.zero_le _, Nat.zero_le _⟩ rfl d_WF_canWalk_16) (fun H locs hS h7 => ?_)
    refine r_if_eq (tgt := 56) F.hx F.hb (inr_z h7) d_WF_canWalk_19 (by decide) (fun c8 => ?_) (fun c8 => ?_)
    · replace hT := (if_pos c8).symm.trans hT
      refine r_iconst F.hx F.hb d_WF_canWalk_56 ?_
      subst hT
      exact r_zret F hlk hr hS (Or.inl rfl) d_WF_canWalk_57
    · replace hT := (if_neg c8).symm.trans hT
      refine lv_aload_n F.hx F.hb d_WF_canWalk_22 rfl (lv_at hl 0 rfl) ?_
      refine r_get (v := .ref (b + 47)) (N := 19) (T := T0) (j := 8) F hS (show 0 < 191 by decide) (show shK 0 = 4 from rfl) (show shN 0 = 19 from rfl) rfl (Nat.le_of_ble_eq_true rfl) ing0 mw_558 (fv_sg rfl rfl rfl) d_WF_canWalk_23 ?_
      refine lv_aload_n F.hx F.hb d_WF_canWalk_26 rfl (lv_at hl 0 rfl) ?_
      have h9 := St_town hS
      refine r_get (v := .ref (b + ((M.1 0 4).toNat))) (N := 19) (T := T0) (j := 4) F hS (show 0 < 191 by decide) (show shK 0 = 4 from rfl) (show shN 0 = 19 from rfl) rfl (Nat.le_of_ble_eq_true rfl) ing0 mw_554 (fv_town hS) d_WF_canWalk_27 ?_
      refine lv_iload_n F.hx F.hb d_WF_canWalk_30 rfl (lv_at hl 1 rfl) ?_
      obtain ⟨q10, hq10⟩ : ∃ q, q = (t_Scene_standsIn M 47 ((M.1 0 4).toNat) x1) := ⟨_, rfl⟩
      replace hT := qlet_eq hT hq10
      refine r_backZ F hS (r_runV (k := 47) (N := 7) (T := T9) (As := [.ref (b + ((M.1 0 4).toNat)), vI x1]) F hS (show 47 < 191 by decide) (show shK 47 = 13 from rfl) rfl (c_Scene_standsIn l F.2.2.1 M 47 ((M.1 0 4).toNat) x1 (by decide : isScene 47) h9 hx1 _ hq10.symm) gs_WF_189 hd_Scene_standsIn ⟨Nat.le_of_ble_eq_true rfl, Nat.le_of_ble_eq_true rfl⟩ rfl hl.1 (Nat.le_of_ble_eq_true rfl) ⟨Nat.zero_le _, Nat.zero_le _⟩ rfl d_WF_canWalk_31) (fun H locs hS h11 => ?_)
      refine r_if_eq (tgt := 56) F.hx F.hb (inr_z h11) d_WF_canWalk_34 (by decide) (fun c12 => ?_) (fun c12 => ?_)
      · replace hT := (if_pos c12).symm.trans hT
        refine r_iconst F.hx F.hb d_WF_canWalk_56 ?_
        subst hT
        exact r_zret F hlk hr hS (Or.inl rfl) d_WF_canWalk_57
      · replace hT := (if_neg c12).symm.trans hT
        refine lv_aload_n F.hx F.hb d_WF_canWalk_37 rfl (lv_at hl 0 rfl) ?_
        refine r_get (v := .ref (b + 47)) (N := 19) (T := T0) (j := 8) F hS (show 0 < 191 by decide) (show shK 0 = 4 from rfl) (show shN 0 = 19 from rfl) rfl (Nat.le_of_ble_eq_true rfl) ing0 mw_558 (fv_sg rfl rfl rfl) d_WF_canWalk_38 ?_
        refine lv_aload_n F.hx F.hb d_WF_canWalk_41 rfl (lv_at hl 0 rfl) ?_
        have h13 := St_town hS
        refine r_get (v := .ref (b + ((M.1 0 4).toNat))) (N := 19) (T := T0) (j := 4) F hS (show 0 < 191 by decide) (show shK 0 = 4 from rfl) (show shN 0 = 19 from rfl) rfl (Nat.le_of_ble_eq_true rfl) ing0 mw_554 (fv_town hS) d_WF_canWalk_42 ?_
        refine lv_iload_n F.hx F.hb d_WF_canWalk_45 rfl (lv_at hl 2 rfl) ?_
        obtain ⟨q14, hq14⟩ : ∃ q, q = (t_Scene_standsIn M 47 ((M.1 0 4).toNat) x2) := ⟨_, rfl⟩
        replace hT := qlet_eq hT hq14
        refine r_backZ F hS (r_runV (k := 47) (N := 7) (T := T9) (As := [.ref (b + ((M.1 0 4).toNat)), vI x2]) F hS (show 47 < 191 by decide) (show shK 47 = 13 from rfl) rfl (c_Scene_standsIn l F.2.2.1 M 47 ((M.1 0 4).toNat) x2 (by decide : isScene 47) h13 hx2 _ hq14.symm) gs_WF_189 hd_Scene_standsIn ⟨Nat.le_of_ble_eq_true rfl, Nat.le_of_ble_eq_true rfl⟩ rfl hl.1 (Nat.le_of_ble_eq_true rfl) ⟨Nat.zero_le _, Nat.zero_le _⟩ rfl d_WF_canWalk_46) (fun H locs hS h15 => ?_)
        refine r_if_eq (tgt := 56) F.hx F.hb (inr_z h15) d_WF_canWalk_49 (by decide) (fun c16 => ?_) (fun c16 => ?_)
        · replace hT := (if_pos c16).symm.trans hT
          refine r_iconst F.hx F.hb d_WF_canWalk_56 ?_
          subst hT
          exact r_zret F hlk hr hS (Or.inl rfl) d_WF_canWalk_57
        · replace hT := (if_neg c16).symm.trans hT
          refine r_iconst F.hx F.hb d_WF_canWalk_52 ?_
          refine lv_goto (tgt := 57) F.hx F.hb d_WF_canWalk_53 (by decide) ?_
          subst hT
          exact r_zret F hlk hr hS (Or.inr rfl) d_WF_canWalk_57
theorem d_Paths_canStep_0 : decode b_Paths_canStep 0 = .ok (.iload_n 3, 1) := dc_29 (by decide +kernel)
theorem d_Paths_canStep_1 : decode b_Paths_canStep 1 = .ok (.ifCond .lt 21, 3) := dc_155 (by decide +kernel)
theorem d_Paths_canStep_4 : decode b_Paths_canStep 4 = .ok (.aload_n 1, 1) := dc_43 (by decide +kernel)
theorem d_Paths_canStep_5 : decode b_Paths_canStep 5 = .ok (.aload_n 0, 1) := dc_42 (by decide +kernel)
theorem d_Paths_canStep_6 : decode b_Paths_canStep 6 = .ok (.iload_n 2, 1) := dc_28 (by decide +kernel)
theorem d_Paths_canStep_7 : decode b_Paths_canStep 7 = .ok (.invokevirtual 66, 3) := dc_182 (by decide +kernel)
theorem d_Paths_canStep_10 : decode b_Paths_canStep 10 = .ok (.ifCond .eq 12, 3) := dc_153 (by decide +kernel)
theorem d_Paths_canStep_13 : decode b_Paths_canStep 13 = .ok (.aload_n 1, 1) := dc_43 (by decide +kernel)
theorem d_Paths_canStep_14 : decode b_Paths_canStep 14 = .ok (.aload_n 0, 1) := dc_42 (by decide +kernel)
theorem d_Paths_canStep_15 : decode b_Paths_canStep 15 = .ok (.iload_n 3, 1) := dc_29 (by decide +kernel)
theorem d_Paths_canStep_16 : decode b_Paths_canStep 16 = .ok (.invokevirtual 66, 3) := dc_182 (by decide +kernel)
theorem d_Paths_canStep_19 : decode b_Paths_canStep 19 = .ok (.ifCond .ne 5, 3) := dc_154 (by decide +kernel)
theorem d_Paths_canStep_22 : decode b_Paths_canStep 22 = .ok (.iconst 0, 1) := dc_3 (by decide +kernel)
theorem d_Paths_canStep_23 : decode b_Paths_canStep 23 = .ok (.ireturn, 1) := dc_172 (by decide +kernel)
theorem d_Paths_canStep_24 : decode b_Paths_canStep 24 = .ok (.aload_n 0, 1) := dc_42 (by decide +kernel)
theorem d_Paths_canStep_25 : decode b_Paths_canStep 25 = .ok (.iload_n 2, 1) := dc_28 (by decide +kernel)
theorem d_Paths_canStep_26 : decode b_Paths_canStep 26 = .ok (.iload_n 3, 1) := dc_29 (by decide +kernel)
theorem d_Paths_canStep_27 : decode b_Paths_canStep 27 = .ok (.invokevirtual 72, 3) := dc_182 (by decide +kernel)
theorem d_Paths_canStep_30 : decode b_Paths_canStep 30 = .ok (.ifCond .eq 27, 3) := dc_153 (by decide +kernel)
theorem d_Paths_canStep_33 : decode b_Paths_canStep 33 = .ok (.aload_n 0, 1) := dc_42 (by decide +kernel)
theorem d_Paths_canStep_34 : decode b_Paths_canStep 34 = .ok (.getfield 76, 3) := dc_180 (by decide +kernel)
theorem d_Paths_canStep_37 : decode b_Paths_canStep 37 = .ok (.iload_n 2, 1) := dc_28 (by decide +kernel)
theorem d_Paths_canStep_38 : decode b_Paths_canStep 38 = .ok (.invokestatic 80, 3) := dc_184 (by decide +kernel)
theorem d_Paths_canStep_41 : decode b_Paths_canStep 41 = .ok (.iconst 1, 1) := dc_4 (by decide +kernel)
theorem d_Paths_canStep_42 : decode b_Paths_canStep 42 = .ok (.if_icmp .eq 15, 3) := dc_159 (by decide +kernel)
theorem d_Paths_canStep_45 : decode b_Paths_canStep 45 = .ok (.aload_n 0, 1) := dc_42 (by decide +kernel)
theorem d_Paths_canStep_46 : decode b_Paths_canStep 46 = .ok (.getfield 76, 3) := dc_180 (by decide +kernel)
theorem d_Paths_canStep_49 : decode b_Paths_canStep 49 = .ok (.iload_n 3, 1) := dc_29 (by decide +kernel)
theorem d_Paths_canStep_50 : decode b_Paths_canStep 50 = .ok (.invokestatic 80, 3) := dc_184 (by decide +kernel)
theorem d_Paths_canStep_53 : decode b_Paths_canStep 53 = .ok (.iconst 1, 1) := dc_4 (by decide +kernel)
theorem d_Paths_canStep_54 : decode b_Paths_canStep 54 = .ok (.if_icmp .ne 7, 3) := dc_160 (by decide +kernel)
theorem d_Paths_canStep_57 : decode b_Paths_canStep 57 = .ok (.iconst 1, 1) := dc_4 (by decide +kernel)
theorem d_Paths_canStep_58 : decode b_Paths_canStep 58 = .ok (.goto 4, 3) := dc_167 (by decide +kernel)
theorem d_Paths_canStep_61 : decode b_Paths_canStep 61 = .ok (.iconst 0, 1) := dc_3 (by decide +kernel)
theorem d_Paths_canStep_62 : decode b_Paths_canStep 62 = .ok (.ireturn, 1) := dc_172 (by decide +kernel)
def t_Paths_canStep (M : Mem) (k1 : Nat) (k2 : Nat) (x3 : Int) (x4 : Int) : Int := (if x4 < 0 then 0 else (qlet (t_Scene_standsIn M k2 k1 x3) fun q2 => (if q2 = 0 then 0 else (qlet (t_Scene_standsIn M k2 k1 x4) fun q5 => (if q5 = 0 then 0 else (qlet (t_Town_isLine M k1 x3 x4) fun q8 => (if q8 = 0 then 1 else (qlet (t_WF_bitOf M (M.2 k1 19) x3) fun q11 => (if q11 = 1 then 1 else (qlet (t_WF_bitOf M (M.2 k1 19) x4) fun q14 => (if q14 = 1 then 1 else 0)))))))))))
set_option maxHeartbeats 4000000 in
set_option maxRecDepth 100000 in
theorem c_Paths_canStep (l : Launch) {b n : Nat} {C : CT} (hlo : 191 ≤ n) (M : Mem) (k1 : Nat) (k2 : Nat) (x3 : Int) (x4 : Int) (hk1 : isTown k1) (hk2 : isScene k2) (hx3 : InR x3) (hx4 : InR x4) (res : Int) (hT : t_Paths_canStep M k1 k2 x3 x4 = res) : CM l b C n 3 y_Paths_canStep b_Paths_canStep 4 (some .boolean) [.ref (b + k1), .ref (b + k2), vI x3, vI x4] M (QZ b C n M res) := by
  refine CM.of (lo := 191) (ow := "WardFalls$Paths") (by decide) rfl (Nat.le_of_ble_eq_true rfl) hlo (fun p e s m below meth c F hlk hr hS ls hl => ?_)
  have hl : lv_has ls 4 [(0, .ref (b + k1)), (1, .ref (b + k2)), (2, vI x3), (3, vI x4)] := hl
  unfold t_Paths_canStep at hT
  refine lv_iload_n F.hx F.hb d_Paths_canStep_0 rfl (lv_at hl 3 rfl) ?_
  refine r_if_lt (tgt := 22) F.hx F.hb hx4 d_Paths_canStep_1 (by decide) (fun c1 => ?_) (fun c1 => ?_)
  · replace hT := (if_pos c1).symm.trans hT
    refine r_iconst F.hx F.hb d_Paths_canStep_22 ?_
    subst hT
    exact r_zret F hlk hr hS (Or.inl rfl) d_Paths_canStep_23
  · replace hT := (if_neg c1).symm.trans hT
    refine lv_aload_n F.hx F.hb d_Paths_canStep_4 rfl (lv_at hl 1 rfl) ?_
    refine lv_aload_n F.hx F.hb d_Paths_canStep_5 rfl (lv_at hl 0 rfl) ?_
    refine lv_iload_n F.hx F.hb d_Paths_canStep_6 rfl (lv_at hl 2 rfl) ?_
    obtain ⟨q2, hq2⟩ : ∃ q, q = (t_Scene_standsIn M k2 k1 x3) := ⟨_, rfl⟩
    replace hT := qlet_eq hT hq2
    refine r_backZ F hS (r_runV (k := k2) (N := 7) (T := T9) (As := [.ref (b + k1), vI x3]) F hS (Scene_lt hk2) (Scene_sh hk2) rfl (c_Scene_standsIn l F.2.2.1 M k2 k1 x3 hk2 hk1 hx3 _ hq2.symm) gs_Paths_66 hd_Scene_standsIn ⟨Nat.le_of_ble_eq_true rfl, Nat.le_of_ble_eq_true rfl⟩ rfl hl.1 (Nat.le_of_ble_eq_true rfl) ⟨Nat.zero_le _, Nat.zero_le _⟩ rfl d_Paths_canStep_7) (fun H locs hS h3 => ?_)
    refine r_if_eq (tgt := 22) F.hx F.hb (inr_z h3) d_Paths_canStep_10 (by decide) (fun c4 => ?_) (fun c4 => ?_)
    · replace hT := (if_pos c4).symm.trans hT
      refine r_iconst F.hx F.hb d_Paths_canStep_22 ?_
      subst hT
      exact r_zret F hlk hr hS (Or.inl rfl) d_Paths_canStep_23
    · replace hT := (if_neg c4).symm.trans hT
      refine lv_aload_n F.hx F.hb d_Paths_canStep_13 rfl (lv_at hl 1 rfl) ?_
      refine lv_aload_n F.hx F.hb d_Paths_canStep_14 rfl (lv_at hl 0 rfl) ?_
      refine lv_iload_n F.hx F.hb d_Paths_canStep_15 rfl (lv_at hl 3 rfl) ?_
      obtain ⟨q5, hq5⟩ : ∃ q, q = (t_Scene_standsIn M k2 k1 x4) := ⟨_, rfl⟩
      replace hT := qlet_eq hT hq5
      refine r_backZ F hS (r_runV (k := k2) (N := 7) (T := T9) (As := [.ref (b + k1), vI x4]) F hS (Scene_lt hk2) (Scene_sh hk2) rfl (c_Scene_standsIn l F.2.2.1 M k2 k1 x4 hk2 hk1 hx4 _ hq5.symm) gs_Paths_66 hd_Scene_standsIn ⟨Nat.le_of_ble_eq_true rfl, Nat.le_of_ble_eq_true rfl⟩ rfl hl.1 (Nat.le_of_ble_eq_true rfl) ⟨Nat.zero_le _, Nat.zero_le _⟩ rfl d_Paths_canStep_16) (fun H locs hS h6 => ?_)
      refine r_if_ne (tgt := 24) F.hx F.hb (inr_z h6) d_Paths_canStep_19 (by decide) (fun c7 => ?_) (fun c7 => ?_)
      · replace hT := (if_neg c7).symm.trans hT
        refine lv_aload_n F.hx F.hb d_Paths_canStep_24 rfl (lv_at hl 0 rfl) ?_
        refine lv_iload_n F.hx F.hb d_Paths_canStep_25 rfl (lv_at hl 2 rfl) ?_
        refine lv_iload_n F.hx F.hb d_Paths_canStep_26 rfl (lv_at hl 3 rfl) ?_
        obtain ⟨q8, hq8⟩ : ∃ q, q = (t_Town_isLine M k1 x3 x4) := ⟨_, rfl⟩
        replace hT := qlet_eq hT hq8
        refine r_backZ F hS (r_runV (k := k1) (N := 20) (T := T11) (As := [vI x3, vI x4]) F hS (Town_lt hk1) (Town_sh hk1) rfl (c_Town_isLine l F.2.2.1 M k1 x3 x4 hk1 hx3 hx4 _ hq8.symm) gs_Paths_72 hd_Town_isLine ⟨Nat.le_of_ble_eq_true rfl, Nat.le_of_ble_eq_true rfl⟩ rfl hl.1 (Nat.le_of_ble_eq_true rfl) ⟨Nat.zero_le _, Nat.zero_le _⟩ rfl d_Paths_canStep_27) (fun H locs hS h9 => ?_)
        refine r_if_eq (tgt := 57) F.hx F.hb (inr_z h9) d_Paths_canStep_30 (by decide) (fun c10 => ?_) (fun c10 => ?_)
        · replace hT := (if_pos c10).symm.trans hT
          refine r_iconst F.hx F.hb d_Paths_canStep_57 ?_
          refine lv_goto (tgt := 62) F.hx F.hb d_Paths_canStep_58 (by decide) ?_
          subst hT
          exact r_zret F hlk hr hS (Or.inr rfl) d_Paths_canStep_62
        · replace hT := (if_neg c10).symm.trans hT
          refine lv_aload_n F.hx F.hb d_Paths_canStep_33 rfl (lv_at hl 0 rfl) ?_
          refine r_get (v := .long (M.2 k1 19)) (N := 20) (T := T11) (j := 19) F hS (Town_lt hk1) (Town_sh hk1) (Town_N hk1) rfl (Nat.le_of_ble_eq_true rfl) ing11 mw_156 (fv_long rfl) d_Paths_canStep_34 ?_
          refine lv_iload_n F.hx F.hb d_Paths_canStep_37 rfl (lv_at hl 2 rfl) ?_
          obtain ⟨q11, hq11⟩ : ∃ q, q = (t_WF_bitOf M (M.2 k1 19) x3) := ⟨_, rfl⟩
          replace hT := qlet_eq hT hq11
          refine r_backI F hS (r_runSN (As := [.long (M.2 k1 19), vI x3]) F hS (c_WF_bitOf l F.2.2.1 M (M.2 k1 19) x3 hx3 _ hq11.symm) mw_773 mw_772 mw_1 gs_Paths_80 hd_WF_bitOf ⟨Nat.le_of_ble_eq_true rfl, Nat.le_of_ble_eq_true rfl⟩ rfl hl.1 (Nat.le_of_ble_eq_true rfl) ⟨Nat.zero_le _, Nat.zero_le _⟩ rfl d_Paths_canStep_38) (fun H locs hS h12 => ?_)
          refine r_iconst F.hx F.hb d_Paths_canStep_41 ?_
          refine r_icmp_eq (tgt := 57) F.hx F.hb h12 (inr_c rfl) d_Paths_canStep_42 (by decide) (fun c13 => ?_) (fun c13 => ?_)
          · replace hT := (if_pos c13).symm.trans hT
            refine r_iconst F.hx F.hb d_Paths_canStep_57 ?_
            refine lv_goto (tgt := 62) F.hx F.hb d_Paths_canStep_58 (by decide) ?_
            subst hT
            exact r_zret F hlk hr hS (Or.inr rfl) d_Paths_canStep_62
          · replace hT := (if_neg c13).symm.trans hT
            refine lv_aload_n F.hx F.hb d_Paths_canStep_45 rfl (lv_at hl 0 rfl) ?_
            refine r_get (v := .long (M.2 k1 19)) (N := 20) (T := T11) (j := 19) F hS (Town_lt hk1) (Town_sh hk1) (Town_N hk1) rfl (Nat.le_of_ble_eq_true rfl) ing11 mw_156 (fv_long rfl) d_Paths_canStep_46 ?_
            refine lv_iload_n F.hx F.hb d_Paths_canStep_49 rfl (lv_at hl 3 rfl) ?_
            obtain ⟨q14, hq14⟩ : ∃ q, q = (t_WF_bitOf M (M.2 k1 19) x4) := ⟨_, rfl⟩
            replace hT := qlet_eq hT hq14
            refine r_backI F hS (r_runSN (As := [.long (M.2 k1 19), vI x4]) F hS (c_WF_bitOf l F.2.2.1 M (M.2 k1 19) x4 hx4 _ hq14.symm) mw_773 mw_772 mw_1 gs_Paths_80 hd_WF_bitOf ⟨Nat.le_of_ble_eq_true rfl, Nat.le_of_ble_eq_true rfl⟩ rfl hl.1 (Nat.le_of_ble_eq_true rfl) ⟨Nat.zero_le _, Nat.zero_le _⟩ rfl d_Paths_canStep_50) (fun H locs hS h15 => ?_)
            refine r_iconst F.hx F.hb d_Paths_canStep_53 ?_
            refine r_icmp_ne (tgt := 61) F.hx F.hb h15 (inr_c rfl) d_Paths_canStep_54 (by decide) (fun c16 => ?_) (fun c16 => ?_)
            · replace hT := (if_neg c16).symm.trans hT
              refine r_iconst F.hx F.hb d_Paths_canStep_61 ?_
              subst hT
              exact r_zret F hlk hr hS (Or.inl rfl) d_Paths_canStep_62
            · replace hT := (if_pos c16).symm.trans hT
              refine r_iconst F.hx F.hb d_Paths_canStep_57 ?_
              refine lv_goto (tgt := 62) F.hx F.hb d_Paths_canStep_58 (by decide) ?_
              subst hT
              exact r_zret F hlk hr hS (Or.inr rfl) d_Paths_canStep_62
      · replace hT := (if_pos c7).symm.trans hT
        refine r_iconst F.hx F.hb d_Paths_canStep_22 ?_
        subst hT
        exact r_zret F hlk hr hS (Or.inl rfl) d_Paths_canStep_23
end
section
theorem d_Paths_leftBy_0 : decode b_Paths_leftBy 0 = .ok (.aload_n 0, 1) := dc_42 (by decide +kernel)
theorem d_Paths_leftBy_1 : decode b_Paths_leftBy 1 = .ok (.getfield 9, 3) := dc_180 (by decide +kernel)
theorem d_Paths_leftBy_4 : decode b_Paths_leftBy 4 = .ok (.iload_n 2, 1) := dc_28 (by decide +kernel)
theorem d_Paths_leftBy_5 : decode b_Paths_leftBy 5 = .ok (.iconst 4, 1) := dc_7 (by decide +kernel)
theorem d_Paths_leftBy_6 : decode b_Paths_leftBy 6 = .ok (.imul, 1) := dc_104 (by decide +kernel)
theorem d_Paths_leftBy_7 : decode b_Paths_leftBy 7 = .ok (.iload_n 3, 1) := dc_29 (by decide +kernel)
theorem d_Paths_leftBy_8 : decode b_Paths_leftBy 8 = .ok (.iadd, 1) := dc_96 (by decide +kernel)
theorem d_Paths_leftBy_9 : decode b_Paths_leftBy 9 = .ok (.invokestatic 45, 3) := dc_184 (by decide +kernel)
theorem d_Paths_leftBy_12 : decode b_Paths_leftBy 12 = .ok (.istore 4, 2) := dc_54 (by decide +kernel)
theorem d_Paths_leftBy_14 : decode b_Paths_leftBy 14 = .ok (.aload_n 0, 1) := dc_42 (by decide +kernel)
theorem d_Paths_leftBy_15 : decode b_Paths_leftBy 15 = .ok (.getfield 15, 3) := dc_180 (by decide +kernel)
theorem d_Paths_leftBy_18 : decode b_Paths_leftBy 18 = .ok (.aload_n 1, 1) := dc_43 (by decide +kernel)
theorem d_Paths_leftBy_19 : decode b_Paths_leftBy 19 = .ok (.iload_n 2, 1) := dc_28 (by decide +kernel)
theorem d_Paths_leftBy_20 : decode b_Paths_leftBy 20 = .ok (.iload_n 3, 1) := dc_29 (by decide +kernel)
theorem d_Paths_leftBy_21 : decode b_Paths_leftBy 21 = .ok (.invokevirtual 26, 3) := dc_182 (by decide +kernel)
theorem d_Paths_leftBy_24 : decode b_Paths_leftBy 24 = .ok (.invokestatic 45, 3) := dc_184 (by decide +kernel)
theorem d_Paths_leftBy_27 : decode b_Paths_leftBy 27 = .ok (.istore 5, 2) := dc_54 (by decide +kernel)
theorem d_Paths_leftBy_29 : decode b_Paths_leftBy 29 = .ok (.iload 4, 2) := dc_21 (by decide +kernel)
theorem d_Paths_leftBy_31 : decode b_Paths_leftBy 31 = .ok (.ifCond .lt 8, 3) := dc_155 (by decide +kernel)
theorem d_Paths_leftBy_34 : decode b_Paths_leftBy 34 = .ok (.iload 5, 2) := dc_21 (by decide +kernel)
theorem d_Paths_leftBy_36 : decode b_Paths_leftBy 36 = .ok (.ifCond .ge 7, 3) := dc_156 (by decide +kernel)
theorem d_Paths_leftBy_39 : decode b_Paths_leftBy 39 = .ok (.iconst (-1), 1) := dc_2 (by decide +kernel)
theorem d_Paths_leftBy_40 : decode b_Paths_leftBy 40 = .ok (.goto 13, 3) := dc_167 (by decide +kernel)
theorem d_Paths_leftBy_43 : decode b_Paths_leftBy 43 = .ok (.iload 5, 2) := dc_21 (by decide +kernel)
theorem d_Paths_leftBy_45 : decode b_Paths_leftBy 45 = .ok (.iload 4, 2) := dc_21 (by decide +kernel)
theorem d_Paths_leftBy_47 : decode b_Paths_leftBy 47 = .ok (.bipush 64, 2) := dc_16 (by decide +kernel)
theorem d_Paths_leftBy_49 : decode b_Paths_leftBy 49 = .ok (.imul, 1) := dc_104 (by decide +kernel)
theorem d_Paths_leftBy_50 : decode b_Paths_leftBy 50 = .ok (.iadd, 1) := dc_96 (by decide +kernel)
theorem d_Paths_leftBy_51 : decode b_Paths_leftBy 51 = .ok (.iconst 1, 1) := dc_4 (by decide +kernel)
theorem d_Paths_leftBy_52 : decode b_Paths_leftBy 52 = .ok (.iadd, 1) := dc_96 (by decide +kernel)
theorem d_Paths_leftBy_53 : decode b_Paths_leftBy 53 = .ok (.ireturn, 1) := dc_172 (by decide +kernel)
def t_Paths_leftBy (M : Mem) (k1 : Nat) (x2 : Int) (x3 : Int) : Int := (qlet (t_WF_look M 186 192 (w32 ((w32 (x2 * 4)) + x3))) fun q1 => (qlet (t_Town_beside M k1 x2 x3) fun q3 => (qlet (t_WF_look M 187 48 q3) fun q5 => (if q1 < 0 then (-1) else (if 0 ≤ q5 then (w32 ((w32 (q5 + (w32 (q1 * 64)))) + 1)) else (-1))))))
set_option maxHeartbeats 4000000 in
set_option maxRecDepth 100000 in
theorem c_Paths_leftBy (l : Launch) {b n : Nat} {C : CT} (hlo : 191 ≤ n) (M : Mem) (k1 : Nat) (x2 : Int) (x3 : Int) (hk1 : isTown k1) (hx2 : InR x2) (hx3 : InR x3) (res : Int) (hT : t_Paths_leftBy M k1 x2 x3 = res) : CM l b C n 2 y_Paths_leftBy b_Paths_leftBy 6 (some .int) [.ref (b + 185), .ref (b + k1), vI x2, vI x3] M (QI b C n M res) := by
  refine CM.of (lo := 191) (ow := "WardFalls$Paths") (by decide) rfl (Nat.le_of_ble_eq_true rfl) hlo (fun p e s m below meth c F hlk hr hS ls hl => ?_)
  have hl : lv_has ls 6 [(0, .ref (b + 185)), (1, .ref (b + k1)), (2, vI x2), (3, vI x3)] := hl
  unfold t_Paths_leftBy at hT
  refine lv_aload_n F.hx F.hb d_Paths_leftBy_0 rfl (lv_at hl 0 rfl) ?_
  refine r_get (v := .ref (b + 186)) (N := 5) (T := T7) (j := 0) F hS (show 185 < 191 by decide) (show shK 185 = 11 from rfl) (show shN 185 = 5 from rfl) rfl (Nat.le_of_ble_eq_true rfl) ing7 mw_474 (fv_sg rfl rfl rfl) d_Paths_leftBy_1 ?_
  refine lv_iload_n F.hx F.hb d_Paths_leftBy_4 rfl (lv_at hl 2 rfl) ?_
  refine r_iconst F.hx F.hb d_Paths_leftBy_5 ?_
  refine r_imul F.hx F.hb d_Paths_leftBy_6 ?_
  refine lv_iload_n F.hx F.hb d_Paths_leftBy_7 rfl (lv_at hl 3 rfl) ?_
  refine r_iadd F.hx F.hb d_Paths_leftBy_8 ?_
  obtain ⟨q1, hq1⟩ : ∃ q, q = (t_WF_look M 186 192 (w32 ((w32 (x2 * 4)) + x3))) := ⟨_, rfl⟩
  replace hT := qlet_eq hT hq1
  refine r_backI F hS (r_runSN (As := [.ref (b + 186), vI (w32 ((w32 (x2 * 4)) + x3))]) F hS (c_WF_look l F.2.2.1 M 186 192 (w32 ((w32 (x2 * 4)) + x3)) (show arrP 0 186 192 191 from ⟨rfl, rfl, by decide⟩) (inr_w32 _) _ hq1.symm) mw_519 mw_518 mw_1 gs_Paths_45 hd_WF_look ⟨Nat.le_of_ble_eq_true rfl, Nat.le_of_ble_eq_true rfl⟩ rfl hl.1 (Nat.le_of_ble_eq_true rfl) ⟨Nat.zero_le _, Nat.zero_le _⟩ rfl d_Paths_leftBy_9) (fun H locs hS h2 => ?_)
  refine lv_istore (lv' := [(4, vI q1), (0, .ref (b + 185)), (1, .ref (b + k1)), (2, vI x2), (3, vI x3)]) F.hx F.hb d_Paths_leftBy_12 hl (Nat.le_of_ble_eq_true rfl) rfl (fun ls hl => ?_)
  refine lv_aload_n F.hx F.hb d_Paths_leftBy_14 rfl (lv_at hl 1 rfl) ?_
  refine r_get (v := .ref (b + 187)) (N := 5) (T := T7) (j := 1) F hS (show 185 < 191 by decide) (show shK 185 = 11 from rfl) (show shN 185 = 5 from rfl) rfl (Nat.le_of_ble_eq_true rfl) ing7 mw_476 (fv_sg rfl rfl rfl) d_Paths_leftBy_15 ?_
  refine lv_aload_n F.hx F.hb d_Paths_leftBy_18 rfl (lv_at hl 2 rfl) ?_
  refine lv_iload_n F.hx F.hb d_Paths_leftBy_19 rfl (lv_at hl 3 rfl) ?_
  refine lv_iload_n F.hx F.hb d_Paths_leftBy_20 rfl (lv_at hl 4 rfl) ?_
  obtain ⟨q3, hq3⟩ : ∃ q, q = (t_Town_beside M k1 x2 x3) := ⟨_, rfl⟩
  replace hT := qlet_eq hT hq3
  refine r_backI F hS (r_runV (k := k1) (N := 20) (T := T11) (As := [vI x2, vI x3]) F hS (Town_lt hk1) (Town_sh hk1) rfl (c_Town_beside l F.2.2.1 M k1 x2 x3 hk1 hx2 hx3 _ hq3.symm) gs_Paths_26 hd_Town_beside ⟨Nat.le_of_ble_eq_true rfl, Nat.le_of_ble_eq_true rfl⟩ rfl hl.1 (Nat.le_of_ble_eq_true rfl) ⟨Nat.zero_le _, Nat.zero_le _⟩ rfl d_Paths_leftBy_21) (fun H locs hS h4 => ?_)
  obtain ⟨q5, hq5⟩ : ∃ q, q = (t_WF_look M 187 48 q3) := ⟨_, rfl⟩
  replace hT := qlet_eq hT hq5
  refine r_backI F hS (r_runSN (As := [.ref (b + 187), vI q3]) F hS (c_WF_look l F.2.2.1 M 187 48 q3 (show arrP 0 187 48 191 from ⟨rfl, rfl, by decide⟩) h4 _ hq5.symm) mw_519 mw_518 mw_1 gs_Paths_45 hd_WF_look ⟨Nat.le_of_ble_eq_true rfl, Nat.le_of_ble_eq_true rfl⟩ rfl hl.1 (Nat.le_of_ble_eq_true rfl) ⟨Nat.zero_le _, Nat.zero_le _⟩ rfl d_Paths_leftBy_24) (fun H locs hS h6 => ?_)
  refine lv_istore (lv' := [(5, vI q5), (4, vI q1), (0, .ref (b + 185)), (1, .ref (b + k1)), (2, vI x2), (3, vI x3)]) F.hx F.hb d_Paths_leftBy_27 hl (Nat.le_of_ble_eq_true rfl) rfl (fun ls hl => ?_)
  refine lv_iload F.hx F.hb d_Paths_leftBy_29 (lv_at hl 1 rfl) ?_
  refine r_if_lt (tgt := 39) F.hx F.hb h2 d_Paths_leftBy_31 (by decide) (fun c7 => ?_) (fun c7 => ?_)
  · replace hT := (if_pos c7).symm.trans hT
    refine r_iconst F.hx F.hb d_Paths_leftBy_39 ?_
    refine lv_goto (tgt := 53) F.hx F.hb d_Paths_leftBy_40 (by decide) ?_
    subst hT
    exact r_iret F hlk hr rfl hS (inr_c rfl) d_Paths_leftBy_53
  · replace hT := (if_neg c7).symm.trans hT
    refine lv_iload F.hx F.hb d_Paths_leftBy_34 (lv_at hl 0 rfl) ?_
    refine r_if_ge (tgt := 43) F.hx F.hb h6 d_Paths_leftBy_36 (by decide) (fun c8 => ?_) (fun c8 => ?_)
    · replace hT := (if_pos c8).symm.trans hT
      refine lv_iload F.hx F.hb d_Paths_leftBy_43 (lv_at hl 0 rfl) ?_
      refine lv_iload F.hx F.hb d_Paths_leftBy_45 (lv_at hl 1 rfl) ?_
      refine r_bipush F.hx F.hb d_Paths_leftBy_47 rfl ?_
      refine r_imul F.hx F.hb d_Paths_leftBy_49 ?_
      refine r_iadd F.hx F.hb d_Paths_leftBy_50 ?_
      refine r_iconst F.hx F.hb d_Paths_leftBy_51 ?_
      refine r_iadd F.hx F.hb d_Paths_leftBy_52 ?_
      subst hT
      exact r_iret F hlk hr rfl hS (inr_w32 _) d_Paths_leftBy_53
    · replace hT := (if_neg c8).symm.trans hT
      refine r_iconst F.hx F.hb d_Paths_leftBy_39 ?_
      refine lv_goto (tgt := 53) F.hx F.hb d_Paths_leftBy_40 (by decide) ?_
      subst hT
      exact r_iret F hlk hr rfl hS (inr_c rfl) d_Paths_leftBy_53
theorem d_Paths_spread_0 : decode b_Paths_spread 0 = .ok (.iconst 0, 1) := dc_3 (by decide +kernel)
theorem d_Paths_spread_1 : decode b_Paths_spread 1 = .ok (.istore_n 2, 1) := dc_61 (by decide +kernel)
theorem d_Paths_spread_2 : decode b_Paths_spread 2 = .ok (.iconst 0, 1) := dc_3 (by decide +kernel)
theorem d_Paths_spread_3 : decode b_Paths_spread 3 = .ok (.istore_n 3, 1) := dc_62 (by decide +kernel)
theorem d_Paths_spread_4 : decode b_Paths_spread 4 = .ok (.iload_n 3, 1) := dc_29 (by decide +kernel)
theorem d_Paths_spread_5 : decode b_Paths_spread 5 = .ok (.aload_n 1, 1) := dc_43 (by decide +kernel)
theorem d_Paths_spread_6 : decode b_Paths_spread 6 = .ok (.getfield 21, 3) := dc_180 (by decide +kernel)
theorem d_Paths_spread_9 : decode b_Paths_spread 9 = .ok (.if_icmp .ge 73, 3) := dc_162 (by decide +kernel)
theorem d_Paths_spread_12 : decode b_Paths_spread 12 = .ok (.iconst 0, 1) := dc_3 (by decide +kernel)
theorem d_Paths_spread_13 : decode b_Paths_spread 13 = .ok (.istore 4, 2) := dc_54 (by decide +kernel)
theorem d_Paths_spread_15 : decode b_Paths_spread 15 = .ok (.iload 4, 2) := dc_21 (by decide +kernel)
theorem d_Paths_spread_17 : decode b_Paths_spread 17 = .ok (.iconst 4, 1) := dc_7 (by decide +kernel)
theorem d_Paths_spread_18 : decode b_Paths_spread 18 = .ok (.if_icmp .ge 58, 3) := dc_162 (by decide +kernel)
theorem d_Paths_spread_21 : decode b_Paths_spread 21 = .ok (.aload_n 0, 1) := dc_42 (by decide +kernel)
theorem d_Paths_spread_22 : decode b_Paths_spread 22 = .ok (.aload_n 1, 1) := dc_43 (by decide +kernel)
theorem d_Paths_spread_23 : decode b_Paths_spread 23 = .ok (.iload_n 3, 1) := dc_29 (by decide +kernel)
theorem d_Paths_spread_24 : decode b_Paths_spread 24 = .ok (.iload 4, 2) := dc_21 (by decide +kernel)
theorem d_Paths_spread_26 : decode b_Paths_spread 26 = .ok (.invokevirtual 84, 3) := dc_182 (by decide +kernel)
theorem d_Paths_spread_29 : decode b_Paths_spread 29 = .ok (.istore 5, 2) := dc_54 (by decide +kernel)
theorem d_Paths_spread_31 : decode b_Paths_spread 31 = .ok (.aload_n 0, 1) := dc_42 (by decide +kernel)
theorem d_Paths_spread_32 : decode b_Paths_spread 32 = .ok (.getfield 15, 3) := dc_180 (by decide +kernel)
theorem d_Paths_spread_35 : decode b_Paths_spread 35 = .ok (.iload_n 3, 1) := dc_29 (by decide +kernel)
theorem d_Paths_spread_36 : decode b_Paths_spread 36 = .ok (.invokestatic 45, 3) := dc_184 (by decide +kernel)
theorem d_Paths_spread_39 : decode b_Paths_spread 39 = .ok (.istore 6, 2) := dc_54 (by decide +kernel)
theorem d_Paths_spread_41 : decode b_Paths_spread 41 = .ok (.iload 5, 2) := dc_21 (by decide +kernel)
theorem d_Paths_spread_43 : decode b_Paths_spread 43 = .ok (.ifCond .lt 27, 3) := dc_155 (by decide +kernel)
theorem d_Paths_spread_46 : decode b_Paths_spread 46 = .ok (.iload 6, 2) := dc_21 (by decide +kernel)
theorem d_Paths_spread_48 : decode b_Paths_spread 48 = .ok (.ifCond .lt 10, 3) := dc_155 (by decide +kernel)
theorem d_Paths_spread_51 : decode b_Paths_spread 51 = .ok (.iload 5, 2) := dc_21 (by decide +kernel)
theorem d_Paths_spread_53 : decode b_Paths_spread 53 = .ok (.iload 6, 2) := dc_21 (by decide +kernel)
theorem d_Paths_spread_55 : decode b_Paths_spread 55 = .ok (.if_icmp .ge 15, 3) := dc_162 (by decide +kernel)
theorem d_Paths_spread_58 : decode b_Paths_spread 58 = .ok (.aload_n 0, 1) := dc_42 (by decide +kernel)
theorem d_Paths_spread_59 : decode b_Paths_spread 59 = .ok (.getfield 15, 3) := dc_180 (by decide +kernel)
theorem d_Paths_spread_62 : decode b_Paths_spread 62 = .ok (.iload_n 3, 1) := dc_29 (by decide +kernel)
theorem d_Paths_spread_63 : decode b_Paths_spread 63 = .ok (.iload 5, 2) := dc_21 (by decide +kernel)
theorem d_Paths_spread_65 : decode b_Paths_spread 65 = .ok (.invokestatic 34, 3) := dc_184 (by decide +kernel)
theorem d_Paths_spread_68 : decode b_Paths_spread 68 = .ok (.iconst 1, 1) := dc_4 (by decide +kernel)
theorem d_Paths_spread_69 : decode b_Paths_spread 69 = .ok (.istore_n 2, 1) := dc_61 (by decide +kernel)
theorem d_Paths_spread_70 : decode b_Paths_spread 70 = .ok (.iinc 4 1, 3) := dc_132 (by decide +kernel)
theorem d_Paths_spread_73 : decode b_Paths_spread 73 = .ok (.goto (-58), 3) := dc_167 (by decide +kernel)
theorem d_Paths_spread_76 : decode b_Paths_spread 76 = .ok (.iinc 3 1, 3) := dc_132 (by decide +kernel)
theorem d_Paths_spread_79 : decode b_Paths_spread 79 = .ok (.goto (-75), 3) := dc_167 (by decide +kernel)
theorem d_Paths_spread_82 : decode b_Paths_spread 82 = .ok (.iload_n 2, 1) := dc_28 (by decide +kernel)
theorem d_Paths_spread_83 : decode b_Paths_spread 83 = .ok (.ireturn, 1) := dc_172 (by decide +kernel)
def t_Paths_spread_L70 (k1 : Nat) (bk4 : Mem → Int → Int → Option (Mem × Int)) (bk15 : Mem → Int → Int → Int → Option (Mem × Int)) (M : Mem) (v2_ : Int) (v3_ : Int) (v4_ : Int) : Option (Mem × Int) := (bk15 M v2_ v3_ (w32 (v4_ + 1)))
def t_Paths_spread_L58 (k1 : Nat) (bk4 : Mem → Int → Int → Option (Mem × Int)) (bk15 : Mem → Int → Int → Int → Option (Mem × Int)) (M : Mem) (v2_ : Int) (v3_ : Int) (v4_ : Int) : Option (Mem × Int) := (qlet (t_WF_put M 187 48 v2_ v4_) fun q11 => (t_Paths_spread_L70 k1 bk4 bk15 q11 1 v2_ v3_))
def t_Paths_spread_L15 (k1 : Nat) (bk4 : Mem → Int → Int → Option (Mem × Int)) : Nat → Mem → Int → Int → Int → Option (Mem × Int)
  | 0, _, _, _, _ => none
  | fu + 1, M, v2_, v3_, v4_ => (if 4 ≤ v4_ then (bk4 M v2_ (w32 (v3_ + 1))) else (qlet (t_Paths_leftBy M k1 v3_ v4_) fun q4 => (qlet (t_WF_look M 187 48 v3_) fun q6 => (if q4 < 0 then (t_Paths_spread_L70 k1 bk4 (fun a0_ a1_ a2_ a3_ => t_Paths_spread_L15 k1 bk4 fu a0_ a1_ a2_ a3_) M v2_ v3_ v4_) else (if q6 < 0 then (t_Paths_spread_L58 k1 bk4 (fun a0_ a1_ a2_ a3_ => t_Paths_spread_L15 k1 bk4 fu a0_ a1_ a2_ a3_) M v3_ v4_ q4) else (if q6 ≤ q4 then (t_Paths_spread_L70 k1 bk4 (fun a0_ a1_ a2_ a3_ => t_Paths_spread_L15 k1 bk4 fu a0_ a1_ a2_ a3_) M v2_ v3_ v4_) else (t_Paths_spread_L58 k1 bk4 (fun a0_ a1_ a2_ a3_ => t_Paths_spread_L15 k1 bk4 fu a0_ a1_ a2_ a3_) M v3_ v4_ q4)))))))
def t_Paths_spread_L4 (k1 : Nat)  : Nat → Mem → Int → Int → Option (Mem × Int)
  | 0, _, _, _ => none
  | fu + 1, M, v2_, v3_ => (if (M.1 k1 13) ≤ v3_ then (some (M, v2_)) else (t_Paths_spread_L15 k1 (fun a0_ a1_ a2_ => t_Paths_spread_L4 k1 fu a0_ a1_ a2_) FU M v2_ v3_ 0))
def t_Paths_spread (M : Mem) (k1 : Nat) : Option (Mem × Int) := (t_Paths_spread_L4 k1 FU M 0 0)
set_option maxHeartbeats 4000000 in
set_option maxRecDepth 100000 in
theorem k_Paths_spread_L70 (l : Launch) {p : Program} {e : Env} {s : State} {m : MethodId} {below : List Frame} {meth : Method} {c : Code} {b n : Nat} {C : CT} (hlo : 191 ≤ n) (k1 : Nat) (hk1 : isTown k1) (F : Cx b p m c b_Paths_spread 7 s ([.ref (b + 185), .ref (b + k1)] : List Value).toArray "WardFalls$Paths" C n 191) (hlk : meth.locks = false) (hr : meth.sig.returnType = some .boolean) {res : Mem × Int} (bk4 : Mem → Int → Int → Option (Mem × Int)) (hbk4 : ∀ (M : Mem) (v2_ : Int) (hv2_ : v2_ = 0 ∨ v2_ = 1) (v3_ : Int) (hv3_ : InR v3_) (H : Heap) (locs : List Loc) (ls : Array Slot), St b C n M s H locs → lv_has ls 7 [(0, .ref (b + 185)), (1, .ref (b + k1)), (2, vI v2_), (3, vI v3_)] → bk4 M v2_ v3_ = some res → W p l e (headSpec (wsM y_Paths_spread b_Paths_spread 7 (some .boolean)) (rmD 3)).room s m ([.ref (b + 185), .ref (b + k1)] : List Value).toArray below meth c H locs 0 0 (MQ below (QZ b C n res.1 res.2) ([.ref (b + 185), .ref (b + k1)] : List Value).toArray s 0 0 (frb b)) (F0 m 4 ls [])) (bk15 : Mem → Int → Int → Int → Option (Mem × Int)) (hbk15 : ∀ (M : Mem) (v2_ : Int) (hv2_ : v2_ = 0 ∨ v2_ = 1) (v3_ : Int) (hv3_ : InR v3_) (v4_ : Int) (hv4_ : InR v4_) (H : Heap) (locs : List Loc) (ls : Array Slot), St b C n M s H locs → lv_has ls 7 [(0, .ref (b + 185)), (1, .ref (b + k1)), (2, vI v2_), (3, vI v3_), (4, vI v4_)] → bk15 M v2_ v3_ v4_ = some res → W p l e (headSpec (wsM y_Paths_spread b_Paths_spread 7 (some .boolean)) (rmD 3)).room s m ([.ref (b + 185), .ref (b + k1)] : List Value).toArray below meth c H locs 0 0 (MQ below (QZ b C n res.1 res.2) ([.ref (b + 185), .ref (b + k1)] : List Value).toArray s 0 0 (frb b)) (F0 m 15 ls [])) (M : Mem) (v2_ : Int) (hv2_ : v2_ = 0 ∨ v2_ = 1) (v3_ : Int) (hv3_ : InR v3_) (v4_ : Int) (hv4_ : InR v4_) (H : Heap) (locs : List Loc) (ls : Array Slot) (hS : St b C n M s H locs) (hl : lv_has ls 7 [(0, .ref (b + 185)), (1, .ref (b + k1)), (2, vI v2_), (3, vI v3_), (4, vI v4_)]) (hT : t_Paths_spread_L70 k1 bk4 bk15 M v2_ v3_ v4_ = some res) : W p l e (headSpec (wsM y_Paths_spread b_Paths_spread 7 (some .boolean)) (rmD 3)).room s m ([.ref (b + 185), .ref (b + k1)] : List Value).toArray below meth c H locs 0 0 (MQ below (QZ b C n res.1 res.2) ([.ref (b + 185), .ref (b + k1)] : List Value).toArray s 0 0 (frb b)) (F0 m 70 ls []) := by
  unfold t_Paths_spread_L70 at hT
  refine lv_iinc (v := Int32.ofInt (w32 (v4_ + 1))) (lv' := [(4, vI (w32 (v4_ + 1))), (0, .ref (b + 185)), (1, .ref (b + k1)), (2, vI v2_), (3, vI v3_)]) F.hx F.hb d_Paths_spread_70 hl (k := 4) rfl (q_of_add _ _) (Nat.le_of_ble_eq_true rfl) rfl (fun ls hl => ?_)
  refine lv_goto (tgt := 15) F.hx F.hb d_Paths_spread_73 (by decide) ?_
  exact hbk15 M v2_ hv2_ v3_ hv3_ (w32 (v4_ + 1)) (inr_w32 _) _ _ _ hS (lv_sub hl [1, 2, 3, 4, 0] rfl) hT
set_option maxHeartbeats 4000000 in
set_option maxRecDepth 100000 in
theorem k_Paths_spread_L58 (l : Launch) {p : Program} {e : Env} {s : State} {m : MethodId} {below : List Frame} {meth : Method} {c : Code} {b n : Nat} {C : CT} (hlo : 191 ≤ n) (k1 : Nat) (hk1 : isTown k1) (F : Cx b p m c b_Paths_spread 7 s ([.ref (b + 185), .ref (b + k1)] : List Value).toArray "WardFalls$Paths" C n 191) (hlk : meth.locks = false) (hr : meth.sig.returnType = some .boolean) {res : Mem × Int} (bk4 : Mem → Int → Int → Option (Mem × Int)) (hbk4 : ∀ (M : Mem) (v2_ : Int) (hv2_ : v2_ = 0 ∨ v2_ = 1) (v3_ : Int) (hv3_ : InR v3_) (H : Heap) (locs : List Loc) (ls : Array Slot), St b C n M s H locs → lv_has ls 7 [(0, .ref (b + 185)), (1, .ref (b + k1)), (2, vI v2_), (3, vI v3_)] → bk4 M v2_ v3_ = some res → W p l e (headSpec (wsM y_Paths_spread b_Paths_spread 7 (some .boolean)) (rmD 3)).room s m ([.ref (b + 185), .ref (b + k1)] : List Value).toArray below meth c H locs 0 0 (MQ below (QZ b C n res.1 res.2) ([.ref (b + 185), .ref (b + k1)] : List Value).toArray s 0 0 (frb b)) (F0 m 4 ls [])) (bk15 : Mem → Int → Int → Int → Option (Mem × Int)) (hbk15 : ∀ (M : Mem) (v2_ : Int) (hv2_ : v2_ = 0 ∨ v2_ = 1) (v3_ : Int) (hv3_ : InR v3_) (v4_ : Int) (hv4_ : InR v4_) (H : Heap) (locs : List Loc) (ls : Array Slot), St b C n M s H locs → lv_has ls 7 [(0, .ref (b + 185)), (1, .ref (b + k1)), (2, vI v2_), (3, vI v3_), (4, vI v4_)] → bk15 M v2_ v3_ v4_ = some res → W p l e (headSpec (wsM y_Paths_spread b_Paths_spread 7 (some .boolean)) (rmD 3)).room s m ([.ref (b + 185), .ref (b + k1)] : List Value).toArray below meth c H locs 0 0 (MQ below (QZ b C n res.1 res.2) ([.ref (b + 185), .ref (b + k1)] : List Value).toArray s 0 0 (frb b)) (F0 m 15 ls [])) (M : Mem) (v2_ : Int) (hv2_ : InR v2_) (v3_ : Int) (hv3_ : InR v3_) (v4_ : Int) (hv4_ : InR v4_) (H : Heap) (locs : List Loc) (ls : Array Slot) (hS : St b C n M s H locs) (hl : lv_has ls 7 [(0, .ref (b + 185)), (1, .ref (b + k1)), (3, vI v2_), (4, vI v3_), (5, vI v4_)]) (hT : t_Paths_spread_L58 k1 bk4 bk15 M v2_ v3_ v4_ = some res) : W p l e (headSpec (wsM y_Paths_spread b_Paths_spread 7 (some .boolean)) (rmD 3)).room s m ([.ref (b + 185), .ref (b + k1)] : List Value).toArray below meth c H locs 0 0 (MQ below (QZ b C n res.1 res.2) ([.ref (b + 185), .ref (b + k1)] : List Value).toArray s 0 0 (frb b)) (F0 m 58 ls []) := by
  unfold t_Paths_spread_L58 at hT
  refine lv_aload_n F.hx F.hb d_Paths_spread_58 rfl (lv_at hl 0 rfl) ?_
  refine r_get (v := .ref (b + 187)) (N := 5) (T := T7) (j := 1) F hS (show 185 < 191 by decide) (show shK 185 = 11 from rfl) (show shN 185 = 5 from rfl) rfl (Nat.le_of_ble_eq_true rfl) ing7 mw_476 (fv_sg rfl rfl rfl) d_Paths_spread_59 ?_
  refine lv_iload_n F.hx F.hb d_Paths_spread_62 rfl (lv_at hl 2 rfl) ?_
  refine lv_iload F.hx F.hb d_Paths_spread_63 (lv_at hl 4 rfl) ?_
  obtain ⟨q11, hq11⟩ : ∃ q, q = (t_WF_put M 187 48 v2_ v4_) := ⟨_, rfl⟩
  replace hT := qlet_eq hT hq11
  refine r_backV F hS (r_runSN (As := [.ref (b + 187), vI v2_, vI v4_]) F hS (c_WF_put l F.2.2.1 M 187 48 v2_ v4_ (show arrP 0 187 48 191 from ⟨rfl, rfl, by decide⟩) hv2_ hv4_ _ hq11.symm) mw_512 mw_511 mw_1 gs_Paths_34 hd_WF_put ⟨Nat.le_of_ble_eq_true rfl, Nat.le_of_ble_eq_true rfl⟩ rfl hl.1 (Nat.le_of_ble_eq_true rfl) ⟨Nat.zero_le _, Nat.zero_le _⟩ rfl d_Paths_spread_65) (fun H locs hS => ?_)
  refine r_iconst F.hx F.hb d_Paths_spread_68 ?_
  refine lv_istore_n (lv' := [(2, vI 1), (0, .ref (b + 185)), (1, .ref (b + k1)), (3, vI v2_), (4, vI v3_), (5, vI v4_)]) F.hx F.hb d_Paths_spread_69 rfl hl (Nat.le_of_ble_eq_true rfl) rfl (fun ls hl => ?_)
  exact k_Paths_spread_L70 l hlo k1 hk1 F hlk hr bk4 hbk4 bk15 hbk15 q11 1 (Or.inr rfl) v2_ hv2_ v3_ hv3_ _ _ _ hS (lv_sub hl [1, 2, 0, 3, 4] rfl) hT
set_option maxHeartbeats 4000000 in
set_option maxRecDepth 100000 in
theorem k_Paths_spread_L15 (l : Launch) {p : Program} {e : Env} {s : State} {m : MethodId} {below : List Frame} {meth : Method} {c : Code} {b n : Nat} {C : CT} (hlo : 191 ≤ n) (k1 : Nat) (hk1 : isTown k1) (F : Cx b p m c b_Paths_spread 7 s ([.ref (b + 185), .ref (b + k1)] : List Value).toArray "WardFalls$Paths" C n 191) (hlk : meth.locks = false) (hr : meth.sig.returnType = some .boolean) {res : Mem × Int} (bk4 : Mem → Int → Int → Option (Mem × Int)) (hbk4 : ∀ (M : Mem) (v2_ : Int) (hv2_ : v2_ = 0 ∨ v2_ = 1) (v3_ : Int) (hv3_ : InR v3_) (H : Heap) (locs : List Loc) (ls : Array Slot), St b C n M s H locs → lv_has ls 7 [(0, .ref (b + 185)), (1, .ref (b + k1)), (2, vI v2_), (3, vI v3_)] → bk4 M v2_ v3_ = some res → W p l e (headSpec (wsM y_Paths_spread b_Paths_spread 7 (some .boolean)) (rmD 3)).room s m ([.ref (b + 185), .ref (b + k1)] : List Value).toArray below meth c H locs 0 0 (MQ below (QZ b C n res.1 res.2) ([.ref (b + 185), .ref (b + k1)] : List Value).toArray s 0 0 (frb b)) (F0 m 4 ls [])) : ∀ (fu : Nat) (M : Mem) (v2_ : Int) (hv2_ : v2_ = 0 ∨ v2_ = 1) (v3_ : Int) (hv3_ : InR v3_) (v4_ : Int) (hv4_ : InR v4_) (H : Heap) (locs : List Loc) (ls : Array Slot), St b C n M s H locs → lv_has ls 7 [(0, .ref (b + 185)), (1, .ref (b + k1)), (2, vI v2_), (3, vI v3_), (4, vI v4_)] → t_Paths_spread_L15 k1 bk4 fu M v2_ v3_ v4_ = some res → W p l e (headSpec (wsM y_Paths_spread b_Paths_spread 7 (some .boolean)) (rmD 3)).room s m ([.ref (b + 185), .ref (b + k1)] : List Value).toArray below meth c H locs 0 0 (MQ below (QZ b C n res.1 res.2) ([.ref (b + 185), .ref (b + k1)] : List Value).toArray s 0 0 (frb b)) (F0 m 15 ls []) := by
  intro fu
  induction fu with
  | zero => intro M v2_ hv2_ v3_ hv3_ v4_ hv4_ H locs ls hS hl hT; exact absurd hT (by simp [t_Paths_spread_L15])
  | succ fu ih =>
    intro M v2_ hv2_ v3_ hv3_ v4_ hv4_ H locs ls hS hl hT
    rw [t_Paths_spread_L15] at hT
    refine lv_iload F.hx F.hb d_Paths_spread_15 (lv_at hl 4 rfl) ?_
    refine r_iconst F.hx F.hb d_Paths_spread_17 ?_
    refine r_icmp_ge (tgt := 76) F.hx F.hb hv4_ (inr_c rfl) d_Paths_spread_18 (by decide) (fun c3 => ?_) (fun c3 => ?_)
    · replace hT := (if_pos c3).symm.trans hT
      refine lv_iinc (v := Int32.ofInt (w32 (v3_ + 1))) (lv' := [(3, vI (w32 (v3_ + 1))), (0, .ref (b + 185)), (1, .ref (b + k1)), (2, vI v2_), (4, vI v4_)]) F.hx F.hb d_Paths_spread_76 hl (k := 3) rfl (q_of_add _ _) (Nat.le_of_ble_eq_true rfl) rfl (fun ls hl => ?_)
      refine lv_goto (tgt := 4) F.hx F.hb d_Paths_spread_79 (by decide) ?_
      exact hbk4 M v2_ hv2_ (w32 (v3_ + 1)) (inr_w32 _) _ _ _ hS (lv_sub hl [1, 2, 3, 0] rfl) hT
    · replace hT := (if_neg c3).symm.trans hT
      refine lv_aload_n F.hx F.hb d_Paths_spread_21 rfl (lv_at hl 0 rfl) ?_
      refine lv_aload_n F.hx F.hb d_Paths_spread_22 rfl (lv_at hl 1 rfl) ?_
      refine lv_iload_n F.hx F.hb d_Paths_spread_23 rfl (lv_at hl 3 rfl) ?_
      refine lv_iload F.hx F.hb d_Paths_spread_24 (lv_at hl 4 rfl) ?_
      obtain ⟨q4, hq4⟩ : ∃ q, q = (t_Paths_leftBy M k1 v3_ v4_) := ⟨_, rfl⟩
      replace hT := qlet_eq hT hq4
      refine r_backI F hS (r_runV (k := 185) (N := 5) (T := T7) (As := [.ref (b + k1), vI v3_, vI v4_]) F hS (show 185 < 191 by decide) (show shK 185 = 11 from rfl) rfl (c_Paths_leftBy l F.2.2.1 M k1 v3_ v4_ hk1 hv3_ hv4_ _ hq4.symm) gs_Paths_84 hd_Paths_leftBy ⟨Nat.le_of_ble_eq_true rfl, Nat.le_of_ble_eq_true rfl⟩ rfl hl.1 (Nat.le_of_ble_eq_true rfl) ⟨Nat.zero_le _, Nat.zero_le _⟩ rfl d_Paths_spread_26) (fun H locs hS h5 => ?_)
      refine lv_istore (lv' := [(5, vI q4), (0, .ref (b + 185)), (1, .ref (b + k1)), (2, vI v2_), (3, vI v3_), (4, vI v4_)]) F.hx F.hb d_Paths_spread_29 hl (Nat.le_of_ble_eq_true rfl) rfl (fun ls hl => ?_)
      refine lv_aload_n F.hx F.hb d_Paths_spread_31 rfl (lv_at hl 1 rfl) ?_
      refine r_get (v := .ref (b + 187)) (N := 5) (T := T7) (j := 1) F hS (show 185 < 191 by decide) (show shK 185 = 11 from rfl) (show shN 185 = 5 from rfl) rfl (Nat.le_of_ble_eq_true rfl) ing7 mw_476 (fv_sg rfl rfl rfl) d_Paths_spread_32 ?_
      refine lv_iload_n F.hx F.hb d_Paths_spread_35 rfl (lv_at hl 4 rfl) ?_
      obtain ⟨q6, hq6⟩ : ∃ q, q = (t_WF_look M 187 48 v3_) := ⟨_, rfl⟩
      replace hT := qlet_eq hT hq6
      refine r_backI F hS (r_runSN (As := [.ref (b + 187), vI v3_]) F hS (c_WF_look l F.2.2.1 M 187 48 v3_ (show arrP 0 187 48 191 from ⟨rfl, rfl, by decide⟩) hv3_ _ hq6.symm) mw_519 mw_518 mw_1 gs_Paths_45 hd_WF_look ⟨Nat.le_of_ble_eq_true rfl, Nat.le_of_ble_eq_true rfl⟩ rfl hl.1 (Nat.le_of_ble_eq_true rfl) ⟨Nat.zero_le _, Nat.zero_le _⟩ rfl d_Paths_spread_36) (fun H locs hS h7 => ?_)
      refine lv_istore (lv' := [(6, vI q6), (5, vI q4), (0, .ref (b + 185)), (1, .ref (b + k1)), (2, vI v2_), (3, vI v3_), (4, vI v4_)]) F.hx F.hb d_Paths_spread_39 hl (Nat.le_of_ble_eq_true rfl) rfl (fun ls hl => ?_)
      refine lv_iload F.hx F.hb d_Paths_spread_41 (lv_at hl 1 rfl) ?_
      refine r_if_lt (tgt := 70) F.hx F.hb h5 d_Paths_spread_43 (by decide) (fun c8 => ?_) (fun c8 => ?_)
      · replace hT := (if_pos c8).symm.trans hT
        exact k_Paths_spread_L70 l hlo k1 hk1 F hlk hr bk4 hbk4 (fun a0_ a1_ a2_ a3_ => t_Paths_spread_L15 k1 bk4 fu a0_ a1_ a2_ a3_) ih M v2_ hv2_ v3_ hv3_ v4_ hv4_ _ _ _ hS (lv_sub hl [2, 3, 4, 5, 6] rfl) hT
      · replace hT := (if_neg c8).symm.trans hT
        refine lv_iload F.hx F.hb d_Paths_spread_46 (lv_at hl 0 rfl) ?_
        refine r_if_lt (tgt := 58) F.hx F.hb h7 d_Paths_spread_48 (by decide) (fun c9 => ?_) (fun c9 => ?_)
        · replace hT := (if_pos c9).symm.trans hT
          exact k_Paths_spread_L58 l hlo k1 hk1 F hlk hr bk4 hbk4 (fun a0_ a1_ a2_ a3_ => t_Paths_spread_L15 k1 bk4 fu a0_ a1_ a2_ a3_) ih M v3_ hv3_ v4_ hv4_ q4 h5 _ _ _ hS (lv_sub hl [2, 3, 5, 6, 1] rfl) hT
        · replace hT := (if_neg c9).symm.trans hT
          refine lv_iload F.hx F.hb d_Paths_spread_51 (lv_at hl 1 rfl) ?_
          refine lv_iload F.hx F.hb d_Paths_spread_53 (lv_at hl 0 rfl) ?_
          refine r_icmp_ge (tgt := 70) F.hx F.hb h5 h7 d_Paths_spread_55 (by decide) (fun c10 => ?_) (fun c10 => ?_)
          · replace hT := (if_pos c10).symm.trans hT
            exact k_Paths_spread_L70 l hlo k1 hk1 F hlk hr bk4 hbk4 (fun a0_ a1_ a2_ a3_ => t_Paths_spread_L15 k1 bk4 fu a0_ a1_ a2_ a3_) ih M v2_ hv2_ v3_ hv3_ v4_ hv4_ _ _ _ hS (lv_sub hl [2, 3, 4, 5, 6] rfl) hT
          · replace hT := (if_neg c10).symm.trans hT
            exact k_Paths_spread_L58 l hlo k1 hk1 F hlk hr bk4 hbk4 (fun a0_ a1_ a2_ a3_ => t_Paths_spread_L15 k1 bk4 fu a0_ a1_ a2_ a3_) ih M v3_ hv3_ v4_ hv4_ q4 h5 _ _ _ hS (lv_sub hl [2, 3, 5, 6, 1] rfl) hT
set_option maxHeartbeats 4000000 in
set_option maxRecDepth 100000 in
theorem k_Paths_spread_L4 (l : Launch) {p : Program} {e : Env} {s : State} {m : MethodId} {below : List Frame} {meth : Method} {c : Code} {b n : Nat} {C : CT} (hlo : 191 ≤ n) (k1 : Nat) (hk1 : isTown k1) (F : Cx b p m c b_Paths_spread 7 s ([.ref (b + 185), .ref (b + k1)] : List Value).toArray "WardFalls$Paths" C n 191) (hlk : meth.locks = false) (hr : meth.sig.returnType = some .boolean) {res : Mem × Int} : ∀ (fu : Nat) (M : Mem) (v2_ : Int) (hv2_ : v2_ = 0 ∨ v2_ = 1) (v3_ : Int) (hv3_ : InR v3_) (H : Heap) (locs : List Loc) (ls : Array Slot), St b C n M s H locs → lv_has ls 7 [(0, .ref (b + 185)), (1, .ref (b + k1)), (2, vI v2_), (3, vI v3_)] → t_Paths_spread_L4 k1 fu M v2_ v3_ = some res → W p l e (headSpec (wsM y_Paths_spread b_Paths_spread 7 (some .boolean)) (rmD 3)).room s m ([.ref (b + 185), .ref (b + k1)] : List Value).toArray below meth c H locs 0 0 (MQ below (QZ b C n res.1 res.2) ([.ref (b + 185), .ref (b + k1)] : List Value).toArray s 0 0 (frb b)) (F0 m 4 ls []) := by
  intro fu
  induction fu with
  | zero => intro M v2_ hv2_ v3_ hv3_ H locs ls hS hl hT; exact absurd hT (by simp [t_Paths_spread_L4])
  | succ fu ih =>
    intro M v2_ hv2_ v3_ hv3_ H locs ls hS hl hT
    rw [t_Paths_spread_L4] at hT
    refine lv_iload_n F.hx F.hb d_Paths_spread_4 rfl (lv_at hl 3 rfl) ?_
    refine lv_aload_n F.hx F.hb d_Paths_spread_5 rfl (lv_at hl 1 rfl) ?_
    refine r_get (v := vI (M.1 k1 13)) (N := 20) (T := T11) (j := 13) F hS (Town_lt hk1) (Town_sh hk1) (Town_N hk1) rfl (Nat.le_of_ble_eq_true rfl) ing11 mw_127 (fv_int rfl) d_Paths_spread_6 ?_
    have i1 := hS.rng k1 13
    refine r_icmp_ge (tgt := 82) F.hx F.hb hv3_ i1 d_Paths_spread_9 (by decide) (fun c2 => ?_) (fun c2 => ?_)
    · replace hT := (if_pos c2).symm.trans hT
      refine lv_iload_n F.hx F.hb d_Paths_spread_82 rfl (lv_at hl 2 rfl) ?_
      cases hT
      exact r_zret F hlk hr hS hv2_ d_Paths_spread_83
    · replace hT := (if_neg c2).symm.trans hT
      refine r_iconst F.hx F.hb d_Paths_spread_12 ?_
      refine lv_istore (lv' := [(4, vI 0), (0, .ref (b + 185)), (1, .ref (b + k1)), (2, vI v2_), (3, vI v3_)]) F.hx F.hb d_Paths_spread_13 hl (Nat.le_of_ble_eq_true rfl) rfl (fun ls hl => ?_)
      exact k_Paths_spread_L15 l hlo k1 hk1 F hlk hr (fun a0_ a1_ a2_ => t_Paths_spread_L4 k1 fu a0_ a1_ a2_) ih FU M v2_ hv2_ v3_ hv3_ 0 (inr_c rfl) _ _ _ hS (lv_sub hl [1, 2, 3, 4, 0] rfl) hT
set_option maxHeartbeats 4000000 in
set_option maxRecDepth 100000 in
theorem c_Paths_spread (l : Launch) {b n : Nat} {C : CT} (hlo : 191 ≤ n) (M : Mem) (k1 : Nat) (hk1 : isTown k1) (res : Mem × Int) (hT : t_Paths_spread M k1 = some res) : CM l b C n 3 y_Paths_spread b_Paths_spread 7 (some .boolean) [.ref (b + 185), .ref (b + k1)] M (QZ b C n res.1 res.2) := by
  refine CM.of (lo := 191) (ow := "WardFalls$Paths") (by decide) rfl (Nat.le_of_ble_eq_true rfl) hlo (fun p e s m below meth c F hlk hr hS ls hl => ?_)
  have hl : lv_has ls 7 [(0, .ref (b + 185)), (1, .ref (b + k1))] := hl
  unfold t_Paths_spread at hT
  refine r_iconst F.hx F.hb d_Paths_spread_0 ?_
  refine lv_istore_n (lv' := [(2, vI 0), (0, .ref (b + 185)), (1, .ref (b + k1))]) F.hx F.hb d_Paths_spread_1 rfl hl (Nat.le_of_ble_eq_true rfl) rfl (fun ls hl => ?_)
  refine r_iconst F.hx F.hb d_Paths_spread_2 ?_
  refine lv_istore_n (lv' := [(3, vI 0), (2, vI 0), (0, .ref (b + 185)), (1, .ref (b + k1))]) F.hx F.hb d_Paths_spread_3 rfl hl (Nat.le_of_ble_eq_true rfl) rfl (fun ls hl => ?_)
  exact k_Paths_spread_L4 l hlo k1 hk1 F hlk hr FU M 0 (Or.inl rfl) 0 (inr_c rfl) _ _ _ hS (lv_sub hl [2, 3, 1, 0] rfl) hT
theorem d_Paths_trace_0 : decode b_Paths_trace 0 = .ok (.iload_n 2, 1) := dc_28 (by decide +kernel)
theorem d_Paths_trace_1 : decode b_Paths_trace 1 = .ok (.istore_n 3, 1) := dc_62 (by decide +kernel)
theorem d_Paths_trace_2 : decode b_Paths_trace 2 = .ok (.iconst 0, 1) := dc_3 (by decide +kernel)
theorem d_Paths_trace_3 : decode b_Paths_trace 3 = .ok (.istore 4, 2) := dc_54 (by decide +kernel)
theorem d_Paths_trace_5 : decode b_Paths_trace 5 = .ok (.iload 4, 2) := dc_21 (by decide +kernel)
theorem d_Paths_trace_7 : decode b_Paths_trace 7 = .ok (.bipush 48, 2) := dc_16 (by decide +kernel)
theorem d_Paths_trace_9 : decode b_Paths_trace 9 = .ok (.if_icmp .ge 81, 3) := dc_162 (by decide +kernel)
theorem d_Paths_trace_12 : decode b_Paths_trace 12 = .ok (.aload_n 0, 1) := dc_42 (by decide +kernel)
theorem d_Paths_trace_13 : decode b_Paths_trace 13 = .ok (.getfield 18, 3) := dc_180 (by decide +kernel)
theorem d_Paths_trace_16 : decode b_Paths_trace 16 = .ok (.iload 4, 2) := dc_21 (by decide +kernel)
theorem d_Paths_trace_18 : decode b_Paths_trace 18 = .ok (.iload_n 3, 1) := dc_29 (by decide +kernel)
theorem d_Paths_trace_19 : decode b_Paths_trace 19 = .ok (.invokestatic 34, 3) := dc_184 (by decide +kernel)
theorem d_Paths_trace_22 : decode b_Paths_trace 22 = .ok (.aload_n 0, 1) := dc_42 (by decide +kernel)
theorem d_Paths_trace_23 : decode b_Paths_trace 23 = .ok (.iload 4, 2) := dc_21 (by decide +kernel)
theorem d_Paths_trace_25 : decode b_Paths_trace 25 = .ok (.iconst 1, 1) := dc_4 (by decide +kernel)
theorem d_Paths_trace_26 : decode b_Paths_trace 26 = .ok (.iadd, 1) := dc_96 (by decide +kernel)
theorem d_Paths_trace_27 : decode b_Paths_trace 27 = .ok (.putfield 42, 3) := dc_181 (by decide +kernel)
theorem d_Paths_trace_30 : decode b_Paths_trace 30 = .ok (.aload_n 0, 1) := dc_42 (by decide +kernel)
theorem d_Paths_trace_31 : decode b_Paths_trace 31 = .ok (.getfield 15, 3) := dc_180 (by decide +kernel)
theorem d_Paths_trace_34 : decode b_Paths_trace 34 = .ok (.iload_n 3, 1) := dc_29 (by decide +kernel)
theorem d_Paths_trace_35 : decode b_Paths_trace 35 = .ok (.invokestatic 45, 3) := dc_184 (by decide +kernel)
theorem d_Paths_trace_38 : decode b_Paths_trace 38 = .ok (.ifCond .ne 4, 3) := dc_154 (by decide +kernel)
theorem d_Paths_trace_41 : decode b_Paths_trace 41 = .ok (.return_, 1) := dc_177 (by decide +kernel)
theorem d_Paths_trace_42 : decode b_Paths_trace 42 = .ok (.iconst 0, 1) := dc_3 (by decide +kernel)
theorem d_Paths_trace_43 : decode b_Paths_trace 43 = .ok (.istore 5, 2) := dc_54 (by decide +kernel)
theorem d_Paths_trace_45 : decode b_Paths_trace 45 = .ok (.iload 5, 2) := dc_21 (by decide +kernel)
theorem d_Paths_trace_47 : decode b_Paths_trace 47 = .ok (.iconst 3, 1) := dc_6 (by decide +kernel)
theorem d_Paths_trace_48 : decode b_Paths_trace 48 = .ok (.if_icmp .ge 28, 3) := dc_162 (by decide +kernel)
theorem d_Paths_trace_51 : decode b_Paths_trace 51 = .ok (.aload_n 0, 1) := dc_42 (by decide +kernel)
theorem d_Paths_trace_52 : decode b_Paths_trace 52 = .ok (.aload_n 1, 1) := dc_43 (by decide +kernel)
theorem d_Paths_trace_53 : decode b_Paths_trace 53 = .ok (.iload_n 3, 1) := dc_29 (by decide +kernel)
theorem d_Paths_trace_54 : decode b_Paths_trace 54 = .ok (.iload 5, 2) := dc_21 (by decide +kernel)
theorem d_Paths_trace_56 : decode b_Paths_trace 56 = .ok (.invokevirtual 84, 3) := dc_182 (by decide +kernel)
theorem d_Paths_trace_59 : decode b_Paths_trace 59 = .ok (.aload_n 0, 1) := dc_42 (by decide +kernel)
theorem d_Paths_trace_60 : decode b_Paths_trace 60 = .ok (.getfield 15, 3) := dc_180 (by decide +kernel)
theorem d_Paths_trace_63 : decode b_Paths_trace 63 = .ok (.iload_n 3, 1) := dc_29 (by decide +kernel)
theorem d_Paths_trace_64 : decode b_Paths_trace 64 = .ok (.invokestatic 45, 3) := dc_184 (by decide +kernel)
theorem d_Paths_trace_67 : decode b_Paths_trace 67 = .ok (.if_icmp .eq 9, 3) := dc_159 (by decide +kernel)
theorem d_Paths_trace_70 : decode b_Paths_trace 70 = .ok (.iinc 5 1, 3) := dc_132 (by decide +kernel)
theorem d_Paths_trace_73 : decode b_Paths_trace 73 = .ok (.goto (-28), 3) := dc_167 (by decide +kernel)
theorem d_Paths_trace_76 : decode b_Paths_trace 76 = .ok (.aload_n 1, 1) := dc_43 (by decide +kernel)
theorem d_Paths_trace_77 : decode b_Paths_trace 77 = .ok (.iload_n 3, 1) := dc_29 (by decide +kernel)
theorem d_Paths_trace_78 : decode b_Paths_trace 78 = .ok (.iload 5, 2) := dc_21 (by decide +kernel)
theorem d_Paths_trace_80 : decode b_Paths_trace 80 = .ok (.invokevirtual 26, 3) := dc_182 (by decide +kernel)
theorem d_Paths_trace_83 : decode b_Paths_trace 83 = .ok (.istore_n 3, 1) := dc_62 (by decide +kernel)
theorem d_Paths_trace_84 : decode b_Paths_trace 84 = .ok (.iinc 4 1, 3) := dc_132 (by decide +kernel)
theorem d_Paths_trace_87 : decode b_Paths_trace 87 = .ok (.goto (-82), 3) := dc_167 (by decide +kernel)
theorem d_Paths_trace_90 : decode b_Paths_trace 90 = .ok (.return_, 1) := dc_177 (by decide +kernel)
def t_Paths_trace_L76 (k1 : Nat) (x2 : Int) (bk5 : Mem → Int → Int → Option (Mem)) (M : Mem) (v2_ : Int) (v3_ : Int) (v4_ : Int) : Option (Mem) := (qlet (t_Town_beside M k1 v2_ v4_) fun q14 => (bk5 M q14 (w32 (v3_ + 1))))
def t_Paths_trace_L45 (k1 : Nat) (x2 : Int) (bk5 : Mem → Int → Int → Option (Mem)) : Nat → Mem → Int → Int → Int → Option (Mem)
  | 0, _, _, _, _ => none
  | fu + 1, M, v2_, v3_, v4_ => (if 3 ≤ v4_ then (t_Paths_trace_L76 k1 x2 bk5 M v2_ v3_ v4_) else (qlet (t_Paths_leftBy M k1 v2_ v4_) fun q9 => (qlet (t_WF_look M 187 48 v2_) fun q11 => (if q9 = q11 then (t_Paths_trace_L76 k1 x2 bk5 M v2_ v3_ v4_) else (t_Paths_trace_L45 k1 x2 bk5 fu M v2_ v3_ (w32 (v4_ + 1)))))))
def t_Paths_trace_L5 (k1 : Nat) (x2 : Int)  : Nat → Mem → Int → Int → Option (Mem)
  | 0, _, _, _ => none
  | fu + 1, M, v2_, v3_ => (if 48 ≤ v3_ then (some M) else (qlet (t_WF_put M 188 48 v3_ v2_) fun q2 => (qlet (setI q2 185 3 (w32 (v3_ + 1))) fun M4 => (qlet (t_WF_look M4 187 48 v2_) fun q5 => (if q5 = 0 then (some M4) else (t_Paths_trace_L45 k1 x2 (fun a0_ a1_ a2_ => t_Paths_trace_L5 k1 x2 fu a0_ a1_ a2_) FU M4 v2_ v3_ 0))))))
def t_Paths_trace (M : Mem) (k1 : Nat) (x2 : Int) : Option (Mem) := (t_Paths_trace_L5 k1 x2 FU M x2 0)
set_option maxHeartbeats 4000000 in
set_option maxRecDepth 100000 in
theorem k_Paths_trace_L76 (l : Launch) {p : Program} {e : Env} {s : State} {m : MethodId} {below : List Frame} {meth : Method} {c : Code} {b n : Nat} {C : CT} (hlo : 191 ≤ n) (k1 : Nat) (x2 : Int) (hk1 : isTown k1) (hx2 : InR x2) (F : Cx b p m c b_Paths_trace 6 s ([.ref (b + 185), .ref (b + k1), vI x2] : List Value).toArray "WardFalls$Paths" C n 191) (hlk : meth.locks = false) (hr : meth.sig.returnType = none) {res : Mem} (bk5 : Mem → Int → Int → Option (Mem)) (hbk5 : ∀ (M : Mem) (v2_ : Int) (hv2_ : InR v2_) (v3_ : Int) (hv3_ : InR v3_) (H : Heap) (locs : List Loc) (ls : Array Slot), St b C n M s H locs → lv_has ls 6 [(0, .ref (b + 185)), (1, .ref (b + k1)), (3, vI v2_), (4, vI v3_)] → bk5 M v2_ v3_ = some res → W p l e (headSpec (wsM y_Paths_trace b_Paths_trace 6 (none)) (rmD 3)).room s m ([.ref (b + 185), .ref (b + k1), vI x2] : List Value).toArray below meth c H locs 0 0 (MQ below (QV b C n res) ([.ref (b + 185), .ref (b + k1), vI x2] : List Value).toArray s 0 0 (frb b)) (F0 m 5 ls [])) (M : Mem) (v2_ : Int) (hv2_ : InR v2_) (v3_ : Int) (hv3_ : InR v3_) (v4_ : Int) (hv4_ : InR v4_) (H : Heap) (locs : List Loc) (ls : Array Slot) (hS : St b C n M s H locs) (hl : lv_has ls 6 [(0, .ref (b + 185)), (1, .ref (b + k1)), (3, vI v2_), (4, vI v3_), (5, vI v4_)]) (hT : t_Paths_trace_L76 k1 x2 bk5 M v2_ v3_ v4_ = some res) : W p l e (headSpec (wsM y_Paths_trace b_Paths_trace 6 (none)) (rmD 3)).room s m ([.ref (b + 185), .ref (b + k1), vI x2] : List Value).toArray below meth c H locs 0 0 (MQ below (QV b C n res) ([.ref (b + 185), .ref (b + k1), vI x2] : List Value).toArray s 0 0 (frb b)) (F0 m 76 ls []) := by
  unfold t_Paths_trace_L76 at hT
  refine lv_aload_n F.hx F.hb d_Paths_trace_76 rfl (lv_at hl 1 rfl) ?_
  refine lv_iload_n F.hx F.hb d_Paths_trace_77 rfl (lv_at hl 2 rfl) ?_
  refine lv_iload F.hx F.hb d_Paths_trace_78 (lv_at hl 4 rfl) ?_
  obtain ⟨q14, hq14⟩ : ∃ q, q = (t_Town_beside M k1 v2_ v4_) := ⟨_, rfl⟩
  replace hT := qlet_eq hT hq14
  refine r_backI F hS (r_runV (k := k1) (N := 20) (T := T11) (As := [vI v2_, vI v4_]) F hS (Town_lt hk1) (Town_sh hk1) rfl (c_Town_beside l F.2.2.1 M k1 v2_ v4_ hk1 hv2_ hv4_ _ hq14.symm) gs_Paths_26 hd_Town_beside ⟨Nat.le_of_ble_eq_true rfl, Nat.le_of_ble_eq_true rfl⟩ rfl hl.1 (Nat.le_of_ble_eq_true rfl) ⟨Nat.zero_le _, Nat.zero_le _⟩ rfl d_Paths_trace_80) (fun H locs hS h15 => ?_)
  refine lv_istore_n (lv' := [(3, vI q14), (0, .ref (b + 185)), (1, .ref (b + k1)), (4, vI v3_), (5, vI v4_)]) F.hx F.hb d_Paths_trace_83 rfl hl (Nat.le_of_ble_eq_true rfl) rfl (fun ls hl => ?_)
  refine lv_iinc (v := Int32.ofInt (w32 (v3_ + 1))) (lv' := [(4, vI (w32 (v3_ + 1))), (3, vI q14), (0, .ref (b + 185)), (1, .ref (b + k1)), (5, vI v4_)]) F.hx F.hb d_Paths_trace_84 hl (k := 3) rfl (q_of_add _ _) (Nat.le_of_ble_eq_true rfl) rfl (fun ls hl => ?_)
  refine lv_goto (tgt := 5) F.hx F.hb d_Paths_trace_87 (by decide) ?_
  exact hbk5 M q14 h15 (w32 (v3_ + 1)) (inr_w32 _) _ _ _ hS (lv_sub hl [2, 3, 1, 0] rfl) hT
set_option maxHeartbeats 4000000 in
set_option maxRecDepth 100000 in
theorem k_Paths_trace_L45 (l : Launch) {p : Program} {e : Env} {s : State} {m : MethodId} {below : List Frame} {meth : Method} {c : Code} {b n : Nat} {C : CT} (hlo : 191 ≤ n) (k1 : Nat) (x2 : Int) (hk1 : isTown k1) (hx2 : InR x2) (F : Cx b p m c b_Paths_trace 6 s ([.ref (b + 185), .ref (b + k1), vI x2] : List Value).toArray "WardFalls$Paths" C n 191) (hlk : meth.locks = false) (hr : meth.sig.returnType = none) {res : Mem} (bk5 : Mem → Int → Int → Option (Mem)) (hbk5 : ∀ (M : Mem) (v2_ : Int) (hv2_ : InR v2_) (v3_ : Int) (hv3_ : InR v3_) (H : Heap) (locs : List Loc) (ls : Array Slot), St b C n M s H locs → lv_has ls 6 [(0, .ref (b + 185)), (1, .ref (b + k1)), (3, vI v2_), (4, vI v3_)] → bk5 M v2_ v3_ = some res → W p l e (headSpec (wsM y_Paths_trace b_Paths_trace 6 (none)) (rmD 3)).room s m ([.ref (b + 185), .ref (b + k1), vI x2] : List Value).toArray below meth c H locs 0 0 (MQ below (QV b C n res) ([.ref (b + 185), .ref (b + k1), vI x2] : List Value).toArray s 0 0 (frb b)) (F0 m 5 ls [])) : ∀ (fu : Nat) (M : Mem) (v2_ : Int) (hv2_ : InR v2_) (v3_ : Int) (hv3_ : InR v3_) (v4_ : Int) (hv4_ : InR v4_) (H : Heap) (locs : List Loc) (ls : Array Slot), St b C n M s H locs → lv_has ls 6 [(0, .ref (b + 185)), (1, .ref (b + k1)), (3, vI v2_), (4, vI v3_), (5, vI v4_)] → t_Paths_trace_L45 k1 x2 bk5 fu M v2_ v3_ v4_ = some res → W p l e (headSpec (wsM y_Paths_trace b_Paths_trace 6 (none)) (rmD 3)).room s m ([.ref (b + 185), .ref (b + k1), vI x2] : List Value).toArray below meth c H locs 0 0 (MQ below (QV b C n res) ([.ref (b + 185), .ref (b + k1), vI x2] : List Value).toArray s 0 0 (frb b)) (F0 m 45 ls []) := by
  intro fu
  induction fu with
  | zero => intro M v2_ hv2_ v3_ hv3_ v4_ hv4_ H locs ls hS hl hT; exact absurd hT (by simp [t_Paths_trace_L45])
  | succ fu ih =>
    intro M v2_ hv2_ v3_ hv3_ v4_ hv4_ H locs ls hS hl hT
    rw [t_Paths_trace_L45] at hT
    refine lv_iload F.hx F.hb d_Paths_trace_45 (lv_at hl 4 rfl) ?_
    refine r_iconst F.hx F.hb d_Paths_trace_47 ?_
    refine r_icmp_ge (tgt := 76) F.hx F.hb hv4_ (inr_c rfl) d_Paths_trace_48 (by decide) (fun c8 => ?_) (fun c8 => ?_)
    · replace hT := (if_pos c8).symm.trans hT
      exact k_Paths_trace_L76 l hlo k1 x2 hk1 hx2 F hlk hr bk5 hbk5 M v2_ hv2_ v3_ hv3_ v4_ hv4_ _ _ _ hS (lv_sub hl [0, 1, 2, 3, 4] rfl) hT
    · replace hT := (if_neg c8).symm.trans hT
      refine lv_aload_n F.hx F.hb d_Paths_trace_51 rfl (lv_at hl 0 rfl) ?_
      refine lv_aload_n F.hx F.hb d_Paths_trace_52 rfl (lv_at hl 1 rfl) ?_
      refine lv_iload_n F.hx F.hb d_Paths_trace_53 rfl (lv_at hl 2 rfl) ?_
      refine lv_iload F.hx F.hb d_Paths_trace_54 (lv_at hl 4 rfl) ?_
      obtain ⟨q9, hq9⟩ : ∃ q, q = (t_Paths_leftBy M k1 v2_ v4_) := ⟨_, rfl⟩
      replace hT := qlet_eq hT hq9
      refine r_backI F hS (r_runV (k := 185) (N := 5) (T := T7) (As := [.ref (b + k1), vI v2_, vI v4_]) F hS (show 185 < 191 by decide) (show shK 185 = 11 from rfl) rfl (c_Paths_leftBy l F.2.2.1 M k1 v2_ v4_ hk1 hv2_ hv4_ _ hq9.symm) gs_Paths_84 hd_Paths_leftBy ⟨Nat.le_of_ble_eq_true rfl, Nat.le_of_ble_eq_true rfl⟩ rfl hl.1 (Nat.le_of_ble_eq_true rfl) ⟨Nat.zero_le _, Nat.zero_le _⟩ rfl d_Paths_trace_56) (fun H locs hS h10 => ?_)
      refine lv_aload_n F.hx F.hb d_Paths_trace_59 rfl (lv_at hl 0 rfl) ?_
      refine r_get (v := .ref (b + 187)) (N := 5) (T := T7) (j := 1) F hS (show 185 < 191 by decide) (show shK 185 = 11 from rfl) (show shN 185 = 5 from rfl) rfl (Nat.le_of_ble_eq_true rfl) ing7 mw_476 (fv_sg rfl rfl rfl) d_Paths_trace_60 ?_
      refine lv_iload_n F.hx F.hb d_Paths_trace_63 rfl (lv_at hl 2 rfl) ?_
      obtain ⟨q11, hq11⟩ : ∃ q, q = (t_WF_look M 187 48 v2_) := ⟨_, rfl⟩
      replace hT := qlet_eq hT hq11
      refine r_backI F hS (r_runSN (As := [.ref (b + 187), vI v2_]) F hS (c_WF_look l F.2.2.1 M 187 48 v2_ (show arrP 0 187 48 191 from ⟨rfl, rfl, by decide⟩) hv2_ _ hq11.symm) mw_519 mw_518 mw_1 gs_Paths_45 hd_WF_look ⟨Nat.le_of_ble_eq_true rfl, Nat.le_of_ble_eq_true rfl⟩ rfl hl.1 (Nat.le_of_ble_eq_true rfl) ⟨Nat.zero_le _, Nat.zero_le _⟩ rfl d_Paths_trace_64) (fun H locs hS h12 => ?_)
      refine r_icmp_eq (tgt := 76) F.hx F.hb h10 h12 d_Paths_trace_67 (by decide) (fun c13 => ?_) (fun c13 => ?_)
      · replace hT := (if_pos c13).symm.trans hT
        exact k_Paths_trace_L76 l hlo k1 x2 hk1 hx2 F hlk hr bk5 hbk5 M v2_ hv2_ v3_ hv3_ v4_ hv4_ _ _ _ hS (lv_sub hl [0, 1, 2, 3, 4] rfl) hT
      · replace hT := (if_neg c13).symm.trans hT
        refine lv_iinc (v := Int32.ofInt (w32 (v4_ + 1))) (lv' := [(5, vI (w32 (v4_ + 1))), (0, .ref (b + 185)), (1, .ref (b + k1)), (3, vI v2_), (4, vI v3_)]) F.hx F.hb d_Paths_trace_70 hl (k := 4) rfl (q_of_add _ _) (Nat.le_of_ble_eq_true rfl) rfl (fun ls hl => ?_)
        refine lv_goto (tgt := 45) F.hx F.hb d_Paths_trace_73 (by decide) ?_
        exact ih M v2_ hv2_ v3_ hv3_ (w32 (v4_ + 1)) (inr_w32 _) _ _ _ hS (lv_sub hl [1, 2, 3, 4, 0] rfl) hT
set_option maxHeartbeats 4000000 in
set_option maxRecDepth 100000 in
theorem k_Paths_trace_L5 (l : Launch) {p : Program} {e : Env} {s : State} {m : MethodId} {below : List Frame} {meth : Method} {c : Code} {b n : Nat} {C : CT} (hlo : 191 ≤ n) (k1 : Nat) (x2 : Int) (hk1 : isTown k1) (hx2 : InR x2) (F : Cx b p m c b_Paths_trace 6 s ([.ref (b + 185), .ref (b + k1), vI x2] : List Value).toArray "WardFalls$Paths" C n 191) (hlk : meth.locks = false) (hr : meth.sig.returnType = none) {res : Mem} : ∀ (fu : Nat) (M : Mem) (v2_ : Int) (hv2_ : InR v2_) (v3_ : Int) (hv3_ : InR v3_) (H : Heap) (locs : List Loc) (ls : Array Slot), St b C n M s H locs → lv_has ls 6 [(0, .ref (b + 185)), (1, .ref (b + k1)), (3, vI v2_), (4, vI v3_)] → t_Paths_trace_L5 k1 x2 fu M v2_ v3_ = some res → W p l e (headSpec (wsM y_Paths_trace b_Paths_trace 6 (none)) (rmD 3)).room s m ([.ref (b + 185), .ref (b + k1), vI x2] : List Value).toArray below meth c H locs 0 0 (MQ below (QV b C n res) ([.ref (b + 185), .ref (b + k1), vI x2] : List Value).toArray s 0 0 (frb b)) (F0 m 5 ls []) := by
  intro fu
  induction fu with
  | zero => intro M v2_ hv2_ v3_ hv3_ H locs ls hS hl hT; exact absurd hT (by simp [t_Paths_trace_L5])
  | succ fu ih =>
    intro M v2_ hv2_ v3_ hv3_ H locs ls hS hl hT
    rw [t_Paths_trace_L5] at hT
    refine lv_iload F.hx F.hb d_Paths_trace_5 (lv_at hl 3 rfl) ?_
    refine r_bipush F.hx F.hb d_Paths_trace_7 rfl ?_
    refine r_icmp_ge (tgt := 90) F.hx F.hb hv3_ (inr_c rfl) d_Paths_trace_9 (by decide) (fun c1 => ?_) (fun c1 => ?_)
    · replace hT := (if_pos c1).symm.trans hT
      cases hT
      exact r_vret F hlk hr hS d_Paths_trace_90
    · replace hT := (if_neg c1).symm.trans hT
      refine lv_aload_n F.hx F.hb d_Paths_trace_12 rfl (lv_at hl 0 rfl) ?_
      refine r_get (v := .ref (b + 188)) (N := 5) (T := T7) (j := 2) F hS (show 185 < 191 by decide) (show shK 185 = 11 from rfl) (show shN 185 = 5 from rfl) rfl (Nat.le_of_ble_eq_true rfl) ing7 mw_477 (fv_sg rfl rfl rfl) d_Paths_trace_13 ?_
      refine lv_iload F.hx F.hb d_Paths_trace_16 (lv_at hl 3 rfl) ?_
      refine lv_iload_n F.hx F.hb d_Paths_trace_18 rfl (lv_at hl 2 rfl) ?_
      obtain ⟨q2, hq2⟩ : ∃ q, q = (t_WF_put M 188 48 v3_ v2_) := ⟨_, rfl⟩
      replace hT := qlet_eq hT hq2
      refine r_backV F hS (r_runSN (As := [.ref (b + 188), vI v3_, vI v2_]) F hS (c_WF_put l F.2.2.1 M 188 48 v3_ v2_ (show arrP 0 188 48 191 from ⟨rfl, rfl, by decide⟩) hv3_ hv2_ _ hq2.symm) mw_512 mw_511 mw_1 gs_Paths_34 hd_WF_put ⟨Nat.le_of_ble_eq_true rfl, Nat.le_of_ble_eq_true rfl⟩ rfl hl.1 (Nat.le_of_ble_eq_true rfl) ⟨Nat.zero_le _, Nat.zero_le _⟩ rfl d_Paths_trace_19) (fun H locs hS => ?_)
      refine lv_aload_n F.hx F.hb d_Paths_trace_22 rfl (lv_at hl 0 rfl) ?_
      refine lv_iload F.hx F.hb d_Paths_trace_23 (lv_at hl 3 rfl) ?_
      refine r_iconst F.hx F.hb d_Paths_trace_25 ?_
      refine r_iadd F.hx F.hb d_Paths_trace_26 ?_
      refine r_putI (N := 5) (T := T7) (j := 3) F hS (show 185 < 191 by decide) (show shK 185 = 11 from rfl) (show shN 185 = 5 from rfl) rfl (Nat.le_of_ble_eq_true rfl) ing7 tyok7 nm7 rfl rfl rfl rfl rfl rfl mw_478 (inr_w32 _) d_Paths_trace_27 (fun H locs hS => ?_)
      obtain ⟨M4, eM4⟩ : ∃ q, q = (setI q2 185 3 (w32 (v3_ + 1))) := ⟨_, rfl⟩
      replace hS : St b C n M4 s H locs := by rw [eM4]; exact hS
      replace hT := qlet_eq hT eM4
      refine lv_aload_n F.hx F.hb d_Paths_trace_30 rfl (lv_at hl 0 rfl) ?_
      refine r_get (v := .ref (b + 187)) (N := 5) (T := T7) (j := 1) F hS (show 185 < 191 by decide) (show shK 185 = 11 from rfl) (show shN 185 = 5 from rfl) rfl (Nat.le_of_ble_eq_true rfl) ing7 mw_476 (fv_sg rfl rfl rfl) d_Paths_trace_31 ?_
      refine lv_iload_n F.hx F.hb d_Paths_trace_34 rfl (lv_at hl 2 rfl) ?_
      obtain ⟨q5, hq5⟩ : ∃ q, q = (t_WF_look M4 187 48 v2_) := ⟨_, rfl⟩
      replace hT := qlet_eq hT hq5
      refine r_backI F hS (r_runSN (As := [.ref (b + 187), vI v2_]) F hS (c_WF_look l F.2.2.1 M4 187 48 v2_ (show arrP 0 187 48 191 from ⟨rfl, rfl, by decide⟩) hv2_ _ hq5.symm) mw_519 mw_518 mw_1 gs_Paths_45 hd_WF_look ⟨Nat.le_of_ble_eq_true rfl, Nat.le_of_ble_eq_true rfl⟩ rfl hl.1 (Nat.le_of_ble_eq_true rfl) ⟨Nat.zero_le _, Nat.zero_le _⟩ rfl d_Paths_trace_35) (fun H locs hS h6 => ?_)
      refine r_if_ne (tgt := 42) F.hx F.hb h6 d_Paths_trace_38 (by decide) (fun c7 => ?_) (fun c7 => ?_)
      · replace hT := (if_neg c7).symm.trans hT
        refine r_iconst F.hx F.hb d_Paths_trace_42 ?_
        refine lv_istore (lv' := [(5, vI 0), (0, .ref (b + 185)), (1, .ref (b + k1)), (3, vI v2_), (4, vI v3_)]) F.hx F.hb d_Paths_trace_43 hl (Nat.le_of_ble_eq_true rfl) rfl (fun ls hl => ?_)
        exact k_Paths_trace_L45 l hlo k1 x2 hk1 hx2 F hlk hr (fun a0_ a1_ a2_ => t_Paths_trace_L5 k1 x2 fu a0_ a1_ a2_) ih FU M4 v2_ hv2_ v3_ hv3_ 0 (inr_c rfl) _ _ _ hS (lv_sub hl [1, 2, 3, 4, 0] rfl) hT
      · replace hT := (if_pos c7).symm.trans hT
        cases hT
        exact r_vret F hlk hr hS d_Paths_trace_41
set_option maxHeartbeats 4000000 in
set_option maxRecDepth 100000 in
theorem c_Paths_trace (l : Launch) {b n : Nat} {C : CT} (hlo : 191 ≤ n) (M : Mem) (k1 : Nat) (x2 : Int) (hk1 : isTown k1) (hx2 : InR x2) (res : Mem) (hT : t_Paths_trace M k1 x2 = some res) : CM l b C n 3 y_Paths_trace b_Paths_trace 6 (none) [.ref (b + 185), .ref (b + k1), vI x2] M (QV b C n res) := by
  refine CM.of (lo := 191) (ow := "WardFalls$Paths") (by decide) rfl (Nat.le_of_ble_eq_true rfl) hlo (fun p e s m below meth c F hlk hr hS ls hl => ?_)
  have hl : lv_has ls 6 [(0, .ref (b + 185)), (1, .ref (b + k1)), (2, vI x2)] := hl
  unfold t_Paths_trace at hT
  refine lv_iload_n F.hx F.hb d_Paths_trace_0 rfl (lv_at hl 2 rfl) ?_
  refine lv_istore_n (lv' := [(3, vI x2), (0, .ref (b + 185)), (1, .ref (b + k1)), (2, vI x2)]) F.hx F.hb d_Paths_trace_1 rfl hl (Nat.le_of_ble_eq_true rfl) rfl (fun ls hl => ?_)
  refine r_iconst F.hx F.hb d_Paths_trace_2 ?_
  refine lv_istore (lv' := [(4, vI 0), (3, vI x2), (0, .ref (b + 185)), (1, .ref (b + k1)), (2, vI x2)]) F.hx F.hb d_Paths_trace_3 hl (Nat.le_of_ble_eq_true rfl) rfl (fun ls hl => ?_)
  exact k_Paths_trace_L5 l hlo k1 x2 hk1 hx2 F hlk hr FU M x2 hx2 0 (inr_c rfl) _ _ _ hS (lv_sub hl [2, 3, 1, 0] rfl) hT
theorem d_Paths_find_0 : decode b_Paths_find 0 = .ok (.aload_n 0, 1) := dc_42 (by decide +kernel)
theorem d_Paths_find_1 : decode b_Paths_find 1 = .ok (.getfield 15, 3) := dc_180 (by decide +kernel)
theorem d_Paths_find_4 : decode b_Paths_find 4 = .ok (.iconst (-1), 1) := dc_2 (by decide +kernel)
theorem d_Paths_find_5 : decode b_Paths_find 5 = .ok (.invokestatic 49, 3) := dc_184 (by decide +kernel)
theorem d_Paths_find_8 : decode b_Paths_find 8 = .ok (.aload_n 0, 1) := dc_42 (by decide +kernel)
theorem d_Paths_find_9 : decode b_Paths_find 9 = .ok (.getfield 15, 3) := dc_180 (by decide +kernel)
theorem d_Paths_find_12 : decode b_Paths_find 12 = .ok (.iload_n 3, 1) := dc_29 (by decide +kernel)
theorem d_Paths_find_13 : decode b_Paths_find 13 = .ok (.iconst 0, 1) := dc_3 (by decide +kernel)
theorem d_Paths_find_14 : decode b_Paths_find 14 = .ok (.invokestatic 34, 3) := dc_184 (by decide +kernel)
theorem d_Paths_find_17 : decode b_Paths_find 17 = .ok (.iconst 1, 1) := dc_4 (by decide +kernel)
theorem d_Paths_find_18 : decode b_Paths_find 18 = .ok (.istore 4, 2) := dc_54 (by decide +kernel)
theorem d_Paths_find_20 : decode b_Paths_find 20 = .ok (.iconst 0, 1) := dc_3 (by decide +kernel)
theorem d_Paths_find_21 : decode b_Paths_find 21 = .ok (.istore 5, 2) := dc_54 (by decide +kernel)
theorem d_Paths_find_23 : decode b_Paths_find 23 = .ok (.iload 5, 2) := dc_21 (by decide +kernel)
theorem d_Paths_find_25 : decode b_Paths_find 25 = .ok (.bipush 48, 2) := dc_16 (by decide +kernel)
theorem d_Paths_find_27 : decode b_Paths_find 27 = .ok (.if_icmp .ge 21, 3) := dc_162 (by decide +kernel)
theorem d_Paths_find_30 : decode b_Paths_find 30 = .ok (.iload 4, 2) := dc_21 (by decide +kernel)
theorem d_Paths_find_32 : decode b_Paths_find 32 = .ok (.ifCond .eq 16, 3) := dc_153 (by decide +kernel)
theorem d_Paths_find_35 : decode b_Paths_find 35 = .ok (.aload_n 0, 1) := dc_42 (by decide +kernel)
theorem d_Paths_find_36 : decode b_Paths_find 36 = .ok (.aload_n 1, 1) := dc_43 (by decide +kernel)
theorem d_Paths_find_37 : decode b_Paths_find 37 = .ok (.invokevirtual 55, 3) := dc_182 (by decide +kernel)
theorem d_Paths_find_40 : decode b_Paths_find 40 = .ok (.istore 4, 2) := dc_54 (by decide +kernel)
theorem d_Paths_find_42 : decode b_Paths_find 42 = .ok (.iinc 5 1, 3) := dc_132 (by decide +kernel)
theorem d_Paths_find_45 : decode b_Paths_find 45 = .ok (.goto (-22), 3) := dc_167 (by decide +kernel)
theorem d_Paths_find_48 : decode b_Paths_find 48 = .ok (.aload_n 0, 1) := dc_42 (by decide +kernel)
theorem d_Paths_find_49 : decode b_Paths_find 49 = .ok (.iconst 0, 1) := dc_3 (by decide +kernel)
theorem d_Paths_find_50 : decode b_Paths_find 50 = .ok (.putfield 42, 3) := dc_181 (by decide +kernel)
theorem d_Paths_find_53 : decode b_Paths_find 53 = .ok (.aload_n 0, 1) := dc_42 (by decide +kernel)
theorem d_Paths_find_54 : decode b_Paths_find 54 = .ok (.aload_n 0, 1) := dc_42 (by decide +kernel)
theorem d_Paths_find_55 : decode b_Paths_find 55 = .ok (.getfield 15, 3) := dc_180 (by decide +kernel)
theorem d_Paths_find_58 : decode b_Paths_find 58 = .ok (.iload_n 2, 1) := dc_28 (by decide +kernel)
theorem d_Paths_find_59 : decode b_Paths_find 59 = .ok (.invokestatic 45, 3) := dc_184 (by decide +kernel)
theorem d_Paths_find_62 : decode b_Paths_find 62 = .ok (.bipush 64, 2) := dc_16 (by decide +kernel)
theorem d_Paths_find_64 : decode b_Paths_find 64 = .ok (.idiv, 1) := dc_108 (by decide +kernel)
theorem d_Paths_find_65 : decode b_Paths_find 65 = .ok (.putfield 59, 3) := dc_181 (by decide +kernel)
theorem d_Paths_find_68 : decode b_Paths_find 68 = .ok (.aload_n 0, 1) := dc_42 (by decide +kernel)
theorem d_Paths_find_69 : decode b_Paths_find 69 = .ok (.getfield 15, 3) := dc_180 (by decide +kernel)
theorem d_Paths_find_72 : decode b_Paths_find 72 = .ok (.iload_n 2, 1) := dc_28 (by decide +kernel)
theorem d_Paths_find_73 : decode b_Paths_find 73 = .ok (.invokestatic 45, 3) := dc_184 (by decide +kernel)
theorem d_Paths_find_76 : decode b_Paths_find 76 = .ok (.ifCond .lt 9, 3) := dc_155 (by decide +kernel)
theorem d_Paths_find_79 : decode b_Paths_find 79 = .ok (.aload_n 0, 1) := dc_42 (by decide +kernel)
theorem d_Paths_find_80 : decode b_Paths_find 80 = .ok (.aload_n 1, 1) := dc_43 (by decide +kernel)
theorem d_Paths_find_81 : decode b_Paths_find 81 = .ok (.iload_n 2, 1) := dc_28 (by decide +kernel)
theorem d_Paths_find_82 : decode b_Paths_find 82 = .ok (.invokevirtual 62, 3) := dc_182 (by decide +kernel)
theorem d_Paths_find_85 : decode b_Paths_find 85 = .ok (.return_, 1) := dc_177 (by decide +kernel)
def t_Paths_find_L48 (k1 : Nat) (x2 : Int) (x3 : Int)  (M : Mem)  : Option (Mem) := (qlet (setI M 185 3 0) fun M9 => (qlet (t_WF_look M9 187 48 x2) fun q10 => (qlet (setI M9 185 4 (q_div q10 64)) fun M12 => (qlet (t_WF_look M12 187 48 x2) fun q13 => (if q13 < 0 then (some M12) else (obind (t_Paths_trace M12 k1 x2) fun q16 => (some q16)))))))
def t_Paths_find_L23 (k1 : Nat) (x2 : Int) (x3 : Int)  : Nat → Mem → Int → Int → Option (Mem)
  | 0, _, _, _ => none
  | fu + 1, M, v3_, v4_ => (if 48 ≤ v4_ then (t_Paths_find_L48 k1 x2 x3 M) else (if v3_ = 0 then (t_Paths_find_L48 k1 x2 x3 M) else (obind (t_Paths_spread M k1) fun q7 => (t_Paths_find_L23 k1 x2 x3 fu (q7.1) (q7.2) (w32 (v4_ + 1))))))
def t_Paths_find (M : Mem) (k1 : Nat) (x2 : Int) (x3 : Int) : Option (Mem) := (obind (t_Arrays_fill M 187 48 (-1)) fun q1 => (qlet (t_WF_put q1 187 48 x3 0) fun q3 => (t_Paths_find_L23 k1 x2 x3 FU q3 1 0)))
set_option maxHeartbeats 4000000 in
set_option maxRecDepth 100000 in
theorem k_Paths_find_L48 (l : Launch) {p : Program} {e : Env} {s : State} {m : MethodId} {below : List Frame} {meth : Method} {c : Code} {b n : Nat} {C : CT} (hlo : 191 ≤ n) (k1 : Nat) (x2 : Int) (x3 : Int) (hk1 : isTown k1) (hx2 : InR x2) (hx3 : InR x3) (F : Cx b p m c b_Paths_find 6 s ([.ref (b + 185), .ref (b + k1), vI x2, vI x3] : List Value).toArray "WardFalls$Paths" C n 191) (hlk : meth.locks = false) (hr : meth.sig.returnType = none) {res : Mem} (M : Mem)  (H : Heap) (locs : List Loc) (ls : Array Slot) (hS : St b C n M s H locs) (hl : lv_has ls 6 [(0, .ref (b + 185)), (1, .ref (b + k1)), (2, vI x2)]) (hT : t_Paths_find_L48 k1 x2 x3 M = some res) : W p l e (headSpec (wsM y_Paths_find b_Paths_find 6 (none)) (rmD 4)).room s m ([.ref (b + 185), .ref (b + k1), vI x2, vI x3] : List Value).toArray below meth c H locs 0 0 (MQ below (QV b C n res) ([.ref (b + 185), .ref (b + k1), vI x2, vI x3] : List Value).toArray s 0 0 (frb b)) (F0 m 48 ls []) := by
  unfold t_Paths_find_L48 at hT
  refine lv_aload_n F.hx F.hb d_Paths_find_48 rfl (lv_at hl 0 rfl) ?_
  refine r_iconst F.hx F.hb d_Paths_find_49 ?_
  refine r_putI (N := 5) (T := T7) (j := 3) F hS (show 185 < 191 by decide) (show shK 185 = 11 from rfl) (show shN 185 = 5 from rfl) rfl (Nat.le_of_ble_eq_true rfl) ing7 tyok7 nm7 rfl rfl rfl rfl rfl rfl mw_478 (inr_c rfl) d_Paths_find_50 (fun H locs hS => ?_)
  obtain ⟨M9, eM9⟩ : ∃ q, q = (setI M 185 3 0) := ⟨_, rfl⟩
  replace hS : St b C n M9 s H locs := by rw [eM9]; exact hS
  replace hT := qlet_eq hT eM9
  refine lv_aload_n F.hx F.hb d_Paths_find_53 rfl (lv_at hl 0 rfl) ?_
  refine lv_aload_n F.hx F.hb d_Paths_find_54 rfl (lv_at hl 0 rfl) ?_
  refine r_get (v := .ref (b + 187)) (N := 5) (T := T7) (j := 1) F hS (show 185 < 191 by decide) (show shK 185 = 11 from rfl) (show shN 185 = 5 from rfl) rfl (Nat.le_of_ble_eq_true rfl) ing7 mw_476 (fv_sg rfl rfl rfl) d_Paths_find_55 ?_
  refine lv_iload_n F.hx F.hb d_Paths_find_58 rfl (lv_at hl 2 rfl) ?_
  obtain ⟨q10, hq10⟩ : ∃ q, q = (t_WF_look M9 187 48 x2) := ⟨_, rfl⟩
  replace hT := qlet_eq hT hq10
  refine r_backI F hS (r_runSN (As := [.ref (b + 187), vI x2]) F hS (c_WF_look l F.2.2.1 M9 187 48 x2 (show arrP 0 187 48 191 from ⟨rfl, rfl, by decide⟩) hx2 _ hq10.symm) mw_519 mw_518 mw_1 gs_Paths_45 hd_WF_look ⟨Nat.le_of_ble_eq_true rfl, Nat.le_of_ble_eq_true rfl⟩ rfl hl.1 (Nat.le_of_ble_eq_true rfl) ⟨Nat.zero_le _, Nat.zero_le _⟩ rfl d_Paths_find_59) (fun H locs hS h11 => ?_)
  refine r_bipush F.hx F.hb d_Paths_find_62 rfl ?_
  refine r_idiv F.hx F.hb (inr_c rfl) (by decide) d_Paths_find_64 ?_
  refine r_putI (N := 5) (T := T7) (j := 4) F hS (show 185 < 191 by decide) (show shK 185 = 11 from rfl) (show shN 185 = 5 from rfl) rfl (Nat.le_of_ble_eq_true rfl) ing7 tyok7 nm7 rfl rfl rfl rfl rfl rfl mw_480 (q_inr_toInt _) d_Paths_find_65 (fun H locs hS => ?_)
  obtain ⟨M12, eM12⟩ : ∃ q, q = (setI M9 185 4 (q_div q10 64)) := ⟨_, rfl⟩
  replace hS : St b C n M12 s H locs := by rw [eM12]; exact hS
  replace hT := qlet_eq hT eM12
  refine lv_aload_n F.hx F.hb d_Paths_find_68 rfl (lv_at hl 0 rfl) ?_
  refine r_get (v := .ref (b + 187)) (N := 5) (T := T7) (j := 1) F hS (show 185 < 191 by decide) (show shK 185 = 11 from rfl) (show shN 185 = 5 from rfl) rfl (Nat.le_of_ble_eq_true rfl) ing7 mw_476 (fv_sg rfl rfl rfl) d_Paths_find_69 ?_
  refine lv_iload_n F.hx F.hb d_Paths_find_72 rfl (lv_at hl 2 rfl) ?_
  obtain ⟨q13, hq13⟩ : ∃ q, q = (t_WF_look M12 187 48 x2) := ⟨_, rfl⟩
  replace hT := qlet_eq hT hq13
  refine r_backI F hS (r_runSN (As := [.ref (b + 187), vI x2]) F hS (c_WF_look l F.2.2.1 M12 187 48 x2 (show arrP 0 187 48 191 from ⟨rfl, rfl, by decide⟩) hx2 _ hq13.symm) mw_519 mw_518 mw_1 gs_Paths_45 hd_WF_look ⟨Nat.le_of_ble_eq_true rfl, Nat.le_of_ble_eq_true rfl⟩ rfl hl.1 (Nat.le_of_ble_eq_true rfl) ⟨Nat.zero_le _, Nat.zero_le _⟩ rfl d_Paths_find_73) (fun H locs hS h14 => ?_)
  refine r_if_lt (tgt := 85) F.hx F.hb h14 d_Paths_find_76 (by decide) (fun c15 => ?_) (fun c15 => ?_)
  · replace hT := (if_pos c15).symm.trans hT
    cases hT
    exact r_vret F hlk hr hS d_Paths_find_85
  · replace hT := (if_neg c15).symm.trans hT
    refine lv_aload_n F.hx F.hb d_Paths_find_79 rfl (lv_at hl 0 rfl) ?_
    refine lv_aload_n F.hx F.hb d_Paths_find_80 rfl (lv_at hl 1 rfl) ?_
    refine lv_iload_n F.hx F.hb d_Paths_find_81 rfl (lv_at hl 2 rfl) ?_
    obtain ⟨q16, hq16, hT⟩ := q_obind hT
    refine r_backV F hS (r_runV (k := 185) (N := 5) (T := T7) (As := [.ref (b + k1), vI x2]) F hS (show 185 < 191 by decide) (show shK 185 = 11 from rfl) rfl (c_Paths_trace l F.2.2.1 M12 k1 x2 hk1 hx2 _ hq16) gs_Paths_62 hd_Paths_trace ⟨Nat.le_of_ble_eq_true rfl, Nat.le_of_ble_eq_true rfl⟩ rfl hl.1 (Nat.le_of_ble_eq_true rfl) ⟨Nat.zero_le _, Nat.zero_le _⟩ rfl d_Paths_find_82) (fun H locs hS => ?_)
    cases hT
    exact r_vret F hlk hr hS d_Paths_find_85
set_option maxHeartbeats 4000000 in
set_option maxRecDepth 100000 in
theorem k_Paths_find_L23 (l : Launch) {p : Program} {e : Env} {s : State} {m : MethodId} {below : List Frame} {meth : Method} {c : Code} {b n : Nat} {C : CT} (hlo : 191 ≤ n) (k1 : Nat) (x2 : Int) (x3 : Int) (hk1 : isTown k1) (hx2 : InR x2) (hx3 : InR x3) (F : Cx b p m c b_Paths_find 6 s ([.ref (b + 185), .ref (b + k1), vI x2, vI x3] : List Value).toArray "WardFalls$Paths" C n 191) (hlk : meth.locks = false) (hr : meth.sig.returnType = none) {res : Mem} : ∀ (fu : Nat) (M : Mem) (v3_ : Int) (hv3_ : v3_ = 0 ∨ v3_ = 1) (v4_ : Int) (hv4_ : InR v4_) (H : Heap) (locs : List Loc) (ls : Array Slot), St b C n M s H locs → lv_has ls 6 [(0, .ref (b + 185)), (1, .ref (b + k1)), (2, vI x2), (4, vI v3_), (5, vI v4_)] → t_Paths_find_L23 k1 x2 x3 fu M v3_ v4_ = some res → W p l e (headSpec (wsM y_Paths_find b_Paths_find 6 (none)) (rmD 4)).room s m ([.ref (b + 185), .ref (b + k1), vI x2, vI x3] : List Value).toArray below meth c H locs 0 0 (MQ below (QV b C n res) ([.ref (b + 185), .ref (b + k1), vI x2, vI x3] : List Value).toArray s 0 0 (frb b)) (F0 m 23 ls []) := by
  intro fu
  induction fu with
  | zero => intro M v3_ hv3_ v4_ hv4_ H locs ls hS hl hT; exact absurd hT (by simp [t_Paths_find_L23])
  | succ fu ih =>
    intro M v3_ hv3_ v4_ hv4_ H locs ls hS hl hT
    rw [t_Paths_find_L23] at hT
    refine lv_iload F.hx F.hb d_Paths_find_23 (lv_at hl 4 rfl) ?_
    refine r_bipush F.hx F.hb d_Paths_find_25 rfl ?_
    refine r_icmp_ge (tgt := 48) F.hx F.hb hv4_ (inr_c rfl) d_Paths_find_27 (by decide) (fun c5 => ?_) (fun c5 => ?_)
    · replace hT := (if_pos c5).symm.trans hT
      exact k_Paths_find_L48 l hlo k1 x2 x3 hk1 hx2 hx3 F hlk hr M _ _ _ hS (lv_sub hl [0, 1, 2] rfl) hT
    · replace hT := (if_neg c5).symm.trans hT
      refine lv_iload F.hx F.hb d_Paths_find_30 (lv_at hl 3 rfl) ?_
      refine r_if_eq (tgt := 48) F.hx F.hb (inr_z hv3_) d_Paths_find_32 (by decide) (fun c6 => ?_) (fun c6 => ?_)
      · replace hT := (if_pos c6).symm.trans hT
        exact k_Paths_find_L48 l hlo k1 x2 x3 hk1 hx2 hx3 F hlk hr M _ _ _ hS (lv_sub hl [0, 1, 2] rfl) hT
      · replace hT := (if_neg c6).symm.trans hT
        refine lv_aload_n F.hx F.hb d_Paths_find_35 rfl (lv_at hl 0 rfl) ?_
        refine lv_aload_n F.hx F.hb d_Paths_find_36 rfl (lv_at hl 1 rfl) ?_
        obtain ⟨q7, hq7, hT⟩ := q_obind hT
        refine r_backZ F hS (r_runV (k := 185) (N := 5) (T := T7) (As := [.ref (b + k1)]) F hS (show 185 < 191 by decide) (show shK 185 = 11 from rfl) rfl (c_Paths_spread l F.2.2.1 M k1 hk1 _ hq7) gs_Paths_55 hd_Paths_spread ⟨Nat.le_of_ble_eq_true rfl, Nat.le_of_ble_eq_true rfl⟩ rfl hl.1 (Nat.le_of_ble_eq_true rfl) ⟨Nat.zero_le _, Nat.zero_le _⟩ rfl d_Paths_find_37) (fun H locs hS h8 => ?_)
        refine lv_istore (lv' := [(4, vI (q7.2)), (0, .ref (b + 185)), (1, .ref (b + k1)), (2, vI x2), (5, vI v4_)]) F.hx F.hb d_Paths_find_40 hl (Nat.le_of_ble_eq_true rfl) rfl (fun ls hl => ?_)
        refine lv_iinc (v := Int32.ofInt (w32 (v4_ + 1))) (lv' := [(5, vI (w32 (v4_ + 1))), (4, vI (q7.2)), (0, .ref (b + 185)), (1, .ref (b + k1)), (2, vI x2)]) F.hx F.hb d_Paths_find_42 hl (k := 4) rfl (q_of_add _ _) (Nat.le_of_ble_eq_true rfl) rfl (fun ls hl => ?_)
        refine lv_goto (tgt := 23) F.hx F.hb d_Paths_find_45 (by decide) ?_
        exact ih (q7.1) (q7.2) h8 (w32 (v4_ + 1)) (inr_w32 _) _ _ _ hS (lv_sub hl [2, 3, 4, 1, 0] rfl) hT
set_option maxHeartbeats 4000000 in
set_option maxRecDepth 100000 in
theorem c_Paths_find (l : Launch) {b n : Nat} {C : CT} (hlo : 191 ≤ n) (M : Mem) (k1 : Nat) (x2 : Int) (x3 : Int) (hk1 : isTown k1) (hx2 : InR x2) (hx3 : InR x3) (res : Mem) (hT : t_Paths_find M k1 x2 x3 = some res) : CM l b C n 4 y_Paths_find b_Paths_find 6 (none) [.ref (b + 185), .ref (b + k1), vI x2, vI x3] M (QV b C n res) := by
  refine CM.of (lo := 191) (ow := "WardFalls$Paths") (by decide) rfl (Nat.le_of_ble_eq_true rfl) hlo (fun p e s m below meth c F hlk hr hS ls hl => ?_)
  have hl : lv_has ls 6 [(0, .ref (b + 185)), (1, .ref (b + k1)), (2, vI x2), (3, vI x3)] := hl
  unfold t_Paths_find at hT
  refine lv_aload_n F.hx F.hb d_Paths_find_0 rfl (lv_at hl 0 rfl) ?_
  refine r_get (v := .ref (b + 187)) (N := 5) (T := T7) (j := 1) F hS (show 185 < 191 by decide) (show shK 185 = 11 from rfl) (show shN 185 = 5 from rfl) rfl (Nat.le_of_ble_eq_true rfl) ing7 mw_476 (fv_sg rfl rfl rfl) d_Paths_find_1 ?_
  refine r_iconst F.hx F.hb d_Paths_find_4 ?_
  obtain ⟨q1, hq1, hT⟩ := q_obind hT
  refine r_backV F hS (r_runS (As := [.ref (b + 187), vI (-1)]) F hS (c_Arrays_fill l F.2.2.1 M 187 48 (-1) (show arrP 0 187 48 191 from ⟨rfl, rfl, by decide⟩) (inr_c rfl) _ hq1) gs_Paths_49 hd_Arrays_fill ⟨Nat.le_of_ble_eq_true rfl, Nat.le_of_ble_eq_true rfl⟩ rfl hl.1 (Nat.le_of_ble_eq_true rfl) ⟨Nat.zero_le _, Nat.zero_le _⟩ rfl d_Paths_find_5) (fun H locs hS => ?_)
  refine lv_aload_n F.hx F.hb d_Paths_find_8 rfl (lv_at hl 0 rfl) ?_
  refine r_get (v := .ref (b + 187)) (N := 5) (T := T7) (j := 1) F hS (show 185 < 191 by decide) (show shK 185 = 11 from rfl) (show shN 185 = 5 from rfl) rfl (Nat.le_of_ble_eq_true rfl) ing7 mw_476 (fv_sg rfl rfl rfl) d_Paths_find_9 ?_
  refine lv_iload_n F.hx F.hb d_Paths_find_12 rfl (lv_at hl 3 rfl) ?_
  refine r_iconst F.hx F.hb d_Paths_find_13 ?_
  obtain ⟨q3, hq3⟩ : ∃ q, q = (t_WF_put q1 187 48 x3 0) := ⟨_, rfl⟩
  replace hT := qlet_eq hT hq3
  refine r_backV F hS (r_runSN (As := [.ref (b + 187), vI x3, vI 0]) F hS (c_WF_put l F.2.2.1 q1 187 48 x3 0 (show arrP 0 187 48 191 from ⟨rfl, rfl, by decide⟩) hx3 (inr_c rfl) _ hq3.symm) mw_512 mw_511 mw_1 gs_Paths_34 hd_WF_put ⟨Nat.le_of_ble_eq_true rfl, Nat.le_of_ble_eq_true rfl⟩ rfl hl.1 (Nat.le_of_ble_eq_true rfl) ⟨Nat.zero_le _, Nat.zero_le _⟩ rfl d_Paths_find_14) (fun H locs hS => ?_)
  refine r_iconst F.hx F.hb d_Paths_find_17 ?_
  refine lv_istore (lv' := [(4, vI 1), (0, .ref (b + 185)), (1, .ref (b + k1)), (2, vI x2), (3, vI x3)]) F.hx F.hb d_Paths_find_18 hl (Nat.le_of_ble_eq_true rfl) rfl (fun ls hl => ?_)
  refine r_iconst F.hx F.hb d_Paths_find_20 ?_
  refine lv_istore (lv' := [(5, vI 0), (4, vI 1), (0, .ref (b + 185)), (1, .ref (b + k1)), (2, vI x2), (3, vI x3)]) F.hx F.hb d_Paths_find_21 hl (Nat.le_of_ble_eq_true rfl) rfl (fun ls hl => ?_)
  exact k_Paths_find_L23 l hlo k1 x2 x3 hk1 hx2 hx3 F hlk hr FU q3 1 (Or.inr rfl) 0 (inr_c rfl) _ _ _ hS (lv_sub hl [2, 3, 4, 1, 0] rfl) hT
theorem d_Paths_walkTo_0 : decode b_Paths_walkTo 0 = .ok (.iconst 0, 1) := dc_3 (by decide +kernel)
theorem d_Paths_walkTo_1 : decode b_Paths_walkTo 1 = .ok (.istore 5, 2) := dc_54 (by decide +kernel)
theorem d_Paths_walkTo_3 : decode b_Paths_walkTo 3 = .ok (.iload 5, 2) := dc_21 (by decide +kernel)
theorem d_Paths_walkTo_5 : decode b_Paths_walkTo 5 = .ok (.aload_n 1, 1) := dc_43 (by decide +kernel)
theorem d_Paths_walkTo_6 : decode b_Paths_walkTo 6 = .ok (.getfield 21, 3) := dc_180 (by decide +kernel)
theorem d_Paths_walkTo_9 : decode b_Paths_walkTo 9 = .ok (.if_icmp .ge 65, 3) := dc_162 (by decide +kernel)
theorem d_Paths_walkTo_12 : decode b_Paths_walkTo 12 = .ok (.iconst 0, 1) := dc_3 (by decide +kernel)
theorem d_Paths_walkTo_13 : decode b_Paths_walkTo 13 = .ok (.istore 6, 2) := dc_54 (by decide +kernel)
theorem d_Paths_walkTo_15 : decode b_Paths_walkTo 15 = .ok (.iload 6, 2) := dc_21 (by decide +kernel)
theorem d_Paths_walkTo_17 : decode b_Paths_walkTo 17 = .ok (.iconst 4, 1) := dc_7 (by decide +kernel)
theorem d_Paths_walkTo_18 : decode b_Paths_walkTo 18 = .ok (.if_icmp .ge 50, 3) := dc_162 (by decide +kernel)
theorem d_Paths_walkTo_21 : decode b_Paths_walkTo 21 = .ok (.aload_n 1, 1) := dc_43 (by decide +kernel)
theorem d_Paths_walkTo_22 : decode b_Paths_walkTo 22 = .ok (.aload_n 2, 1) := dc_44 (by decide +kernel)
theorem d_Paths_walkTo_23 : decode b_Paths_walkTo 23 = .ok (.iload 5, 2) := dc_21 (by decide +kernel)
theorem d_Paths_walkTo_25 : decode b_Paths_walkTo 25 = .ok (.aload_n 1, 1) := dc_43 (by decide +kernel)
theorem d_Paths_walkTo_26 : decode b_Paths_walkTo 26 = .ok (.iload 5, 2) := dc_21 (by decide +kernel)
theorem d_Paths_walkTo_28 : decode b_Paths_walkTo 28 = .ok (.iload 6, 2) := dc_21 (by decide +kernel)
theorem d_Paths_walkTo_30 : decode b_Paths_walkTo 30 = .ok (.invokevirtual 26, 3) := dc_182 (by decide +kernel)
theorem d_Paths_walkTo_33 : decode b_Paths_walkTo 33 = .ok (.invokestatic 30, 3) := dc_184 (by decide +kernel)
theorem d_Paths_walkTo_36 : decode b_Paths_walkTo 36 = .ok (.istore 7, 2) := dc_54 (by decide +kernel)
theorem d_Paths_walkTo_38 : decode b_Paths_walkTo 38 = .ok (.aload_n 0, 1) := dc_42 (by decide +kernel)
theorem d_Paths_walkTo_39 : decode b_Paths_walkTo 39 = .ok (.getfield 9, 3) := dc_180 (by decide +kernel)
theorem d_Paths_walkTo_42 : decode b_Paths_walkTo 42 = .ok (.iload 5, 2) := dc_21 (by decide +kernel)
theorem d_Paths_walkTo_44 : decode b_Paths_walkTo 44 = .ok (.iconst 4, 1) := dc_7 (by decide +kernel)
theorem d_Paths_walkTo_45 : decode b_Paths_walkTo 45 = .ok (.imul, 1) := dc_104 (by decide +kernel)
theorem d_Paths_walkTo_46 : decode b_Paths_walkTo 46 = .ok (.iload 6, 2) := dc_21 (by decide +kernel)
theorem d_Paths_walkTo_48 : decode b_Paths_walkTo 48 = .ok (.iadd, 1) := dc_96 (by decide +kernel)
theorem d_Paths_walkTo_49 : decode b_Paths_walkTo 49 = .ok (.iload 7, 2) := dc_21 (by decide +kernel)
theorem d_Paths_walkTo_51 : decode b_Paths_walkTo 51 = .ok (.ifCond .eq 7, 3) := dc_153 (by decide +kernel)
theorem d_Paths_walkTo_54 : decode b_Paths_walkTo 54 = .ok (.iconst 0, 1) := dc_3 (by decide +kernel)
theorem d_Paths_walkTo_55 : decode b_Paths_walkTo 55 = .ok (.goto 4, 3) := dc_167 (by decide +kernel)
theorem d_Paths_walkTo_58 : decode b_Paths_walkTo 58 = .ok (.iconst (-1), 1) := dc_2 (by decide +kernel)
theorem d_Paths_walkTo_59 : decode b_Paths_walkTo 59 = .ok (.invokestatic 34, 3) := dc_184 (by decide +kernel)
theorem d_Paths_walkTo_62 : decode b_Paths_walkTo 62 = .ok (.iinc 6 1, 3) := dc_132 (by decide +kernel)
theorem d_Paths_walkTo_65 : decode b_Paths_walkTo 65 = .ok (.goto (-50), 3) := dc_167 (by decide +kernel)
theorem d_Paths_walkTo_68 : decode b_Paths_walkTo 68 = .ok (.iinc 5 1, 3) := dc_132 (by decide +kernel)
theorem d_Paths_walkTo_71 : decode b_Paths_walkTo 71 = .ok (.goto (-68), 3) := dc_167 (by decide +kernel)
theorem d_Paths_walkTo_74 : decode b_Paths_walkTo 74 = .ok (.aload_n 0, 1) := dc_42 (by decide +kernel)
theorem d_Paths_walkTo_75 : decode b_Paths_walkTo 75 = .ok (.aload_n 1, 1) := dc_43 (by decide +kernel)
theorem d_Paths_walkTo_76 : decode b_Paths_walkTo 76 = .ok (.iload_n 3, 1) := dc_29 (by decide +kernel)
theorem d_Paths_walkTo_77 : decode b_Paths_walkTo 77 = .ok (.iload 4, 2) := dc_21 (by decide +kernel)
theorem d_Paths_walkTo_79 : decode b_Paths_walkTo 79 = .ok (.invokevirtual 38, 3) := dc_182 (by decide +kernel)
theorem d_Paths_walkTo_82 : decode b_Paths_walkTo 82 = .ok (.return_, 1) := dc_177 (by decide +kernel)
def t_Paths_walkTo_L59 (k1 : Nat) (k2 : Nat) (x3 : Int) (x4 : Int) (bk3 : Mem → Int → Option (Mem)) (bk15 : Mem → Int → Int → Option (Mem)) (M : Mem) (v5_ : Int) (v6_ : Int) (v8_ : Int) (v9_ : Int) : Option (Mem) := (qlet (t_WF_put M 186 192 v8_ v9_) fun q11 => (bk15 q11 v5_ (w32 (v6_ + 1))))
def t_Paths_walkTo_L15 (k1 : Nat) (k2 : Nat) (x3 : Int) (x4 : Int) (bk3 : Mem → Int → Option (Mem)) : Nat → Mem → Int → Int → Option (Mem)
  | 0, _, _, _ => none
  | fu + 1, M, v5_, v6_ => (if 4 ≤ v6_ then (bk3 M (w32 (v5_ + 1))) else (qlet (t_Town_beside M k1 v5_ v6_) fun q6 => (qlet (t_Paths_canStep M k1 k2 v5_ q6) fun q8 => (if q8 = 0 then (t_Paths_walkTo_L59 k1 k2 x3 x4 bk3 (fun a0_ a1_ a2_ => t_Paths_walkTo_L15 k1 k2 x3 x4 bk3 fu a0_ a1_ a2_) M v5_ v6_ (w32 ((w32 (v5_ * 4)) + v6_)) (-1)) else (t_Paths_walkTo_L59 k1 k2 x3 x4 bk3 (fun a0_ a1_ a2_ => t_Paths_walkTo_L15 k1 k2 x3 x4 bk3 fu a0_ a1_ a2_) M v5_ v6_ (w32 ((w32 (v5_ * 4)) + v6_)) 0)))))
def t_Paths_walkTo_L3 (k1 : Nat) (k2 : Nat) (x3 : Int) (x4 : Int)  : Nat → Mem → Int → Option (Mem)
  | 0, _, _ => none
  | fu + 1, M, v5_ => (if (M.1 k1 13) ≤ v5_ then (obind (t_Paths_find M k1 x3 x4) fun q3 => (some q3)) else (t_Paths_walkTo_L15 k1 k2 x3 x4 (fun a0_ a1_ => t_Paths_walkTo_L3 k1 k2 x3 x4 fu a0_ a1_) FU M v5_ 0))
def t_Paths_walkTo (M : Mem) (k1 : Nat) (k2 : Nat) (x3 : Int) (x4 : Int) : Option (Mem) := (t_Paths_walkTo_L3 k1 k2 x3 x4 FU M 0)
set_option maxHeartbeats 4000000 in
set_option maxRecDepth 100000 in
theorem k_Paths_walkTo_L59 (l : Launch) {p : Program} {e : Env} {s : State} {m : MethodId} {below : List Frame} {meth : Method} {c : Code} {b n : Nat} {C : CT} (hlo : 191 ≤ n) (k1 : Nat) (k2 : Nat) (x3 : Int) (x4 : Int) (hk1 : isTown k1) (hk2 : isScene k2) (hx3 : InR x3) (hx4 : InR x4) (F : Cx b p m c b_Paths_walkTo 8 s ([.ref (b + 185), .ref (b + k1), .ref (b + k2), vI x3, vI x4] : List Value).toArray "WardFalls$Paths" C n 191) (hlk : meth.locks = false) (hr : meth.sig.returnType = none) {res : Mem} (bk3 : Mem → Int → Option (Mem)) (hbk3 : ∀ (M : Mem) (v5_ : Int) (hv5_ : InR v5_) (H : Heap) (locs : List Loc) (ls : Array Slot), St b C n M s H locs → lv_has ls 8 [(0, .ref (b + 185)), (1, .ref (b + k1)), (2, .ref (b + k2)), (3, vI x3), (4, vI x4), (5, vI v5_)] → bk3 M v5_ = some res → W p l e (headSpec (wsM y_Paths_walkTo b_Paths_walkTo 8 (none)) (rmD 5)).room s m ([.ref (b + 185), .ref (b + k1), .ref (b + k2), vI x3, vI x4] : List Value).toArray below meth c H locs 0 0 (MQ below (QV b C n res) ([.ref (b + 185), .ref (b + k1), .ref (b + k2), vI x3, vI x4] : List Value).toArray s 0 0 (frb b)) (F0 m 3 ls [])) (bk15 : Mem → Int → Int → Option (Mem)) (hbk15 : ∀ (M : Mem) (v5_ : Int) (hv5_ : InR v5_) (v6_ : Int) (hv6_ : InR v6_) (H : Heap) (locs : List Loc) (ls : Array Slot), St b C n M s H locs → lv_has ls 8 [(0, .ref (b + 185)), (1, .ref (b + k1)), (2, .ref (b + k2)), (3, vI x3), (4, vI x4), (5, vI v5_), (6, vI v6_)] → bk15 M v5_ v6_ = some res → W p l e (headSpec (wsM y_Paths_walkTo b_Paths_walkTo 8 (none)) (rmD 5)).room s m ([.ref (b + 185), .ref (b + k1), .ref (b + k2), vI x3, vI x4] : List Value).toArray below meth c H locs 0 0 (MQ below (QV b C n res) ([.ref (b + 185), .ref (b + k1), .ref (b + k2), vI x3, vI x4] : List Value).toArray s 0 0 (frb b)) (F0 m 15 ls [])) (M : Mem) (v5_ : Int) (hv5_ : InR v5_) (v6_ : Int) (hv6_ : InR v6_) (v8_ : Int) (hv8_ : InR v8_) (v9_ : Int) (hv9_ : InR v9_) (H : Heap) (locs : List Loc) (ls : Array Slot) (hS : St b C n M s H locs) (hl : lv_has ls 8 [(0, .ref (b + 185)), (1, .ref (b + k1)), (2, .ref (b + k2)), (3, vI x3), (4, vI x4), (5, vI v5_), (6, vI v6_)]) (hT : t_Paths_walkTo_L59 k1 k2 x3 x4 bk3 bk15 M v5_ v6_ v8_ v9_ = some res) : W p l e (headSpec (wsM y_Paths_walkTo b_Paths_walkTo 8 (none)) (rmD 5)).room s m ([.ref (b + 185), .ref (b + k1), .ref (b + k2), vI x3, vI x4] : List Value).toArray below meth c H locs 0 0 (MQ below (QV b C n res) ([.ref (b + 185), .ref (b + k1), .ref (b + k2), vI x3, vI x4] : List Value).toArray s 0 0 (frb b)) (F0 m 59 ls [vI v9_, vI v8_, .ref (b + 186)]) := by
  unfold t_Paths_walkTo_L59 at hT
  obtain ⟨q11, hq11⟩ : ∃ q, q = (t_WF_put M 186 192 v8_ v9_) := ⟨_, rfl⟩
  replace hT := qlet_eq hT hq11
  refine r_backV F hS (r_runSN (As := [.ref (b + 186), vI v8_, vI v9_]) F hS (c_WF_put l F.2.2.1 M 186 192 v8_ v9_ (show arrP 0 186 192 191 from ⟨rfl, rfl, by decide⟩) hv8_ hv9_ _ hq11.symm) mw_512 mw_511 mw_1 gs_Paths_34 hd_WF_put ⟨Nat.le_of_ble_eq_true rfl, Nat.le_of_ble_eq_true rfl⟩ rfl hl.1 (Nat.le_of_ble_eq_true rfl) ⟨Nat.zero_le _, Nat.zero_le _⟩ rfl d_Paths_walkTo_59) (fun H locs hS => ?_)
  refine lv_iinc (v := Int32.ofInt (w32 (v6_ + 1))) (lv' := [(6, vI (w32 (v6_ + 1))), (0, .ref (b + 185)), (1, .ref (b + k1)), (2, .ref (b + k2)), (3, vI x3), (4, vI x4), (5, vI v5_)]) F.hx F.hb d_Paths_walkTo_62 hl (k := 6) rfl (q_of_add _ _) (Nat.le_of_ble_eq_true rfl) rfl (fun ls hl => ?_)
  refine lv_goto (tgt := 15) F.hx F.hb d_Paths_walkTo_65 (by decide) ?_
  exact hbk15 q11 v5_ hv5_ (w32 (v6_ + 1)) (inr_w32 _) _ _ _ hS (lv_sub hl [1, 2, 3, 4, 5, 6, 0] rfl) hT
set_option maxHeartbeats 4000000 in
set_option maxRecDepth 100000 in
theorem k_Paths_walkTo_L15 (l : Launch) {p : Program} {e : Env} {s : State} {m : MethodId} {below : List Frame} {meth : Method} {c : Code} {b n : Nat} {C : CT} (hlo : 191 ≤ n) (k1 : Nat) (k2 : Nat) (x3 : Int) (x4 : Int) (hk1 : isTown k1) (hk2 : isScene k2) (hx3 : InR x3) (hx4 : InR x4) (F : Cx b p m c b_Paths_walkTo 8 s ([.ref (b + 185), .ref (b + k1), .ref (b + k2), vI x3, vI x4] : List Value).toArray "WardFalls$Paths" C n 191) (hlk : meth.locks = false) (hr : meth.sig.returnType = none) {res : Mem} (bk3 : Mem → Int → Option (Mem)) (hbk3 : ∀ (M : Mem) (v5_ : Int) (hv5_ : InR v5_) (H : Heap) (locs : List Loc) (ls : Array Slot), St b C n M s H locs → lv_has ls 8 [(0, .ref (b + 185)), (1, .ref (b + k1)), (2, .ref (b + k2)), (3, vI x3), (4, vI x4), (5, vI v5_)] → bk3 M v5_ = some res → W p l e (headSpec (wsM y_Paths_walkTo b_Paths_walkTo 8 (none)) (rmD 5)).room s m ([.ref (b + 185), .ref (b + k1), .ref (b + k2), vI x3, vI x4] : List Value).toArray below meth c H locs 0 0 (MQ below (QV b C n res) ([.ref (b + 185), .ref (b + k1), .ref (b + k2), vI x3, vI x4] : List Value).toArray s 0 0 (frb b)) (F0 m 3 ls [])) : ∀ (fu : Nat) (M : Mem) (v5_ : Int) (hv5_ : InR v5_) (v6_ : Int) (hv6_ : InR v6_) (H : Heap) (locs : List Loc) (ls : Array Slot), St b C n M s H locs → lv_has ls 8 [(0, .ref (b + 185)), (1, .ref (b + k1)), (2, .ref (b + k2)), (3, vI x3), (4, vI x4), (5, vI v5_), (6, vI v6_)] → t_Paths_walkTo_L15 k1 k2 x3 x4 bk3 fu M v5_ v6_ = some res → W p l e (headSpec (wsM y_Paths_walkTo b_Paths_walkTo 8 (none)) (rmD 5)).room s m ([.ref (b + 185), .ref (b + k1), .ref (b + k2), vI x3, vI x4] : List Value).toArray below meth c H locs 0 0 (MQ below (QV b C n res) ([.ref (b + 185), .ref (b + k1), .ref (b + k2), vI x3, vI x4] : List Value).toArray s 0 0 (frb b)) (F0 m 15 ls []) := by
  intro fu
  induction fu with
  | zero => intro M v5_ hv5_ v6_ hv6_ H locs ls hS hl hT; exact absurd hT (by simp [t_Paths_walkTo_L15])
  | succ fu ih =>
    intro M v5_ hv5_ v6_ hv6_ H locs ls hS hl hT
    rw [t_Paths_walkTo_L15] at hT
    refine lv_iload F.hx F.hb d_Paths_walkTo_15 (lv_at hl 6 rfl) ?_
    refine r_iconst F.hx F.hb d_Paths_walkTo_17 ?_
    refine r_icmp_ge (tgt := 68) F.hx F.hb hv6_ (inr_c rfl) d_Paths_walkTo_18 (by decide) (fun c5 => ?_) (fun c5 => ?_)
    · replace hT := (if_pos c5).symm.trans hT
      refine lv_iinc (v := Int32.ofInt (w32 (v5_ + 1))) (lv' := [(5, vI (w32 (v5_ + 1))), (0, .ref (b + 185)), (1, .ref (b + k1)), (2, .ref (b + k2)), (3, vI x3), (4, vI x4), (6, vI v6_)]) F.hx F.hb d_Paths_walkTo_68 hl (k := 5) rfl (q_of_add _ _) (Nat.le_of_ble_eq_true rfl) rfl (fun ls hl => ?_)
      refine lv_goto (tgt := 3) F.hx F.hb d_Paths_walkTo_71 (by decide) ?_
      exact hbk3 M (w32 (v5_ + 1)) (inr_w32 _) _ _ _ hS (lv_sub hl [1, 2, 3, 4, 5, 0] rfl) hT
    · replace hT := (if_neg c5).symm.trans hT
      refine lv_aload_n F.hx F.hb d_Paths_walkTo_21 rfl (lv_at hl 1 rfl) ?_
      refine lv_aload_n F.hx F.hb d_Paths_walkTo_22 rfl (lv_at hl 2 rfl) ?_
      refine lv_iload F.hx F.hb d_Paths_walkTo_23 (lv_at hl 5 rfl) ?_
      refine lv_aload_n F.hx F.hb d_Paths_walkTo_25 rfl (lv_at hl 1 rfl) ?_
      refine lv_iload F.hx F.hb d_Paths_walkTo_26 (lv_at hl 5 rfl) ?_
      refine lv_iload F.hx F.hb d_Paths_walkTo_28 (lv_at hl 6 rfl) ?_
      obtain ⟨q6, hq6⟩ : ∃ q, q = (t_Town_beside M k1 v5_ v6_) := ⟨_, rfl⟩
      replace hT := qlet_eq hT hq6
      refine r_backI F hS (r_runV (k := k1) (N := 20) (T := T11) (As := [vI v5_, vI v6_]) F hS (Town_lt hk1) (Town_sh hk1) rfl (c_Town_beside l F.2.2.1 M k1 v5_ v6_ hk1 hv5_ hv6_ _ hq6.symm) gs_Paths_26 hd_Town_beside ⟨Nat.le_of_ble_eq_true rfl, Nat.le_of_ble_eq_true rfl⟩ rfl hl.1 (Nat.le_of_ble_eq_true rfl) ⟨Nat.zero_le _, Nat.zero_le _⟩ rfl d_Paths_walkTo_30) (fun H locs hS h7 => ?_)
      obtain ⟨q8, hq8⟩ : ∃ q, q = (t_Paths_canStep M k1 k2 v5_ q6) := ⟨_, rfl⟩
      replace hT := qlet_eq hT hq8
      refine r_backZ F hS (r_runS (As := [.ref (b + k1), .ref (b + k2), vI v5_, vI q6]) F hS (c_Paths_canStep l F.2.2.1 M k1 k2 v5_ q6 hk1 hk2 hv5_ h7 _ hq8.symm) gs_Paths_30 hd_Paths_canStep ⟨Nat.le_of_ble_eq_true rfl, Nat.le_of_ble_eq_true rfl⟩ rfl hl.1 (Nat.le_of_ble_eq_true rfl) ⟨Nat.zero_le _, Nat.zero_le _⟩ rfl d_Paths_walkTo_33) (fun H locs hS h9 => ?_)
      refine lv_istore (lv' := [(7, vI q8), (0, .ref (b + 185)), (1, .ref (b + k1)), (2, .ref (b + k2)), (3, vI x3), (4, vI x4), (5, vI v5_), (6, vI v6_)]) F.hx F.hb d_Paths_walkTo_36 hl (Nat.le_of_ble_eq_true rfl) rfl (fun ls hl => ?_)
      refine lv_aload_n F.hx F.hb d_Paths_walkTo_38 rfl (lv_at hl 1 rfl) ?_
      refine r_get (v := .ref (b + 186)) (N := 5) (T := T7) (j := 0) F hS (show 185 < 191 by decide) (show shK 185 = 11 from rfl) (show shN 185 = 5 from rfl) rfl (Nat.le_of_ble_eq_true rfl) ing7 mw_474 (fv_sg rfl rfl rfl) d_Paths_walkTo_39 ?_
      refine lv_iload F.hx F.hb d_Paths_walkTo_42 (lv_at hl 6 rfl) ?_
      refine r_iconst F.hx F.hb d_Paths_walkTo_44 ?_
      refine r_imul F.hx F.hb d_Paths_walkTo_45 ?_
      refine lv_iload F.hx F.hb d_Paths_walkTo_46 (lv_at hl 7 rfl) ?_
      refine r_iadd F.hx F.hb d_Paths_walkTo_48 ?_
      refine lv_iload F.hx F.hb d_Paths_walkTo_49 (lv_at hl 0 rfl) ?_
      refine r_if_eq (tgt := 58) F.hx F.hb (inr_z h9) d_Paths_walkTo_51 (by decide) (fun c10 => ?_) (fun c10 => ?_)
      · replace hT := (if_pos c10).symm.trans hT
        refine r_iconst F.hx F.hb d_Paths_walkTo_58 ?_
        exact k_Paths_walkTo_L59 l hlo k1 k2 x3 x4 hk1 hk2 hx3 hx4 F hlk hr bk3 hbk3 (fun a0_ a1_ a2_ => t_Paths_walkTo_L15 k1 k2 x3 x4 bk3 fu a0_ a1_ a2_) ih M v5_ hv5_ v6_ hv6_ (w32 ((w32 (v5_ * 4)) + v6_)) (inr_w32 _) (-1) (inr_c rfl) _ _ _ hS (lv_sub hl [1, 2, 3, 4, 5, 6, 7] rfl) hT
      · replace hT := (if_neg c10).symm.trans hT
        refine r_iconst F.hx F.hb d_Paths_walkTo_54 ?_
        refine lv_goto (tgt := 59) F.hx F.hb d_Paths_walkTo_55 (by decide) ?_
        exact k_Paths_walkTo_L59 l hlo k1 k2 x3 x4 hk1 hk2 hx3 hx4 F hlk hr bk3 hbk3 (fun a0_ a1_ a2_ => t_Paths_walkTo_L15 k1 k2 x3 x4 bk3 fu a0_ a1_ a2_) ih M v5_ hv5_ v6_ hv6_ (w32 ((w32 (v5_ * 4)) + v6_)) (inr_w32 _) 0 (inr_c rfl) _ _ _ hS (lv_sub hl [1, 2, 3, 4, 5, 6, 7] rfl) hT
set_option maxHeartbeats 4000000 in
set_option maxRecDepth 100000 in
theorem k_Paths_walkTo_L3 (l : Launch) {p : Program} {e : Env} {s : State} {m : MethodId} {below : List Frame} {meth : Method} {c : Code} {b n : Nat} {C : CT} (hlo : 191 ≤ n) (k1 : Nat) (k2 : Nat) (x3 : Int) (x4 : Int) (hk1 : isTown k1) (hk2 : isScene k2) (hx3 : InR x3) (hx4 : InR x4) (F : Cx b p m c b_Paths_walkTo 8 s ([.ref (b + 185), .ref (b + k1), .ref (b + k2), vI x3, vI x4] : List Value).toArray "WardFalls$Paths" C n 191) (hlk : meth.locks = false) (hr : meth.sig.returnType = none) {res : Mem} : ∀ (fu : Nat) (M : Mem) (v5_ : Int) (hv5_ : InR v5_) (H : Heap) (locs : List Loc) (ls : Array Slot), St b C n M s H locs → lv_has ls 8 [(0, .ref (b + 185)), (1, .ref (b + k1)), (2, .ref (b + k2)), (3, vI x3), (4, vI x4), (5, vI v5_)] → t_Paths_walkTo_L3 k1 k2 x3 x4 fu M v5_ = some res → W p l e (headSpec (wsM y_Paths_walkTo b_Paths_walkTo 8 (none)) (rmD 5)).room s m ([.ref (b + 185), .ref (b + k1), .ref (b + k2), vI x3, vI x4] : List Value).toArray below meth c H locs 0 0 (MQ below (QV b C n res) ([.ref (b + 185), .ref (b + k1), .ref (b + k2), vI x3, vI x4] : List Value).toArray s 0 0 (frb b)) (F0 m 3 ls []) := by
  intro fu
  induction fu with
  | zero => intro M v5_ hv5_ H locs ls hS hl hT; exact absurd hT (by simp [t_Paths_walkTo_L3])
  | succ fu ih =>
    intro M v5_ hv5_ H locs ls hS hl hT
    rw [t_Paths_walkTo_L3] at hT
    refine lv_iload F.hx F.hb d_Paths_walkTo_3 (lv_at hl 5 rfl) ?_
    refine lv_aload_n F.hx F.hb d_Paths_walkTo_5 rfl (lv_at hl 1 rfl) ?_
    refine r_get (v := vI (M.1 k1 13)) (N := 20) (T := T11) (j := 13) F hS (Town_lt hk1) (Town_sh hk1) (Town_N hk1) rfl (Nat.le_of_ble_eq_true rfl) ing11 mw_127 (fv_int rfl) d_Paths_walkTo_6 ?_
    have i1 := hS.rng k1 13
    refine r_icmp_ge (tgt := 74) F.hx F.hb hv5_ i1 d_Paths_walkTo_9 (by decide) (fun c2 => ?_) (fun c2 => ?_)
    · replace hT := (if_pos c2).symm.trans hT
      refine lv_aload_n F.hx F.hb d_Paths_walkTo_74 rfl (lv_at hl 0 rfl) ?_
      refine lv_aload_n F.hx F.hb d_Paths_walkTo_75 rfl (lv_at hl 1 rfl) ?_
      refine lv_iload_n F.hx F.hb d_Paths_walkTo_76 rfl (lv_at hl 3 rfl) ?_
      refine lv_iload F.hx F.hb d_Paths_walkTo_77 (lv_at hl 4 rfl) ?_
      obtain ⟨q3, hq3, hT⟩ := q_obind hT
      refine r_backV F hS (r_runV (k := 185) (N := 5) (T := T7) (As := [.ref (b + k1), vI x3, vI x4]) F hS (show 185 < 191 by decide) (show shK 185 = 11 from rfl) rfl (c_Paths_find l F.2.2.1 M k1 x3 x4 hk1 hx3 hx4 _ hq3) gs_Paths_38 hd_Paths_find ⟨Nat.le_of_ble_eq_true rfl, Nat.le_of_ble_eq_true rfl⟩ rfl hl.1 (Nat.le_of_ble_eq_true rfl) ⟨Nat.zero_le _, Nat.zero_le _⟩ rfl d_Paths_walkTo_79) (fun H locs hS => ?_)
      cases hT
      exact r_vret F hlk hr hS d_Paths_walkTo_82
    · replace hT := (if_neg c2).symm.trans hT
      refine r_iconst F.hx F.hb d_Paths_walkTo_12 ?_
      refine lv_istore (lv' := [(6, vI 0), (0, .ref (b + 185)), (1, .ref (b + k1)), (2, .ref (b + k2)), (3, vI x3), (4, vI x4), (5, vI v5_)]) F.hx F.hb d_Paths_walkTo_13 hl (Nat.le_of_ble_eq_true rfl) rfl (fun ls hl => ?_)
      exact k_Paths_walkTo_L15 l hlo k1 k2 x3 x4 hk1 hk2 hx3 hx4 F hlk hr (fun a0_ a1_ => t_Paths_walkTo_L3 k1 k2 x3 x4 fu a0_ a1_) ih FU M v5_ hv5_ 0 (inr_c rfl) _ _ _ hS (lv_sub hl [1, 2, 3, 4, 5, 6, 0] rfl) hT
set_option maxHeartbeats 4000000 in
set_option maxRecDepth 100000 in
theorem c_Paths_walkTo (l : Launch) {b n : Nat} {C : CT} (hlo : 191 ≤ n) (M : Mem) (k1 : Nat) (k2 : Nat) (x3 : Int) (x4 : Int) (hk1 : isTown k1) (hk2 : isScene k2) (hx3 : InR x3) (hx4 : InR x4) (res : Mem) (hT : t_Paths_walkTo M k1 k2 x3 x4 = some res) : CM l b C n 5 y_Paths_walkTo b_Paths_walkTo 8 (none) [.ref (b + 185), .ref (b + k1), .ref (b + k2), vI x3, vI x4] M (QV b C n res) := by
  refine CM.of (lo := 191) (ow := "WardFalls$Paths") (by decide) rfl (Nat.le_of_ble_eq_true rfl) hlo (fun p e s m below meth c F hlk hr hS ls hl => ?_)
  have hl : lv_has ls 8 [(0, .ref (b + 185)), (1, .ref (b + k1)), (2, .ref (b + k2)), (3, vI x3), (4, vI x4)] := hl
  unfold t_Paths_walkTo at hT
  refine r_iconst F.hx F.hb d_Paths_walkTo_0 ?_
  refine lv_istore (lv' := [(5, vI 0), (0, .ref (b + 185)), (1, .ref (b + k1)), (2, .ref (b + k2)), (3, vI x3), (4, vI x4)]) F.hx F.hb d_Paths_walkTo_1 hl (Nat.le_of_ble_eq_true rfl) rfl (fun ls hl => ?_)
  exact k_Paths_walkTo_L3 l hlo k1 k2 x3 x4 hk1 hk2 hx3 hx4 F hlk hr FU M 0 (inr_c rfl) _ _ _ hS (lv_sub hl [1, 2, 3, 4, 5, 0] rfl) hT
theorem d_WF_walk_0 : decode b_WF_walk 0 = .ok (.aload_n 0, 1) := dc_42 (by decide +kernel)
theorem d_WF_walk_1 : decode b_WF_walk 1 = .ok (.iload_n 1, 1) := dc_27 (by decide +kernel)
theorem d_WF_walk_2 : decode b_WF_walk 2 = .ok (.iload_n 2, 1) := dc_28 (by decide +kernel)
theorem d_WF_walk_3 : decode b_WF_walk 3 = .ok (.invokevirtual 311, 3) := dc_182 (by decide +kernel)
theorem d_WF_walk_6 : decode b_WF_walk 6 = .ok (.ifCond .ne 5, 3) := dc_154 (by decide +kernel)
theorem d_WF_walk_9 : decode b_WF_walk 9 = .ok (.iconst (-1), 1) := dc_2 (by decide +kernel)
theorem d_WF_walk_10 : decode b_WF_walk 10 = .ok (.ireturn, 1) := dc_172 (by decide +kernel)
theorem d_WF_walk_11 : decode b_WF_walk 11 = .ok (.aload_n 0, 1) := dc_42 (by decide +kernel)
theorem d_WF_walk_12 : decode b_WF_walk 12 = .ok (.getfield 90, 3) := dc_180 (by decide +kernel)
theorem d_WF_walk_15 : decode b_WF_walk 15 = .ok (.aload_n 0, 1) := dc_42 (by decide +kernel)
theorem d_WF_walk_16 : decode b_WF_walk 16 = .ok (.getfield 22, 3) := dc_180 (by decide +kernel)
theorem d_WF_walk_19 : decode b_WF_walk 19 = .ok (.aload_n 0, 1) := dc_42 (by decide +kernel)
theorem d_WF_walk_20 : decode b_WF_walk 20 = .ok (.getfield 46, 3) := dc_180 (by decide +kernel)
theorem d_WF_walk_23 : decode b_WF_walk 23 = .ok (.iload_n 1, 1) := dc_27 (by decide +kernel)
theorem d_WF_walk_24 : decode b_WF_walk 24 = .ok (.iload_n 2, 1) := dc_28 (by decide +kernel)
theorem d_WF_walk_25 : decode b_WF_walk 25 = .ok (.invokevirtual 315, 3) := dc_182 (by decide +kernel)
theorem d_WF_walk_28 : decode b_WF_walk 28 = .ok (.aload_n 0, 1) := dc_42 (by decide +kernel)
theorem d_WF_walk_29 : decode b_WF_walk 29 = .ok (.getfield 90, 3) := dc_180 (by decide +kernel)
theorem d_WF_walk_32 : decode b_WF_walk 32 = .ok (.getfield 319, 3) := dc_180 (by decide +kernel)
theorem d_WF_walk_35 : decode b_WF_walk 35 = .ok (.ifCond .ne 8, 3) := dc_154 (by decide +kernel)
theorem d_WF_walk_38 : decode b_WF_walk 38 = .ok (.bipush (-2), 2) := dc_16 (by decide +kernel)
theorem d_WF_walk_40 : decode b_WF_walk 40 = .ok (.goto 12, 3) := dc_167 (by decide +kernel)
theorem d_WF_walk_43 : decode b_WF_walk 43 = .ok (.aload_n 0, 1) := dc_42 (by decide +kernel)
theorem d_WF_walk_44 : decode b_WF_walk 44 = .ok (.getfield 90, 3) := dc_180 (by decide +kernel)
theorem d_WF_walk_47 : decode b_WF_walk 47 = .ok (.getfield 319, 3) := dc_180 (by decide +kernel)
theorem d_WF_walk_50 : decode b_WF_walk 50 = .ok (.iconst 1, 1) := dc_4 (by decide +kernel)
theorem d_WF_walk_51 : decode b_WF_walk 51 = .ok (.isub, 1) := dc_100 (by decide +kernel)
theorem d_WF_walk_52 : decode b_WF_walk 52 = .ok (.ireturn, 1) := dc_172 (by decide +kernel)
def t_WF_walk (M : Mem) (x1 : Int) (x2 : Int) : Option (Mem × Int) := (qlet (t_WF_canWalk M x1 x2) fun q1 => (if q1 = 0 then (some (M, (-1))) else (obind (t_Paths_walkTo M ((M.1 0 4).toNat) 47 x1 x2) fun q5 => (if (q5.1 185 3) = 0 then (some (q5, (-2))) else (some (q5, (w32 ((q5.1 185 3) - 1))))))))
set_option maxHeartbeats 4000000 in
set_option maxRecDepth 100000 in
theorem c_WF_walk (l : Launch) {b n : Nat} {C : CT} (hlo : 191 ≤ n) (M : Mem) (x1 : Int) (x2 : Int) (hx1 : InR x1) (hx2 : InR x2) (res : Mem × Int) (hT : t_WF_walk M x1 x2 = some res) : CM l b C n 6 y_WF_walk b_WF_walk 3 (some .int) [.ref (b + 0), vI x1, vI x2] M (QI b C n res.1 res.2) := by
  refine CM.of (lo := 191) (ow := "WardFalls") (by decide) rfl (Nat.le_of_ble_eq_true rfl) hlo (fun p e s m below meth c F hlk hr hS ls hl => ?_)
  have hl : lv_has ls 3 [(0, .ref (b + 0)), (1, vI x1), (2, vI x2)] := hl
  unfold t_WF_walk at hT
  refine lv_aload_n F.hx F.hb d_WF_walk_0 rfl (lv_at hl 0 rfl) ?_
  refine lv_iload_n F.hx F.hb d_WF_walk_1 rfl (lv_at hl 1 rfl) ?_
  refine lv_iload_n F.hx F.hb d_WF_walk_2 rfl (lv_at hl 2 rfl) ?_
  obtain ⟨q1, hq1⟩ : ∃ q, q = (t_WF_canWalk M x1 x2) := ⟨_, rfl⟩
  replace hT := qlet_eq hT hq1
  refine r_backZ F hS (r_runV (k := 0) (N := 19) (T := T0) (As := [vI x1, vI x2]) F hS (show 0 < 191 by decide) (show shK 0 = 4 from rfl) rfl (c_WF_canWalk l F.2.2.1 M x1 x2 hx1 hx2 _ hq1.symm) gs_WF_311 hd_WF_canWalk ⟨Nat.le_of_ble_eq_true rfl, Nat.le_of_ble_eq_true rfl⟩ rfl hl.1 (Nat.le_of_ble_eq_true rfl) ⟨Nat.zero_le _, Nat.zero_le _⟩ rfl d_WF_walk_3) (fun H locs hS h2 => ?_)
  refine r_if_ne (tgt := 11) F.hx F.hb (inr_z h2) d_WF_walk_6 (by decide) (fun c3 => ?_) (fun c3 => ?_)
  · replace hT := (if_neg c3).symm.trans hT
    refine lv_aload_n F.hx F.hb d_WF_walk_11 rfl (lv_at hl 0 rfl) ?_
    refine r_get (v := .ref (b + 185)) (N := 19) (T := T0) (j := 17) F hS (show 0 < 191 by decide) (show shK 0 = 4 from rfl) (show shN 0 = 19 from rfl) rfl (Nat.le_of_ble_eq_true rfl) ing0 mw_567 (fv_sg rfl rfl rfl) d_WF_walk_12 ?_
    refine lv_aload_n F.hx F.hb d_WF_walk_15 rfl (lv_at hl 0 rfl) ?_
    have h4 := St_town hS
    refine r_get (v := .ref (b + ((M.1 0 4).toNat))) (N := 19) (T := T0) (j := 4) F hS (show 0 < 191 by decide) (show shK 0 = 4 from rfl) (show shN 0 = 19 from rfl) rfl (Nat.le_of_ble_eq_true rfl) ing0 mw_554 (fv_town hS) d_WF_walk_16 ?_
    refine lv_aload_n F.hx F.hb d_WF_walk_19 rfl (lv_at hl 0 rfl) ?_
    refine r_get (v := .ref (b + 47)) (N := 19) (T := T0) (j := 8) F hS (show 0 < 191 by decide) (show shK 0 = 4 from rfl) (show shN 0 = 19 from rfl) rfl (Nat.le_of_ble_eq_true rfl) ing0 mw_558 (fv_sg rfl rfl rfl) d_WF_walk_20 ?_
    refine lv_iload_n F.hx F.hb d_WF_walk_23 rfl (lv_at hl 1 rfl) ?_
    refine lv_iload_n F.hx F.hb d_WF_walk_24 rfl (lv_at hl 2 rfl) ?_
    obtain ⟨q5, hq5, hT⟩ := q_obind hT
    refine r_backV F hS (r_runV (k := 185) (N := 5) (T := T7) (As := [.ref (b + ((M.1 0 4).toNat)), .ref (b + 47), vI x1, vI x2]) F hS (show 185 < 191 by decide) (show shK 185 = 11 from rfl) rfl (c_Paths_walkTo l F.2.2.1 M ((M.1 0 4).toNat) 47 x1 x2 h4 (by decide : isScene 47) hx1 hx2 _ hq5) gs_WF_315 hd_Paths_walkTo ⟨Nat.le_of_ble_eq_true rfl, Nat.le_of_ble_eq_true rfl⟩ rfl hl.1 (Nat.le_of_ble_eq_true rfl) ⟨Nat.zero_le _, Nat.zero_le _⟩ rfl d_WF_walk_25) (fun H locs hS => ?_)
    refine lv_aload_n F.hx F.hb d_WF_walk_28 rfl (lv_at hl 0 rfl) ?_
    refine r_get (v := .ref (b + 185)) (N := 19) (T := T0) (j := 17) F hS (show 0 < 191 by decide) (show shK 0 = 4 from rfl) (show shN 0 = 19 from rfl) rfl (Nat.le_of_ble_eq_true rfl) ing0 mw_567 (fv_sg rfl rfl rfl) d_WF_walk_29 ?_
    refine r_get (v := vI (q5.1 185 3)) (N := 5) (T := T7) (j := 3) F hS (show 185 < 191 by decide) (show shK 185 = 11 from rfl) (show shN 185 = 5 from rfl) rfl (Nat.le_of_ble_eq_true rfl) ing7 mw_479 (fv_int rfl) d_WF_walk_32 ?_
    have i7 := hS.rng 185 3
    refine r_if_ne (tgt := 43) F.hx F.hb i7 d_WF_walk_35 (by decide) (fun c8 => ?_) (fun c8 => ?_)
    · replace hT := (if_neg c8).symm.trans hT
      refine lv_aload_n F.hx F.hb d_WF_walk_43 rfl (lv_at hl 0 rfl) ?_
      refine r_get (v := .ref (b + 185)) (N := 19) (T := T0) (j := 17) F hS (show 0 < 191 by decide) (show shK 0 = 4 from rfl) (show shN 0 = 19 from rfl) rfl (Nat.le_of_ble_eq_true rfl) ing0 mw_567 (fv_sg rfl rfl rfl) d_WF_walk_44 ?_
      refine r_get (v := vI (q5.1 185 3)) (N := 5) (T := T7) (j := 3) F hS (show 185 < 191 by decide) (show shK 185 = 11 from rfl) (show shN 185 = 5 from rfl) rfl (Nat.le_of_ble_eq_true rfl) ing7 mw_479 (fv_int rfl) d_WF_walk_47 ?_
      have i9 := hS.rng 185 3
      refine r_iconst F.hx F.hb d_WF_walk_50 ?_
      refine r_isub F.hx F.hb d_WF_walk_51 ?_
      cases hT
      exact r_iret F hlk hr rfl hS (inr_w32 _) d_WF_walk_52
    · replace hT := (if_pos c8).symm.trans hT
      refine r_bipush F.hx F.hb d_WF_walk_38 rfl ?_
      refine lv_goto (tgt := 52) F.hx F.hb d_WF_walk_40 (by decide) ?_
      cases hT
      exact r_iret F hlk hr rfl hS (inr_c rfl) d_WF_walk_52
  · replace hT := (if_pos c3).symm.trans hT
    refine r_iconst F.hx F.hb d_WF_walk_9 ?_
    cases hT
    exact r_iret F hlk hr rfl hS (inr_c rfl) d_WF_walk_10
theorem d_Paths_cellAt_0 : decode b_Paths_cellAt 0 = .ok (.iload_n 1, 1) := dc_27 (by decide +kernel)
theorem d_Paths_cellAt_1 : decode b_Paths_cellAt 1 = .ok (.aload_n 0, 1) := dc_42 (by decide +kernel)
theorem d_Paths_cellAt_2 : decode b_Paths_cellAt 2 = .ok (.getfield 42, 3) := dc_180 (by decide +kernel)
theorem d_Paths_cellAt_5 : decode b_Paths_cellAt 5 = .ok (.if_icmp .ge 14, 3) := dc_162 (by decide +kernel)
theorem d_Paths_cellAt_8 : decode b_Paths_cellAt 8 = .ok (.aload_n 0, 1) := dc_42 (by decide +kernel)
theorem d_Paths_cellAt_9 : decode b_Paths_cellAt 9 = .ok (.getfield 18, 3) := dc_180 (by decide +kernel)
theorem d_Paths_cellAt_12 : decode b_Paths_cellAt 12 = .ok (.iload_n 1, 1) := dc_27 (by decide +kernel)
theorem d_Paths_cellAt_13 : decode b_Paths_cellAt 13 = .ok (.invokestatic 45, 3) := dc_184 (by decide +kernel)
theorem d_Paths_cellAt_16 : decode b_Paths_cellAt 16 = .ok (.goto 5, 3) := dc_167 (by decide +kernel)
theorem d_Paths_cellAt_19 : decode b_Paths_cellAt 19 = .ok (.bipush (-2), 2) := dc_16 (by decide +kernel)
theorem d_Paths_cellAt_21 : decode b_Paths_cellAt 21 = .ok (.ireturn, 1) := dc_172 (by decide +kernel)
def t_Paths_cellAt (M : Mem) (x1 : Int) : Int := (if (M.1 185 3) ≤ x1 then (-2) else (qlet (t_WF_look M 188 48 x1) fun q3 => q3))
set_option maxHeartbeats 4000000 in
set_option maxRecDepth 100000 in
theorem c_Paths_cellAt (l : Launch) {b n : Nat} {C : CT} (hlo : 191 ≤ n) (M : Mem) (x1 : Int) (hx1 : InR x1) (res : Int) (hT : t_Paths_cellAt M x1 = res) : CM l b C n 1 y_Paths_cellAt b_Paths_cellAt 2 (some .int) [.ref (b + 185), vI x1] M (QI b C n M res) := by
  refine CM.of (lo := 191) (ow := "WardFalls$Paths") (by decide) rfl (Nat.le_of_ble_eq_true rfl) hlo (fun p e s m below meth c F hlk hr hS ls hl => ?_)
  have hl : lv_has ls 2 [(0, .ref (b + 185)), (1, vI x1)] := hl
  unfold t_Paths_cellAt at hT
  refine lv_iload_n F.hx F.hb d_Paths_cellAt_0 rfl (lv_at hl 1 rfl) ?_
  refine lv_aload_n F.hx F.hb d_Paths_cellAt_1 rfl (lv_at hl 0 rfl) ?_
  refine r_get (v := vI (M.1 185 3)) (N := 5) (T := T7) (j := 3) F hS (show 185 < 191 by decide) (show shK 185 = 11 from rfl) (show shN 185 = 5 from rfl) rfl (Nat.le_of_ble_eq_true rfl) ing7 mw_478 (fv_int rfl) d_Paths_cellAt_2 ?_
  have i1 := hS.rng 185 3
  refine r_icmp_ge (tgt := 19) F.hx F.hb hx1 i1 d_Paths_cellAt_5 (by decide) (fun c2 => ?_) (fun c2 => ?_)
  · replace hT := (if_pos c2).symm.trans hT
    refine r_bipush F.hx F.hb d_Paths_cellAt_19 rfl ?_
    subst hT
    exact r_iret F hlk hr rfl hS (inr_c rfl) d_Paths_cellAt_21
  · replace hT := (if_neg c2).symm.trans hT
    refine lv_aload_n F.hx F.hb d_Paths_cellAt_8 rfl (lv_at hl 0 rfl) ?_
    refine r_get (v := .ref (b + 188)) (N := 5) (T := T7) (j := 2) F hS (show 185 < 191 by decide) (show shK 185 = 11 from rfl) (show shN 185 = 5 from rfl) rfl (Nat.le_of_ble_eq_true rfl) ing7 mw_477 (fv_sg rfl rfl rfl) d_Paths_cellAt_9 ?_
    refine lv_iload_n F.hx F.hb d_Paths_cellAt_12 rfl (lv_at hl 1 rfl) ?_
    obtain ⟨q3, hq3⟩ : ∃ q, q = (t_WF_look M 188 48 x1) := ⟨_, rfl⟩
    replace hT := qlet_eq hT hq3
    refine r_backI F hS (r_runSN (As := [.ref (b + 188), vI x1]) F hS (c_WF_look l F.2.2.1 M 188 48 x1 (show arrP 0 188 48 191 from ⟨rfl, rfl, by decide⟩) hx1 _ hq3.symm) mw_519 mw_518 mw_1 gs_Paths_45 hd_WF_look ⟨Nat.le_of_ble_eq_true rfl, Nat.le_of_ble_eq_true rfl⟩ rfl hl.1 (Nat.le_of_ble_eq_true rfl) ⟨Nat.zero_le _, Nat.zero_le _⟩ rfl d_Paths_cellAt_13) (fun H locs hS h4 => ?_)
    refine lv_goto (tgt := 21) F.hx F.hb d_Paths_cellAt_16 (by decide) ?_
    subst hT
    exact r_iret F hlk hr rfl hS h4 d_Paths_cellAt_21
theorem d_WF_step_0 : decode b_WF_step 0 = .ok (.aload_n 0, 1) := dc_42 (by decide +kernel)
theorem d_WF_step_1 : decode b_WF_step 1 = .ok (.iload_n 1, 1) := dc_27 (by decide +kernel)
theorem d_WF_step_2 : decode b_WF_step 2 = .ok (.iload_n 2, 1) := dc_28 (by decide +kernel)
theorem d_WF_step_3 : decode b_WF_step 3 = .ok (.invokevirtual 311, 3) := dc_182 (by decide +kernel)
theorem d_WF_step_6 : decode b_WF_step 6 = .ok (.ifCond .eq 7, 3) := dc_153 (by decide +kernel)
theorem d_WF_step_9 : decode b_WF_step 9 = .ok (.iload_n 3, 1) := dc_29 (by decide +kernel)
theorem d_WF_step_10 : decode b_WF_step 10 = .ok (.ifCond .ge 5, 3) := dc_156 (by decide +kernel)
theorem d_WF_step_13 : decode b_WF_step 13 = .ok (.iconst (-1), 1) := dc_2 (by decide +kernel)
theorem d_WF_step_14 : decode b_WF_step 14 = .ok (.ireturn, 1) := dc_172 (by decide +kernel)
theorem d_WF_step_15 : decode b_WF_step 15 = .ok (.aload_n 0, 1) := dc_42 (by decide +kernel)
theorem d_WF_step_16 : decode b_WF_step 16 = .ok (.getfield 90, 3) := dc_180 (by decide +kernel)
theorem d_WF_step_19 : decode b_WF_step 19 = .ok (.aload_n 0, 1) := dc_42 (by decide +kernel)
theorem d_WF_step_20 : decode b_WF_step 20 = .ok (.getfield 22, 3) := dc_180 (by decide +kernel)
theorem d_WF_step_23 : decode b_WF_step 23 = .ok (.aload_n 0, 1) := dc_42 (by decide +kernel)
theorem d_WF_step_24 : decode b_WF_step 24 = .ok (.getfield 46, 3) := dc_180 (by decide +kernel)
theorem d_WF_step_27 : decode b_WF_step 27 = .ok (.iload_n 1, 1) := dc_27 (by decide +kernel)
theorem d_WF_step_28 : decode b_WF_step 28 = .ok (.iload_n 2, 1) := dc_28 (by decide +kernel)
theorem d_WF_step_29 : decode b_WF_step 29 = .ok (.invokevirtual 315, 3) := dc_182 (by decide +kernel)
theorem d_WF_step_32 : decode b_WF_step 32 = .ok (.aload_n 0, 1) := dc_42 (by decide +kernel)
theorem d_WF_step_33 : decode b_WF_step 33 = .ok (.getfield 90, 3) := dc_180 (by decide +kernel)
theorem d_WF_step_36 : decode b_WF_step 36 = .ok (.iload_n 3, 1) := dc_29 (by decide +kernel)
theorem d_WF_step_37 : decode b_WF_step 37 = .ok (.invokevirtual 322, 3) := dc_182 (by decide +kernel)
theorem d_WF_step_40 : decode b_WF_step 40 = .ok (.ireturn, 1) := dc_172 (by decide +kernel)
def t_WF_step (M : Mem) (x1 : Int) (x2 : Int) (x3 : Int) : Option (Mem × Int) := (qlet (t_WF_canWalk M x1 x2) fun q1 => (if q1 = 0 then (some (M, (-1))) else (if 0 ≤ x3 then (obind (t_Paths_walkTo M ((M.1 0 4).toNat) 47 x1 x2) fun q6 => (qlet (t_Paths_cellAt q6 x3) fun q8 => (some (q6, q8)))) else (some (M, (-1))))))
set_option maxHeartbeats 4000000 in
set_option maxRecDepth 100000 in
theorem c_WF_step (l : Launch) {b n : Nat} {C : CT} (hlo : 191 ≤ n) (M : Mem) (x1 : Int) (x2 : Int) (x3 : Int) (hx1 : InR x1) (hx2 : InR x2) (hx3 : InR x3) (res : Mem × Int) (hT : t_WF_step M x1 x2 x3 = some res) : CM l b C n 6 y_WF_step b_WF_step 4 (some .int) [.ref (b + 0), vI x1, vI x2, vI x3] M (QI b C n res.1 res.2) := by
  refine CM.of (lo := 191) (ow := "WardFalls") (by decide) rfl (Nat.le_of_ble_eq_true rfl) hlo (fun p e s m below meth c F hlk hr hS ls hl => ?_)
  have hl : lv_has ls 4 [(0, .ref (b + 0)), (1, vI x1), (2, vI x2), (3, vI x3)] := hl
  unfold t_WF_step at hT
  refine lv_aload_n F.hx F.hb d_WF_step_0 rfl (lv_at hl 0 rfl) ?_
  refine lv_iload_n F.hx F.hb d_WF_step_1 rfl (lv_at hl 1 rfl) ?_
  refine lv_iload_n F.hx F.hb d_WF_step_2 rfl (lv_at hl 2 rfl) ?_
  obtain ⟨q1, hq1⟩ : ∃ q, q = (t_WF_canWalk M x1 x2) := ⟨_, rfl⟩
  replace hT := qlet_eq hT hq1
  refine r_backZ F hS (r_runV (k := 0) (N := 19) (T := T0) (As := [vI x1, vI x2]) F hS (show 0 < 191 by decide) (show shK 0 = 4 from rfl) rfl (c_WF_canWalk l F.2.2.1 M x1 x2 hx1 hx2 _ hq1.symm) gs_WF_311 hd_WF_canWalk ⟨Nat.le_of_ble_eq_true rfl, Nat.le_of_ble_eq_true rfl⟩ rfl hl.1 (Nat.le_of_ble_eq_true rfl) ⟨Nat.zero_le _, Nat.zero_le _⟩ rfl d_WF_step_3) (fun H locs hS h2 => ?_)
  refine r_if_eq (tgt := 13) F.hx F.hb (inr_z h2) d_WF_step_6 (by decide) (fun c3 => ?_) (fun c3 => ?_)
  · replace hT := (if_pos c3).symm.trans hT
    refine r_iconst F.hx F.hb d_WF_step_13 ?_
    cases hT
    exact r_iret F hlk hr rfl hS (inr_c rfl) d_WF_step_14
  · replace hT := (if_neg c3).symm.trans hT
    refine lv_iload_n F.hx F.hb d_WF_step_9 rfl (lv_at hl 3 rfl) ?_
    refine r_if_ge (tgt := 15) F.hx F.hb hx3 d_WF_step_10 (by decide) (fun c4 => ?_) (fun c4 => ?_)
    · replace hT := (if_pos c4).symm.trans hT
      refine lv_aload_n F.hx F.hb d_WF_step_15 rfl (lv_at hl 0 rfl) ?_
      refine r_get (v := .ref (b + 185)) (N := 19) (T := T0) (j := 17) F hS (show 0 < 191 by decide) (show shK 0 = 4 from rfl) (show shN 0 = 19 from rfl) rfl (Nat.le_of_ble_eq_true rfl) ing0 mw_567 (fv_sg rfl rfl rfl) d_WF_step_16 ?_
      refine lv_aload_n F.hx F.hb d_WF_step_19 rfl (lv_at hl 0 rfl) ?_
      have h5 := St_town hS
      refine r_get (v := .ref (b + ((M.1 0 4).toNat))) (N := 19) (T := T0) (j := 4) F hS (show 0 < 191 by decide) (show shK 0 = 4 from rfl) (show shN 0 = 19 from rfl) rfl (Nat.le_of_ble_eq_true rfl) ing0 mw_554 (fv_town hS) d_WF_step_20 ?_
      refine lv_aload_n F.hx F.hb d_WF_step_23 rfl (lv_at hl 0 rfl) ?_
      refine r_get (v := .ref (b + 47)) (N := 19) (T := T0) (j := 8) F hS (show 0 < 191 by decide) (show shK 0 = 4 from rfl) (show shN 0 = 19 from rfl) rfl (Nat.le_of_ble_eq_true rfl) ing0 mw_558 (fv_sg rfl rfl rfl) d_WF_step_24 ?_
      refine lv_iload_n F.hx F.hb d_WF_step_27 rfl (lv_at hl 1 rfl) ?_
      refine lv_iload_n F.hx F.hb d_WF_step_28 rfl (lv_at hl 2 rfl) ?_
      obtain ⟨q6, hq6, hT⟩ := q_obind hT
      refine r_backV F hS (r_runV (k := 185) (N := 5) (T := T7) (As := [.ref (b + ((M.1 0 4).toNat)), .ref (b + 47), vI x1, vI x2]) F hS (show 185 < 191 by decide) (show shK 185 = 11 from rfl) rfl (c_Paths_walkTo l F.2.2.1 M ((M.1 0 4).toNat) 47 x1 x2 h5 (by decide : isScene 47) hx1 hx2 _ hq6) gs_WF_315 hd_Paths_walkTo ⟨Nat.le_of_ble_eq_true rfl, Nat.le_of_ble_eq_true rfl⟩ rfl hl.1 (Nat.le_of_ble_eq_true rfl) ⟨Nat.zero_le _, Nat.zero_le _⟩ rfl d_WF_step_29) (fun H locs hS => ?_)
      refine lv_aload_n F.hx F.hb d_WF_step_32 rfl (lv_at hl 0 rfl) ?_
      refine r_get (v := .ref (b + 185)) (N := 19) (T := T0) (j := 17) F hS (show 0 < 191 by decide) (show shK 0 = 4 from rfl) (show shN 0 = 19 from rfl) rfl (Nat.le_of_ble_eq_true rfl) ing0 mw_567 (fv_sg rfl rfl rfl) d_WF_step_33 ?_
      refine lv_iload_n F.hx F.hb d_WF_step_36 rfl (lv_at hl 3 rfl) ?_
      obtain ⟨q8, hq8⟩ : ∃ q, q = (t_Paths_cellAt q6 x3) := ⟨_, rfl⟩
      replace hT := qlet_eq hT hq8
      refine r_backI F hS (r_runV (k := 185) (N := 5) (T := T7) (As := [vI x3]) F hS (show 185 < 191 by decide) (show shK 185 = 11 from rfl) rfl (c_Paths_cellAt l F.2.2.1 q6 x3 hx3 _ hq8.symm) gs_WF_322 hd_Paths_cellAt ⟨Nat.le_of_ble_eq_true rfl, Nat.le_of_ble_eq_true rfl⟩ rfl hl.1 (Nat.le_of_ble_eq_true rfl) ⟨Nat.zero_le _, Nat.zero_le _⟩ rfl d_WF_step_37) (fun H locs hS h9 => ?_)
      cases hT
      exact r_iret F hlk hr rfl hS h9 d_WF_step_40
    · replace hT := (if_neg c4).symm.trans hT
      refine r_iconst F.hx F.hb d_WF_step_13 ?_
      cases hT
      exact r_iret F hlk hr rfl hS (inr_c rfl) d_WF_step_14
theorem wn_Laws_pushAll_0 : ∀ i, i < 96 → bA b_Laws_pushAll (0 + i) = wB [3, 54, 5, 21, 5, 43, 180, 0, 139, 162, 0, 141, 44, 43, 21, 5, 182, 0, 142, 54, 6, 3, 54, 7, 21, 7, 7, 162, 0, 117, 43, 21, 5, 21, 7, 182, 0, 113, 54, 8, 2, 54, 9, 21, 8, 155, 0, 79, 44, 180, 0, 117, 21, 5, 184, 0, 121, 154, 0, 67, 44, 180, 0, 117, 21, 8, 184, 0, 121, 154, 0, 55, 21, 8, 21, 6, 160, 0, 7, 9, 167, 0, 14, 42, 43, 44, 21, 5, 21, 7, 29, 182, 0, 145, 55, 10] i := wB_of (by decide +kernel)
theorem d_Laws_pushAll_0 : decode b_Laws_pushAll 0 = .ok (.iconst 0, 1) := dc_3 (q0_win (r := 0) wn_Laws_pushAll_0 (by decide +kernel))
theorem d_Laws_pushAll_1 : decode b_Laws_pushAll 1 = .ok (.istore 5, 2) := dc_54 (qU1_win (r := 1) wn_Laws_pushAll_0 (by decide +kernel))
theorem d_Laws_pushAll_3 : decode b_Laws_pushAll 3 = .ok (.iload 5, 2) := dc_21 (qU1_win (r := 3) wn_Laws_pushAll_0 (by decide +kernel))
theorem d_Laws_pushAll_5 : decode b_Laws_pushAll 5 = .ok (.aload_n 1, 1) := dc_43 (q0_win (r := 5) wn_Laws_pushAll_0 (by decide +kernel))
theorem d_Laws_pushAll_6 : decode b_Laws_pushAll 6 = .ok (.getfield 139, 3) := dc_180 (qU2_win (r := 6) wn_Laws_pushAll_0 (by decide +kernel))
theorem d_Laws_pushAll_9 : decode b_Laws_pushAll 9 = .ok (.if_icmp .ge 141, 3) := dc_162 (qS2_win (r := 9) wn_Laws_pushAll_0 (by decide +kernel))
theorem d_Laws_pushAll_12 : decode b_Laws_pushAll 12 = .ok (.aload_n 2, 1) := dc_44 (q0_win (r := 12) wn_Laws_pushAll_0 (by decide +kernel))
theorem d_Laws_pushAll_13 : decode b_Laws_pushAll 13 = .ok (.aload_n 1, 1) := dc_43 (q0_win (r := 13) wn_Laws_pushAll_0 (by decide +kernel))
theorem d_Laws_pushAll_14 : decode b_Laws_pushAll 14 = .ok (.iload 5, 2) := dc_21 (qU1_win (r := 14) wn_Laws_pushAll_0 (by decide +kernel))
theorem d_Laws_pushAll_16 : decode b_Laws_pushAll 16 = .ok (.invokevirtual 142, 3) := dc_182 (qU2_win (r := 16) wn_Laws_pushAll_0 (by decide +kernel))
theorem d_Laws_pushAll_19 : decode b_Laws_pushAll 19 = .ok (.istore 6, 2) := dc_54 (qU1_win (r := 19) wn_Laws_pushAll_0 (by decide +kernel))
theorem d_Laws_pushAll_21 : decode b_Laws_pushAll 21 = .ok (.iconst 0, 1) := dc_3 (q0_win (r := 21) wn_Laws_pushAll_0 (by decide +kernel))
theorem d_Laws_pushAll_22 : decode b_Laws_pushAll 22 = .ok (.istore 7, 2) := dc_54 (qU1_win (r := 22) wn_Laws_pushAll_0 (by decide +kernel))
theorem d_Laws_pushAll_24 : decode b_Laws_pushAll 24 = .ok (.iload 7, 2) := dc_21 (qU1_win (r := 24) wn_Laws_pushAll_0 (by decide +kernel))
theorem d_Laws_pushAll_26 : decode b_Laws_pushAll 26 = .ok (.iconst 4, 1) := dc_7 (q0_win (r := 26) wn_Laws_pushAll_0 (by decide +kernel))
theorem d_Laws_pushAll_27 : decode b_Laws_pushAll 27 = .ok (.if_icmp .ge 117, 3) := dc_162 (qS2_win (r := 27) wn_Laws_pushAll_0 (by decide +kernel))
theorem d_Laws_pushAll_30 : decode b_Laws_pushAll 30 = .ok (.aload_n 1, 1) := dc_43 (q0_win (r := 30) wn_Laws_pushAll_0 (by decide +kernel))
theorem d_Laws_pushAll_31 : decode b_Laws_pushAll 31 = .ok (.iload 5, 2) := dc_21 (qU1_win (r := 31) wn_Laws_pushAll_0 (by decide +kernel))
theorem d_Laws_pushAll_33 : decode b_Laws_pushAll 33 = .ok (.iload 7, 2) := dc_21 (qU1_win (r := 33) wn_Laws_pushAll_0 (by decide +kernel))
theorem d_Laws_pushAll_35 : decode b_Laws_pushAll 35 = .ok (.invokevirtual 113, 3) := dc_182 (qU2_win (r := 35) wn_Laws_pushAll_0 (by decide +kernel))
theorem d_Laws_pushAll_38 : decode b_Laws_pushAll 38 = .ok (.istore 8, 2) := dc_54 (qU1_win (r := 38) wn_Laws_pushAll_0 (by decide +kernel))
theorem d_Laws_pushAll_40 : decode b_Laws_pushAll 40 = .ok (.iconst (-1), 1) := dc_2 (q0_win (r := 40) wn_Laws_pushAll_0 (by decide +kernel))
theorem d_Laws_pushAll_41 : decode b_Laws_pushAll 41 = .ok (.istore 9, 2) := dc_54 (qU1_win (r := 41) wn_Laws_pushAll_0 (by decide +kernel))
theorem d_Laws_pushAll_43 : decode b_Laws_pushAll 43 = .ok (.iload 8, 2) := dc_21 (qU1_win (r := 43) wn_Laws_pushAll_0 (by decide +kernel))
theorem d_Laws_pushAll_45 : decode b_Laws_pushAll 45 = .ok (.ifCond .lt 79, 3) := dc_155 (qS2_win (r := 45) wn_Laws_pushAll_0 (by decide +kernel))
theorem d_Laws_pushAll_48 : decode b_Laws_pushAll 48 = .ok (.aload_n 2, 1) := dc_44 (q0_win (r := 48) wn_Laws_pushAll_0 (by decide +kernel))
theorem d_Laws_pushAll_49 : decode b_Laws_pushAll 49 = .ok (.getfield 117, 3) := dc_180 (qU2_win (r := 49) wn_Laws_pushAll_0 (by decide +kernel))
theorem d_Laws_pushAll_52 : decode b_Laws_pushAll 52 = .ok (.iload 5, 2) := dc_21 (qU1_win (r := 52) wn_Laws_pushAll_0 (by decide +kernel))
theorem d_Laws_pushAll_54 : decode b_Laws_pushAll 54 = .ok (.invokestatic 121, 3) := dc_184 (qU2_win (r := 54) wn_Laws_pushAll_0 (by decide +kernel))
theorem d_Laws_pushAll_57 : decode b_Laws_pushAll 57 = .ok (.ifCond .ne 67, 3) := dc_154 (qS2_win (r := 57) wn_Laws_pushAll_0 (by decide +kernel))
theorem d_Laws_pushAll_60 : decode b_Laws_pushAll 60 = .ok (.aload_n 2, 1) := dc_44 (q0_win (r := 60) wn_Laws_pushAll_0 (by decide +kernel))
theorem d_Laws_pushAll_61 : decode b_Laws_pushAll 61 = .ok (.getfield 117, 3) := dc_180 (qU2_win (r := 61) wn_Laws_pushAll_0 (by decide +kernel))
theorem d_Laws_pushAll_64 : decode b_Laws_pushAll 64 = .ok (.iload 8, 2) := dc_21 (qU1_win (r := 64) wn_Laws_pushAll_0 (by decide +kernel))
theorem d_Laws_pushAll_66 : decode b_Laws_pushAll 66 = .ok (.invokestatic 121, 3) := dc_184 (qU2_win (r := 66) wn_Laws_pushAll_0 (by decide +kernel))
theorem d_Laws_pushAll_69 : decode b_Laws_pushAll 69 = .ok (.ifCond .ne 55, 3) := dc_154 (qS2_win (r := 69) wn_Laws_pushAll_0 (by decide +kernel))
theorem d_Laws_pushAll_72 : decode b_Laws_pushAll 72 = .ok (.iload 8, 2) := dc_21 (qU1_win (r := 72) wn_Laws_pushAll_0 (by decide +kernel))
theorem d_Laws_pushAll_74 : decode b_Laws_pushAll 74 = .ok (.iload 6, 2) := dc_21 (qU1_win (r := 74) wn_Laws_pushAll_0 (by decide +kernel))
theorem d_Laws_pushAll_76 : decode b_Laws_pushAll 76 = .ok (.if_icmp .ne 7, 3) := dc_160 (qS2_win (r := 76) wn_Laws_pushAll_0 (by decide +kernel))
theorem d_Laws_pushAll_79 : decode b_Laws_pushAll 79 = .ok (.lconst 0, 1) := dc_9 (q0_win (r := 79) wn_Laws_pushAll_0 (by decide +kernel))
theorem d_Laws_pushAll_80 : decode b_Laws_pushAll 80 = .ok (.goto 14, 3) := dc_167 (qS2_win (r := 80) wn_Laws_pushAll_0 (by decide +kernel))
theorem d_Laws_pushAll_83 : decode b_Laws_pushAll 83 = .ok (.aload_n 0, 1) := dc_42 (q0_win (r := 83) wn_Laws_pushAll_0 (by decide +kernel))
theorem d_Laws_pushAll_84 : decode b_Laws_pushAll 84 = .ok (.aload_n 1, 1) := dc_43 (q0_win (r := 84) wn_Laws_pushAll_0 (by decide +kernel))
theorem d_Laws_pushAll_85 : decode b_Laws_pushAll 85 = .ok (.aload_n 2, 1) := dc_44 (q0_win (r := 85) wn_Laws_pushAll_0 (by decide +kernel))
theorem d_Laws_pushAll_86 : decode b_Laws_pushAll 86 = .ok (.iload 5, 2) := dc_21 (qU1_win (r := 86) wn_Laws_pushAll_0 (by decide +kernel))
theorem d_Laws_pushAll_88 : decode b_Laws_pushAll 88 = .ok (.iload 7, 2) := dc_21 (qU1_win (r := 88) wn_Laws_pushAll_0 (by decide +kernel))
theorem d_Laws_pushAll_90 : decode b_Laws_pushAll 90 = .ok (.iload_n 3, 1) := dc_29 (q0_win (r := 90) wn_Laws_pushAll_0 (by decide +kernel))
theorem d_Laws_pushAll_91 : decode b_Laws_pushAll 91 = .ok (.invokevirtual 145, 3) := dc_182 (qU2_win (r := 91) wn_Laws_pushAll_0 (by decide +kernel))
theorem d_Laws_pushAll_94 : decode b_Laws_pushAll 94 = .ok (.lstore 10, 2) := dc_55 (qU1_win (r := 94) wn_Laws_pushAll_0 (by decide +kernel))
theorem wn_Laws_pushAll_96 : ∀ i, i < 55 → bA b_Laws_pushAll (96 + i) = wB [22, 10, 20, 0, 100, 148, 154, 0, 7, 4, 167, 0, 16, 9, 20, 0, 149, 22, 10, 184, 0, 104, 184, 0, 110, 136, 54, 9, 25, 4, 21, 5, 7, 104, 21, 7, 96, 21, 9, 184, 0, 68, 132, 7, 1, 167, 255, 139, 132, 5, 1, 167, 255, 112, 177] i := wB_of (by decide +kernel)
theorem d_Laws_pushAll_96 : decode b_Laws_pushAll 96 = .ok (.lload 10, 2) := dc_22 (qU1_win (r := 0) wn_Laws_pushAll_96 (by decide +kernel))
theorem d_Laws_pushAll_98 : decode b_Laws_pushAll 98 = .ok (.ldc2_w 100, 3) := dc_20 (qU2_win (r := 2) wn_Laws_pushAll_96 (by decide +kernel))
theorem d_Laws_pushAll_101 : decode b_Laws_pushAll 101 = .ok (.lcmp, 1) := dc_148 (q0_win (r := 5) wn_Laws_pushAll_96 (by decide +kernel))
theorem d_Laws_pushAll_102 : decode b_Laws_pushAll 102 = .ok (.ifCond .ne 7, 3) := dc_154 (qS2_win (r := 6) wn_Laws_pushAll_96 (by decide +kernel))
theorem d_Laws_pushAll_105 : decode b_Laws_pushAll 105 = .ok (.iconst 1, 1) := dc_4 (q0_win (r := 9) wn_Laws_pushAll_96 (by decide +kernel))
theorem d_Laws_pushAll_106 : decode b_Laws_pushAll 106 = .ok (.goto 16, 3) := dc_167 (qS2_win (r := 10) wn_Laws_pushAll_96 (by decide +kernel))
theorem d_Laws_pushAll_109 : decode b_Laws_pushAll 109 = .ok (.lconst 0, 1) := dc_9 (q0_win (r := 13) wn_Laws_pushAll_96 (by decide +kernel))
theorem d_Laws_pushAll_110 : decode b_Laws_pushAll 110 = .ok (.ldc2_w 149, 3) := dc_20 (qU2_win (r := 14) wn_Laws_pushAll_96 (by decide +kernel))
theorem d_Laws_pushAll_113 : decode b_Laws_pushAll 113 = .ok (.lload 10, 2) := dc_22 (qU1_win (r := 17) wn_Laws_pushAll_96 (by decide +kernel))
theorem d_Laws_pushAll_115 : decode b_Laws_pushAll 115 = .ok (.invokestatic 104, 3) := dc_184 (qU2_win (r := 19) wn_Laws_pushAll_96 (by decide +kernel))
theorem d_Laws_pushAll_118 : decode b_Laws_pushAll 118 = .ok (.invokestatic 110, 3) := dc_184 (qU2_win (r := 22) wn_Laws_pushAll_96 (by decide +kernel))
theorem d_Laws_pushAll_121 : decode b_Laws_pushAll 121 = .ok (.l2i, 1) := dc_136 (q0_win (r := 25) wn_Laws_pushAll_96 (by decide +kernel))
theorem d_Laws_pushAll_122 : decode b_Laws_pushAll 122 = .ok (.istore 9, 2) := dc_54 (qU1_win (r := 26) wn_Laws_pushAll_96 (by decide +kernel))
theorem d_Laws_pushAll_124 : decode b_Laws_pushAll 124 = .ok (.aload 4, 2) := dc_25 (qU1_win (r := 28) wn_Laws_pushAll_96 (by decide +kernel))
theorem d_Laws_pushAll_126 : decode b_Laws_pushAll 126 = .ok (.iload 5, 2) := dc_21 (qU1_win (r := 30) wn_Laws_pushAll_96 (by decide +kernel))
theorem d_Laws_pushAll_128 : decode b_Laws_pushAll 128 = .ok (.iconst 4, 1) := dc_7 (q0_win (r := 32) wn_Laws_pushAll_96 (by decide +kernel))
theorem d_Laws_pushAll_129 : decode b_Laws_pushAll 129 = .ok (.imul, 1) := dc_104 (q0_win (r := 33) wn_Laws_pushAll_96 (by decide +kernel))
theorem d_Laws_pushAll_130 : decode b_Laws_pushAll 130 = .ok (.iload 7, 2) := dc_21 (qU1_win (r := 34) wn_Laws_pushAll_96 (by decide +kernel))
theorem d_Laws_pushAll_132 : decode b_Laws_pushAll 132 = .ok (.iadd, 1) := dc_96 (q0_win (r := 36) wn_Laws_pushAll_96 (by decide +kernel))
theorem d_Laws_pushAll_133 : decode b_Laws_pushAll 133 = .ok (.iload 9, 2) := dc_21 (qU1_win (r := 37) wn_Laws_pushAll_96 (by decide +kernel))
theorem d_Laws_pushAll_135 : decode b_Laws_pushAll 135 = .ok (.invokestatic 68, 3) := dc_184 (qU2_win (r := 39) wn_Laws_pushAll_96 (by decide +kernel))
theorem d_Laws_pushAll_138 : decode b_Laws_pushAll 138 = .ok (.iinc 7 1, 3) := dc_132 (qI_win (r := 42) wn_Laws_pushAll_96 (by decide +kernel))
theorem d_Laws_pushAll_141 : decode b_Laws_pushAll 141 = .ok (.goto (-117), 3) := dc_167 (qS2_win (r := 45) wn_Laws_pushAll_96 (by decide +kernel))
theorem d_Laws_pushAll_144 : decode b_Laws_pushAll 144 = .ok (.iinc 5 1, 3) := dc_132 (qI_win (r := 48) wn_Laws_pushAll_96 (by decide +kernel))
theorem d_Laws_pushAll_147 : decode b_Laws_pushAll 147 = .ok (.goto (-144), 3) := dc_167 (qS2_win (r := 51) wn_Laws_pushAll_96 (by decide +kernel))
theorem d_Laws_pushAll_150 : decode b_Laws_pushAll 150 = .ok (.return_, 1) := dc_177 (q0_win (r := 54) wn_Laws_pushAll_96 (by decide +kernel))
def t_Laws_pushAll_L124 (k1 : Nat) (k2 : Nat) (x3 : Int) (r4 : Nat) (N4 : Nat) (bk3 : Mem → Int → Option (Mem)) (bk24 : Mem → Int → Int → Int → Option (Mem)) (M : Mem) (v5_ : Int) (v6_ : Int) (v7_ : Int) (v8_ : Int) : Option (Mem) := (qlet (t_WF_put M r4 N4 (w32 ((w32 (v5_ * 4)) + v7_)) v8_) fun q18 => (bk24 q18 v5_ v6_ (w32 (v7_ + 1))))
def t_Laws_pushAll_L122 (k1 : Nat) (k2 : Nat) (x3 : Int) (r4 : Nat) (N4 : Nat) (bk3 : Mem → Int → Option (Mem)) (bk24 : Mem → Int → Int → Int → Option (Mem)) (M : Mem) (v5_ : Int) (v6_ : Int) (v7_ : Int) (v8_ : Int) : Option (Mem) := (t_Laws_pushAll_L124 k1 k2 x3 r4 N4 bk3 bk24 M v5_ v6_ v7_ v8_)
def t_Laws_pushAll_L94 (k1 : Nat) (k2 : Nat) (x3 : Int) (r4 : Nat) (N4 : Nat) (bk3 : Mem → Int → Option (Mem)) (bk24 : Mem → Int → Int → Int → Option (Mem)) (M : Mem) (v5_ : Int) (v6_ : Int) (v7_ : Int) (v8_ : Int64) : Option (Mem) := (if v8_ = (-9223372036854775808) then (t_Laws_pushAll_L122 k1 k2 x3 r4 N4 bk3 bk24 M v5_ v6_ v7_ 1) else (t_Laws_pushAll_L122 k1 k2 x3 r4 N4 bk3 bk24 M v5_ v6_ v7_ (q_l2i (q_maxl 0 (q_minl 999 v8_)))))
def t_Laws_pushAll_L24 (k1 : Nat) (k2 : Nat) (x3 : Int) (r4 : Nat) (N4 : Nat) (bk3 : Mem → Int → Option (Mem)) : Nat → Mem → Int → Int → Int → Option (Mem)
  | 0, _, _, _, _ => none
  | fu + 1, M, v5_, v6_, v7_ => (if 4 ≤ v7_ then (bk3 M (w32 (v5_ + 1))) else (qlet (t_Town_beside M k1 v5_ v7_) fun q6 => (if q6 < 0 then (t_Laws_pushAll_L124 k1 k2 x3 r4 N4 bk3 (fun a0_ a1_ a2_ a3_ => t_Laws_pushAll_L24 k1 k2 x3 r4 N4 bk3 fu a0_ a1_ a2_ a3_) M v5_ v6_ v7_ (-1)) else (qlet (t_WF_bitOf M (M.2 k2 4) v5_) fun q9 => (if q9 = 0 then (qlet (t_WF_bitOf M (M.2 k2 4) q6) fun q12 => (if q12 = 0 then (if q6 = v6_ then (t_Laws_pushAll_L94 k1 k2 x3 r4 N4 bk3 (fun a0_ a1_ a2_ a3_ => t_Laws_pushAll_L24 k1 k2 x3 r4 N4 bk3 fu a0_ a1_ a2_ a3_) M v5_ v6_ v7_ 0) else (obind (t_Laws_pushFrom M k1 k2 v5_ v7_ x3) fun q16 => (t_Laws_pushAll_L94 k1 k2 x3 r4 N4 bk3 (fun a0_ a1_ a2_ a3_ => t_Laws_pushAll_L24 k1 k2 x3 r4 N4 bk3 fu a0_ a1_ a2_ a3_) (q16.1) v5_ v6_ v7_ (q16.2)))) else (t_Laws_pushAll_L124 k1 k2 x3 r4 N4 bk3 (fun a0_ a1_ a2_ a3_ => t_Laws_pushAll_L24 k1 k2 x3 r4 N4 bk3 fu a0_ a1_ a2_ a3_) M v5_ v6_ v7_ (-1)))) else (t_Laws_pushAll_L124 k1 k2 x3 r4 N4 bk3 (fun a0_ a1_ a2_ a3_ => t_Laws_pushAll_L24 k1 k2 x3 r4 N4 bk3 fu a0_ a1_ a2_ a3_) M v5_ v6_ v7_ (-1)))))))
def t_Laws_pushAll_L3 (k1 : Nat) (k2 : Nat) (x3 : Int) (r4 : Nat) (N4 : Nat)  : Nat → Mem → Int → Option (Mem)
  | 0, _, _ => none
  | fu + 1, M, v5_ => (if (M.1 k1 13) ≤ v5_ then (some M) else (qlet (t_Scene_nextOf M k2 k1 v5_) fun q3 => (t_Laws_pushAll_L24 k1 k2 x3 r4 N4 (fun a0_ a1_ => t_Laws_pushAll_L3 k1 k2 x3 r4 N4 fu a0_ a1_) FU M v5_ q3 0)))
def t_Laws_pushAll (M : Mem) (k1 : Nat) (k2 : Nat) (x3 : Int) (r4 : Nat) (N4 : Nat) : Option (Mem) := (t_Laws_pushAll_L3 k1 k2 x3 r4 N4 FU M 0)
set_option maxHeartbeats 4000000 in
set_option maxRecDepth 100000 in
theorem k_Laws_pushAll_L124 (l : Launch) {p : Program} {e : Env} {s : State} {m : MethodId} {below : List Frame} {meth : Method} {c : Code} {b n : Nat} {C : CT} (hlo : 191 ≤ n) (k1 : Nat) (k2 : Nat) (x3 : Int) (r4 : Nat) (N4 : Nat) (hk1 : isTown k1) (hk2 : isScene k2) (hx3 : InR x3) (hr4 : arrP 0 r4 N4 191) (F : Cx b p m c b_Laws_pushAll 12 s ([.ref (b + 177), .ref (b + k1), .ref (b + k2), vI x3, .ref (b + r4)] : List Value).toArray "WardFalls$Laws" C n 191) (hlk : meth.locks = false) (hr : meth.sig.returnType = none) {res : Mem} (bk3 : Mem → Int → Option (Mem)) (hbk3 : ∀ (M : Mem) (v5_ : Int) (hv5_ : InR v5_) (H : Heap) (locs : List Loc) (ls : Array Slot), St b C n M s H locs → lv_has ls 12 [(0, .ref (b + 177)), (1, .ref (b + k1)), (2, .ref (b + k2)), (3, vI x3), (4, .ref (b + r4)), (5, vI v5_)] → bk3 M v5_ = some res → W p l e (headSpec (wsM y_Laws_pushAll b_Laws_pushAll 12 (none)) (rmD 5)).room s m ([.ref (b + 177), .ref (b + k1), .ref (b + k2), vI x3, .ref (b + r4)] : List Value).toArray below meth c H locs 0 0 (MQ below (QV b C n res) ([.ref (b + 177), .ref (b + k1), .ref (b + k2), vI x3, .ref (b + r4)] : List Value).toArray s 0 0 (frb b)) (F0 m 3 ls [])) (bk24 : Mem → Int → Int → Int → Option (Mem)) (hbk24 : ∀ (M : Mem) (v5_ : Int) (hv5_ : InR v5_) (v6_ : Int) (hv6_ : InR v6_) (v7_ : Int) (hv7_ : InR v7_) (H : Heap) (locs : List Loc) (ls : Array Slot), St b C n M s H locs → lv_has ls 12 [(0, .ref (b + 177)), (1, .ref (b + k1)), (2, .ref (b + k2)), (3, vI x3), (4, .ref (b + r4)), (5, vI v5_), (6, vI v6_), (7, vI v7_)] → bk24 M v5_ v6_ v7_ = some res → W p l e (headSpec (wsM y_Laws_pushAll b_Laws_pushAll 12 (none)) (rmD 5)).room s m ([.ref (b + 177), .ref (b + k1), .ref (b + k2), vI x3, .ref (b + r4)] : List Value).toArray below meth c H locs 0 0 (MQ below (QV b C n res) ([.ref (b + 177), .ref (b + k1), .ref (b + k2), vI x3, .ref (b + r4)] : List Value).toArray s 0 0 (frb b)) (F0 m 24 ls [])) (M : Mem) (v5_ : Int) (hv5_ : InR v5_) (v6_ : Int) (hv6_ : InR v6_) (v7_ : Int) (hv7_ : InR v7_) (v8_ : Int) (hv8_ : InR v8_) (H : Heap) (locs : List Loc) (ls : Array Slot) (hS : St b C n M s H locs) (hl : lv_has ls 12 [(0, .ref (b + 177)), (1, .ref (b + k1)), (2, .ref (b + k2)), (3, vI x3), (4, .ref (b + r4)), (5, vI v5_), (6, vI v6_), (7, vI v7_), (9, vI v8_)]) (hT : t_Laws_pushAll_L124 k1 k2 x3 r4 N4 bk3 bk24 M v5_ v6_ v7_ v8_ = some res) : W p l e (headSpec (wsM y_Laws_pushAll b_Laws_pushAll 12 (none)) (rmD 5)).room s m ([.ref (b + 177), .ref (b + k1), .ref (b + k2), vI x3, .ref (b + r4)] : List Value).toArray below meth c H locs 0 0 (MQ below (QV b C n res) ([.ref (b + 177), .ref (b + k1), .ref (b + k2), vI x3, .ref (b + r4)] : List Value).toArray s 0 0 (frb b)) (F0 m 124 ls []) := by
  unfold t_Laws_pushAll_L124 at hT
  refine lv_aload F.hx F.hb d_Laws_pushAll_124 (lv_at hl 4 rfl) ?_
  refine lv_iload F.hx F.hb d_Laws_pushAll_126 (lv_at hl 5 rfl) ?_
  refine r_iconst F.hx F.hb d_Laws_pushAll_128 ?_
  refine r_imul F.hx F.hb d_Laws_pushAll_129 ?_
  refine lv_iload F.hx F.hb d_Laws_pushAll_130 (lv_at hl 7 rfl) ?_
  refine r_iadd F.hx F.hb d_Laws_pushAll_132 ?_
  refine lv_iload F.hx F.hb d_Laws_pushAll_133 (lv_at hl 8 rfl) ?_
  obtain ⟨q18, hq18⟩ : ∃ q, q = (t_WF_put M r4 N4 (w32 ((w32 (v5_ * 4)) + v7_)) v8_) := ⟨_, rfl⟩
  replace hT := qlet_eq hT hq18
  refine r_backV F hS (r_runSN (As := [.ref (b + r4), vI (w32 ((w32 (v5_ * 4)) + v7_)), vI v8_]) F hS (c_WF_put l F.2.2.1 M r4 N4 (w32 ((w32 (v5_ * 4)) + v7_)) v8_ hr4 (inr_w32 _) hv8_ _ hq18.symm) mw_512 mw_511 mw_1 gs_Laws_68 hd_WF_put ⟨Nat.le_of_ble_eq_true rfl, Nat.le_of_ble_eq_true rfl⟩ rfl hl.1 (Nat.le_of_ble_eq_true rfl) ⟨Nat.zero_le _, Nat.zero_le _⟩ rfl d_Laws_pushAll_135) (fun H locs hS => ?_)
  refine lv_iinc (v := Int32.ofInt (w32 (v7_ + 1))) (lv' := [(7, vI (w32 (v7_ + 1))), (0, .ref (b + 177)), (1, .ref (b + k1)), (2, .ref (b + k2)), (3, vI x3), (4, .ref (b + r4)), (5, vI v5_), (6, vI v6_), (9, vI v8_)]) F.hx F.hb d_Laws_pushAll_138 hl (k := 7) rfl (q_of_add _ _) (Nat.le_of_ble_eq_true rfl) rfl (fun ls hl => ?_)
  refine lv_goto (tgt := 24) F.hx F.hb d_Laws_pushAll_141 (by decide) ?_
  exact hbk24 q18 v5_ hv5_ v6_ hv6_ (w32 (v7_ + 1)) (inr_w32 _) _ _ _ hS (lv_sub hl [1, 2, 3, 4, 5, 6, 7, 0] rfl) hT
set_option maxHeartbeats 4000000 in
set_option maxRecDepth 100000 in
theorem k_Laws_pushAll_L122 (l : Launch) {p : Program} {e : Env} {s : State} {m : MethodId} {below : List Frame} {meth : Method} {c : Code} {b n : Nat} {C : CT} (hlo : 191 ≤ n) (k1 : Nat) (k2 : Nat) (x3 : Int) (r4 : Nat) (N4 : Nat) (hk1 : isTown k1) (hk2 : isScene k2) (hx3 : InR x3) (hr4 : arrP 0 r4 N4 191) (F : Cx b p m c b_Laws_pushAll 12 s ([.ref (b + 177), .ref (b + k1), .ref (b + k2), vI x3, .ref (b + r4)] : List Value).toArray "WardFalls$Laws" C n 191) (hlk : meth.locks = false) (hr : meth.sig.returnType = none) {res : Mem} (bk3 : Mem → Int → Option (Mem)) (hbk3 : ∀ (M : Mem) (v5_ : Int) (hv5_ : InR v5_) (H : Heap) (locs : List Loc) (ls : Array Slot), St b C n M s H locs → lv_has ls 12 [(0, .ref (b + 177)), (1, .ref (b + k1)), (2, .ref (b + k2)), (3, vI x3), (4, .ref (b + r4)), (5, vI v5_)] → bk3 M v5_ = some res → W p l e (headSpec (wsM y_Laws_pushAll b_Laws_pushAll 12 (none)) (rmD 5)).room s m ([.ref (b + 177), .ref (b + k1), .ref (b + k2), vI x3, .ref (b + r4)] : List Value).toArray below meth c H locs 0 0 (MQ below (QV b C n res) ([.ref (b + 177), .ref (b + k1), .ref (b + k2), vI x3, .ref (b + r4)] : List Value).toArray s 0 0 (frb b)) (F0 m 3 ls [])) (bk24 : Mem → Int → Int → Int → Option (Mem)) (hbk24 : ∀ (M : Mem) (v5_ : Int) (hv5_ : InR v5_) (v6_ : Int) (hv6_ : InR v6_) (v7_ : Int) (hv7_ : InR v7_) (H : Heap) (locs : List Loc) (ls : Array Slot), St b C n M s H locs → lv_has ls 12 [(0, .ref (b + 177)), (1, .ref (b + k1)), (2, .ref (b + k2)), (3, vI x3), (4, .ref (b + r4)), (5, vI v5_), (6, vI v6_), (7, vI v7_)] → bk24 M v5_ v6_ v7_ = some res → W p l e (headSpec (wsM y_Laws_pushAll b_Laws_pushAll 12 (none)) (rmD 5)).room s m ([.ref (b + 177), .ref (b + k1), .ref (b + k2), vI x3, .ref (b + r4)] : List Value).toArray below meth c H locs 0 0 (MQ below (QV b C n res) ([.ref (b + 177), .ref (b + k1), .ref (b + k2), vI x3, .ref (b + r4)] : List Value).toArray s 0 0 (frb b)) (F0 m 24 ls [])) (M : Mem) (v5_ : Int) (hv5_ : InR v5_) (v6_ : Int) (hv6_ : InR v6_) (v7_ : Int) (hv7_ : InR v7_) (v8_ : Int) (hv8_ : InR v8_) (H : Heap) (locs : List Loc) (ls : Array Slot) (hS : St b C n M s H locs) (hl : lv_has ls 12 [(0, .ref (b + 177)), (1, .ref (b + k1)), (2, .ref (b + k2)), (3, vI x3), (4, .ref (b + r4)), (5, vI v5_), (6, vI v6_), (7, vI v7_)]) (hT : t_Laws_pushAll_L122 k1 k2 x3 r4 N4 bk3 bk24 M v5_ v6_ v7_ v8_ = some res) : W p l e (headSpec (wsM y_Laws_pushAll b_Laws_pushAll 12 (none)) (rmD 5)).room s m ([.ref (b + 177), .ref (b + k1), .ref (b + k2), vI x3, .ref (b + r4)] : List Value).toArray below meth c H locs 0 0 (MQ below (QV b C n res) ([.ref (b + 177), .ref (b + k1), .ref (b + k2), vI x3, .ref (b + r4)] : List Value).toArray s 0 0 (frb b)) (F0 m 122 ls [vI v8_]) := by
  unfold t_Laws_pushAll_L122 at hT
  refine lv_istore (lv' := [(9, vI v8_), (0, .ref (b + 177)), (1, .ref (b + k1)), (2, .ref (b + k2)), (3, vI x3), (4, .ref (b + r4)), (5, vI v5_), (6, vI v6_), (7, vI v7_)]) F.hx F.hb d_Laws_pushAll_122 hl (Nat.le_of_ble_eq_true rfl) rfl (fun ls hl => ?_)
  exact k_Laws_pushAll_L124 l hlo k1 k2 x3 r4 N4 hk1 hk2 hx3 hr4 F hlk hr bk3 hbk3 bk24 hbk24 M v5_ hv5_ v6_ hv6_ v7_ hv7_ v8_ hv8_ _ _ _ hS (lv_sub hl [1, 2, 3, 4, 5, 6, 7, 8, 0] rfl) hT
set_option maxHeartbeats 4000000 in
set_option maxRecDepth 100000 in
theorem k_Laws_pushAll_L94 (l : Launch) {p : Program} {e : Env} {s : State} {m : MethodId} {below : List Frame} {meth : Method} {c : Code} {b n : Nat} {C : CT} (hlo : 191 ≤ n) (k1 : Nat) (k2 : Nat) (x3 : Int) (r4 : Nat) (N4 : Nat) (hk1 : isTown k1) (hk2 : isScene k2) (hx3 : InR x3) (hr4 : arrP 0 r4 N4 191) (F : Cx b p m c b_Laws_pushAll 12 s ([.ref (b + 177), .ref (b + k1), .ref (b + k2), vI x3, .ref (b + r4)] : List Value).toArray "WardFalls$Laws" C n 191) (hlk : meth.locks = false) (hr : meth.sig.returnType = none) {res : Mem} (bk3 : Mem → Int → Option (Mem)) (hbk3 : ∀ (M : Mem) (v5_ : Int) (hv5_ : InR v5_) (H : Heap) (locs : List Loc) (ls : Array Slot), St b C n M s H locs → lv_has ls 12 [(0, .ref (b + 177)), (1, .ref (b + k1)), (2, .ref (b + k2)), (3, vI x3), (4, .ref (b + r4)), (5, vI v5_)] → bk3 M v5_ = some res → W p l e (headSpec (wsM y_Laws_pushAll b_Laws_pushAll 12 (none)) (rmD 5)).room s m ([.ref (b + 177), .ref (b + k1), .ref (b + k2), vI x3, .ref (b + r4)] : List Value).toArray below meth c H locs 0 0 (MQ below (QV b C n res) ([.ref (b + 177), .ref (b + k1), .ref (b + k2), vI x3, .ref (b + r4)] : List Value).toArray s 0 0 (frb b)) (F0 m 3 ls [])) (bk24 : Mem → Int → Int → Int → Option (Mem)) (hbk24 : ∀ (M : Mem) (v5_ : Int) (hv5_ : InR v5_) (v6_ : Int) (hv6_ : InR v6_) (v7_ : Int) (hv7_ : InR v7_) (H : Heap) (locs : List Loc) (ls : Array Slot), St b C n M s H locs → lv_has ls 12 [(0, .ref (b + 177)), (1, .ref (b + k1)), (2, .ref (b + k2)), (3, vI x3), (4, .ref (b + r4)), (5, vI v5_), (6, vI v6_), (7, vI v7_)] → bk24 M v5_ v6_ v7_ = some res → W p l e (headSpec (wsM y_Laws_pushAll b_Laws_pushAll 12 (none)) (rmD 5)).room s m ([.ref (b + 177), .ref (b + k1), .ref (b + k2), vI x3, .ref (b + r4)] : List Value).toArray below meth c H locs 0 0 (MQ below (QV b C n res) ([.ref (b + 177), .ref (b + k1), .ref (b + k2), vI x3, .ref (b + r4)] : List Value).toArray s 0 0 (frb b)) (F0 m 24 ls [])) (M : Mem) (v5_ : Int) (hv5_ : InR v5_) (v6_ : Int) (hv6_ : InR v6_) (v7_ : Int) (hv7_ : InR v7_) (v8_ : Int64) (H : Heap) (locs : List Loc) (ls : Array Slot) (hS : St b C n M s H locs) (hl : lv_has ls 12 [(0, .ref (b + 177)), (1, .ref (b + k1)), (2, .ref (b + k2)), (3, vI x3), (4, .ref (b + r4)), (5, vI v5_), (6, vI v6_), (7, vI v7_)]) (hT : t_Laws_pushAll_L94 k1 k2 x3 r4 N4 bk3 bk24 M v5_ v6_ v7_ v8_ = some res) : W p l e (headSpec (wsM y_Laws_pushAll b_Laws_pushAll 12 (none)) (rmD 5)).room s m ([.ref (b + 177), .ref (b + k1), .ref (b + k2), vI x3, .ref (b + r4)] : List Value).toArray below meth c H locs 0 0 (MQ below (QV b C n res) ([.ref (b + 177), .ref (b + k1), .ref (b + k2), vI x3, .ref (b + r4)] : List Value).toArray s 0 0 (frb b)) (F0 m 94 ls [.long v8_]) := by
  unfold t_Laws_pushAll_L94 at hT
  refine lv_lstore (lv' := [(10, .long v8_), (0, .ref (b + 177)), (1, .ref (b + k1)), (2, .ref (b + k2)), (3, vI x3), (4, .ref (b + r4)), (5, vI v5_), (6, vI v6_), (7, vI v7_)]) F.hx F.hb d_Laws_pushAll_94 hl (Nat.le_of_ble_eq_true rfl) rfl (fun ls hl => ?_)
  refine lv_lload F.hx F.hb d_Laws_pushAll_96 (lv_at hl 0 rfl) ?_
  refine lv_ldc2 (v := (-9223372036854775808)) F.hx F.hb F.hown (F.hts mw_920) d_Laws_pushAll_98 ?_
  refine W.lcmp F.hx F.hb d_Laws_pushAll_101 ?_
  refine r_lif_ne (tgt := 109) F.hx F.hb  d_Laws_pushAll_102 (by decide) (fun c20 => ?_) (fun c20 => ?_)
  · replace hT := (if_neg c20).symm.trans hT
    refine lv_lconst (v := 0) F.hx F.hb d_Laws_pushAll_109 rfl ?_
    refine lv_ldc2 (v := 999) F.hx F.hb F.hown (F.hts mw_1102) d_Laws_pushAll_110 ?_
    refine lv_lload F.hx F.hb d_Laws_pushAll_113 (lv_at hl 0 rfl) ?_
    refine r_mminl F hl.1 mw_922 mw_923 mw_14 mw_924 ⟨Nat.le_of_ble_eq_true rfl, Nat.le_of_ble_eq_true rfl⟩ (Nat.le_of_ble_eq_true rfl) ⟨Nat.zero_le _, Nat.zero_le _⟩ d_Laws_pushAll_115 ?_
    refine r_mmaxl F hl.1 mw_925 mw_926 mw_14 mw_927 ⟨Nat.le_of_ble_eq_true rfl, Nat.le_of_ble_eq_true rfl⟩ (Nat.le_of_ble_eq_true rfl) ⟨Nat.zero_le _, Nat.zero_le _⟩ d_Laws_pushAll_118 ?_
    refine r_l2i F.hx F.hb d_Laws_pushAll_121 ?_
    exact k_Laws_pushAll_L122 l hlo k1 k2 x3 r4 N4 hk1 hk2 hx3 hr4 F hlk hr bk3 hbk3 bk24 hbk24 M v5_ hv5_ v6_ hv6_ v7_ hv7_ (q_l2i (q_maxl 0 (q_minl 999 v8_))) (q_inr_toInt _) _ _ _ hS (lv_sub hl [1, 2, 3, 4, 5, 6, 7, 8] rfl) hT
  · replace hT := (if_pos c20).symm.trans hT
    refine r_iconst F.hx F.hb d_Laws_pushAll_105 ?_
    refine lv_goto (tgt := 122) F.hx F.hb d_Laws_pushAll_106 (by decide) ?_
    exact k_Laws_pushAll_L122 l hlo k1 k2 x3 r4 N4 hk1 hk2 hx3 hr4 F hlk hr bk3 hbk3 bk24 hbk24 M v5_ hv5_ v6_ hv6_ v7_ hv7_ 1 (inr_c rfl) _ _ _ hS (lv_sub hl [1, 2, 3, 4, 5, 6, 7, 8] rfl) hT
set_option maxHeartbeats 4000000 in
set_option maxRecDepth 100000 in
theorem k_Laws_pushAll_L24 (l : Launch) {p : Program} {e : Env} {s : State} {m : MethodId} {below : List Frame} {meth : Method} {c : Code} {b n : Nat} {C : CT} (hlo : 191 ≤ n) (k1 : Nat) (k2 : Nat) (x3 : Int) (r4 : Nat) (N4 : Nat) (hk1 : isTown k1) (hk2 : isScene k2) (hx3 : InR x3) (hr4 : arrP 0 r4 N4 191) (F : Cx b p m c b_Laws_pushAll 12 s ([.ref (b + 177), .ref (b + k1), .ref (b + k2), vI x3, .ref (b + r4)] : List Value).toArray "WardFalls$Laws" C n 191) (hlk : meth.locks = false) (hr : meth.sig.returnType = none) {res : Mem} (bk3 : Mem → Int → Option (Mem)) (hbk3 : ∀ (M : Mem) (v5_ : Int) (hv5_ : InR v5_) (H : Heap) (locs : List Loc) (ls : Array Slot), St b C n M s H locs → lv_has ls 12 [(0, .ref (b + 177)), (1, .ref (b + k1)), (2, .ref (b + k2)), (3, vI x3), (4, .ref (b + r4)), (5, vI v5_)] → bk3 M v5_ = some res → W p l e (headSpec (wsM y_Laws_pushAll b_Laws_pushAll 12 (none)) (rmD 5)).room s m ([.ref (b + 177), .ref (b + k1), .ref (b + k2), vI x3, .ref (b + r4)] : List Value).toArray below meth c H locs 0 0 (MQ below (QV b C n res) ([.ref (b + 177), .ref (b + k1), .ref (b + k2), vI x3, .ref (b + r4)] : List Value).toArray s 0 0 (frb b)) (F0 m 3 ls [])) : ∀ (fu : Nat) (M : Mem) (v5_ : Int) (hv5_ : InR v5_) (v6_ : Int) (hv6_ : InR v6_) (v7_ : Int) (hv7_ : InR v7_) (H : Heap) (locs : List Loc) (ls : Array Slot), St b C n M s H locs → lv_has ls 12 [(0, .ref (b + 177)), (1, .ref (b + k1)), (2, .ref (b + k2)), (3, vI x3), (4, .ref (b + r4)), (5, vI v5_), (6, vI v6_), (7, vI v7_)] → t_Laws_pushAll_L24 k1 k2 x3 r4 N4 bk3 fu M v5_ v6_ v7_ = some res → W p l e (headSpec (wsM y_Laws_pushAll b_Laws_pushAll 12 (none)) (rmD 5)).room s m ([.ref (b + 177), .ref (b + k1), .ref (b + k2), vI x3, .ref (b + r4)] : List Value).toArray below meth c H locs 0 0 (MQ below (QV b C n res) ([.ref (b + 177), .ref (b + k1), .ref (b + k2), vI x3, .ref (b + r4)] : List Value).toArray s 0 0 (frb b)) (F0 m 24 ls []) := by
  intro fu
  induction fu with
  | zero => intro M v5_ hv5_ v6_ hv6_ v7_ hv7_ H locs ls hS hl hT; exact absurd hT (by simp [t_Laws_pushAll_L24])
  | succ fu ih =>
    intro M v5_ hv5_ v6_ hv6_ v7_ hv7_ H locs ls hS hl hT
    rw [t_Laws_pushAll_L24] at hT
    refine lv_iload F.hx F.hb d_Laws_pushAll_24 (lv_at hl 7 rfl) ?_
    refine r_iconst F.hx F.hb d_Laws_pushAll_26 ?_
    refine r_icmp_ge (tgt := 144) F.hx F.hb hv7_ (inr_c rfl) d_Laws_pushAll_27 (by decide) (fun c5 => ?_) (fun c5 => ?_)
    · replace hT := (if_pos c5).symm.trans hT
      refine lv_iinc (v := Int32.ofInt (w32 (v5_ + 1))) (lv' := [(5, vI (w32 (v5_ + 1))), (0, .ref (b + 177)), (1, .ref (b + k1)), (2, .ref (b + k2)), (3, vI x3), (4, .ref (b + r4)), (6, vI v6_), (7, vI v7_)]) F.hx F.hb d_Laws_pushAll_144 hl (k := 5) rfl (q_of_add _ _) (Nat.le_of_ble_eq_true rfl) rfl (fun ls hl => ?_)
      refine lv_goto (tgt := 3) F.hx F.hb d_Laws_pushAll_147 (by decide) ?_
      exact hbk3 M (w32 (v5_ + 1)) (inr_w32 _) _ _ _ hS (lv_sub hl [1, 2, 3, 4, 5, 0] rfl) hT
    · replace hT := (if_neg c5).symm.trans hT
      refine lv_aload_n F.hx F.hb d_Laws_pushAll_30 rfl (lv_at hl 1 rfl) ?_
      refine lv_iload F.hx F.hb d_Laws_pushAll_31 (lv_at hl 5 rfl) ?_
      refine lv_iload F.hx F.hb d_Laws_pushAll_33 (lv_at hl 7 rfl) ?_
      obtain ⟨q6, hq6⟩ : ∃ q, q = (t_Town_beside M k1 v5_ v7_) := ⟨_, rfl⟩
      replace hT := qlet_eq hT hq6
      refine r_backI F hS (r_runV (k := k1) (N := 20) (T := T11) (As := [vI v5_, vI v7_]) F hS (Town_lt hk1) (Town_sh hk1) rfl (c_Town_beside l F.2.2.1 M k1 v5_ v7_ hk1 hv5_ hv7_ _ hq6.symm) gs_Laws_113 hd_Town_beside ⟨Nat.le_of_ble_eq_true rfl, Nat.le_of_ble_eq_true rfl⟩ rfl hl.1 (Nat.le_of_ble_eq_true rfl) ⟨Nat.zero_le _, Nat.zero_le _⟩ rfl d_Laws_pushAll_35) (fun H locs hS h7 => ?_)
      refine lv_istore (lv' := [(8, vI q6), (0, .ref (b + 177)), (1, .ref (b + k1)), (2, .ref (b + k2)), (3, vI x3), (4, .ref (b + r4)), (5, vI v5_), (6, vI v6_), (7, vI v7_)]) F.hx F.hb d_Laws_pushAll_38 hl (Nat.le_of_ble_eq_true rfl) rfl (fun ls hl => ?_)
      refine r_iconst F.hx F.hb d_Laws_pushAll_40 ?_
      refine lv_istore (lv' := [(9, vI (-1)), (8, vI q6), (0, .ref (b + 177)), (1, .ref (b + k1)), (2, .ref (b + k2)), (3, vI x3), (4, .ref (b + r4)), (5, vI v5_), (6, vI v6_), (7, vI v7_)]) F.hx F.hb d_Laws_pushAll_41 hl (Nat.le_of_ble_eq_true rfl) rfl (fun ls hl => ?_)
      refine lv_iload F.hx F.hb d_Laws_pushAll_43 (lv_at hl 1 rfl) ?_
      refine r_if_lt (tgt := 124) F.hx F.hb h7 d_Laws_pushAll_45 (by decide) (fun c8 => ?_) (fun c8 => ?_)
      · replace hT := (if_pos c8).symm.trans hT
        exact k_Laws_pushAll_L124 l hlo k1 k2 x3 r4 N4 hk1 hk2 hx3 hr4 F hlk hr bk3 hbk3 (fun a0_ a1_ a2_ a3_ => t_Laws_pushAll_L24 k1 k2 x3 r4 N4 bk3 fu a0_ a1_ a2_ a3_) ih M v5_ hv5_ v6_ hv6_ v7_ hv7_ (-1) (inr_c rfl) _ _ _ hS (lv_sub hl [2, 3, 4, 5, 6, 7, 8, 9, 0] rfl) hT
      · replace hT := (if_neg c8).symm.trans hT
        refine lv_aload_n F.hx F.hb d_Laws_pushAll_48 rfl (lv_at hl 4 rfl) ?_
        refine r_get (v := .long (M.2 k2 4)) (N := 7) (T := T9) (j := 4) F hS (Scene_lt hk2) (Scene_sh hk2) (Scene_N hk2) rfl (Nat.le_of_ble_eq_true rfl) ing9 mw_286 (fv_long rfl) d_Laws_pushAll_49 ?_
        refine lv_iload F.hx F.hb d_Laws_pushAll_52 (lv_at hl 7 rfl) ?_
        obtain ⟨q9, hq9⟩ : ∃ q, q = (t_WF_bitOf M (M.2 k2 4) v5_) := ⟨_, rfl⟩
        replace hT := qlet_eq hT hq9
        refine r_backI F hS (r_runSN (As := [.long (M.2 k2 4), vI v5_]) F hS (c_WF_bitOf l F.2.2.1 M (M.2 k2 4) v5_ hv5_ _ hq9.symm) mw_773 mw_772 mw_1 gs_Laws_121 hd_WF_bitOf ⟨Nat.le_of_ble_eq_true rfl, Nat.le_of_ble_eq_true rfl⟩ rfl hl.1 (Nat.le_of_ble_eq_true rfl) ⟨Nat.zero_le _, Nat.zero_le _⟩ rfl d_Laws_pushAll_54) (fun H locs hS h10 => ?_)
        refine r_if_ne (tgt := 124) F.hx F.hb h10 d_Laws_pushAll_57 (by decide) (fun c11 => ?_) (fun c11 => ?_)
        · replace hT := (if_neg c11).symm.trans hT
          exact k_Laws_pushAll_L124 l hlo k1 k2 x3 r4 N4 hk1 hk2 hx3 hr4 F hlk hr bk3 hbk3 (fun a0_ a1_ a2_ a3_ => t_Laws_pushAll_L24 k1 k2 x3 r4 N4 bk3 fu a0_ a1_ a2_ a3_) ih M v5_ hv5_ v6_ hv6_ v7_ hv7_ (-1) (inr_c rfl) _ _ _ hS (lv_sub hl [2, 3, 4, 5, 6, 7, 8, 9, 0] rfl) hT
        · replace hT := (if_pos c11).symm.trans hT
          refine lv_aload_n F.hx F.hb d_Laws_pushAll_60 rfl (lv_at hl 4 rfl) ?_
          refine r_get (v := .long (M.2 k2 4)) (N := 7) (T := T9) (j := 4) F hS (Scene_lt hk2) (Scene_sh hk2) (Scene_N hk2) rfl (Nat.le_of_ble_eq_true rfl) ing9 mw_286 (fv_long rfl) d_Laws_pushAll_61 ?_
          refine lv_iload F.hx F.hb d_Laws_pushAll_64 (lv_at hl 1 rfl) ?_
          obtain ⟨q12, hq12⟩ : ∃ q, q = (t_WF_bitOf M (M.2 k2 4) q6) := ⟨_, rfl⟩
          replace hT := qlet_eq hT hq12
          refine r_backI F hS (r_runSN (As := [.long (M.2 k2 4), vI q6]) F hS (c_WF_bitOf l F.2.2.1 M (M.2 k2 4) q6 h7 _ hq12.symm) mw_773 mw_772 mw_1 gs_Laws_121 hd_WF_bitOf ⟨Nat.le_of_ble_eq_true rfl, Nat.le_of_ble_eq_true rfl⟩ rfl hl.1 (Nat.le_of_ble_eq_true rfl) ⟨Nat.zero_le _, Nat.zero_le _⟩ rfl d_Laws_pushAll_66) (fun H locs hS h13 => ?_)
          refine r_if_ne (tgt := 124) F.hx F.hb h13 d_Laws_pushAll_69 (by decide) (fun c14 => ?_) (fun c14 => ?_)
          · replace hT := (if_neg c14).symm.trans hT
            exact k_Laws_pushAll_L124 l hlo k1 k2 x3 r4 N4 hk1 hk2 hx3 hr4 F hlk hr bk3 hbk3 (fun a0_ a1_ a2_ a3_ => t_Laws_pushAll_L24 k1 k2 x3 r4 N4 bk3 fu a0_ a1_ a2_ a3_) ih M v5_ hv5_ v6_ hv6_ v7_ hv7_ (-1) (inr_c rfl) _ _ _ hS (lv_sub hl [2, 3, 4, 5, 6, 7, 8, 9, 0] rfl) hT
          · replace hT := (if_pos c14).symm.trans hT
            refine lv_iload F.hx F.hb d_Laws_pushAll_72 (lv_at hl 1 rfl) ?_
            refine lv_iload F.hx F.hb d_Laws_pushAll_74 (lv_at hl 8 rfl) ?_
            refine r_icmp_ne (tgt := 83) F.hx F.hb h7 hv6_ d_Laws_pushAll_76 (by decide) (fun c15 => ?_) (fun c15 => ?_)
            · replace hT := (if_neg c15).symm.trans hT
              refine lv_aload_n F.hx F.hb d_Laws_pushAll_83 rfl (lv_at hl 2 rfl) ?_
              refine lv_aload_n F.hx F.hb d_Laws_pushAll_84 rfl (lv_at hl 3 rfl) ?_
              refine lv_aload_n F.hx F.hb d_Laws_pushAll_85 rfl (lv_at hl 4 rfl) ?_
              refine lv_iload F.hx F.hb d_Laws_pushAll_86 (lv_at hl 7 rfl) ?_
              refine lv_iload F.hx F.hb d_Laws_pushAll_88 (lv_at hl 9 rfl) ?_
              refine lv_iload_n F.hx F.hb d_Laws_pushAll_90 rfl (lv_at hl 5 rfl) ?_
              obtain ⟨q16, hq16, hT⟩ := q_obind hT
              refine r_backL F hS (r_runV (k := 177) (N := 9) (T := T4) (As := [.ref (b + k1), .ref (b + k2), vI v5_, vI v7_, vI x3]) F hS (show 177 < 191 by decide) (show shK 177 = 8 from rfl) rfl (c_Laws_pushFrom l F.2.2.1 M k1 k2 v5_ v7_ x3 hk1 hk2 hv5_ hv7_ hx3 _ hq16) gs_Laws_145 hd_Laws_pushFrom ⟨Nat.le_of_ble_eq_true rfl, Nat.le_of_ble_eq_true rfl⟩ rfl hl.1 (Nat.le_of_ble_eq_true rfl) ⟨Nat.zero_le _, Nat.zero_le _⟩ rfl d_Laws_pushAll_91) (fun H locs hS => ?_)
              exact k_Laws_pushAll_L94 l hlo k1 k2 x3 r4 N4 hk1 hk2 hx3 hr4 F hlk hr bk3 hbk3 (fun a0_ a1_ a2_ a3_ => t_Laws_pushAll_L24 k1 k2 x3 r4 N4 bk3 fu a0_ a1_ a2_ a3_) ih (q16.1) v5_ hv5_ v6_ hv6_ v7_ hv7_ (q16.2) _ _ _ hS (lv_sub hl [2, 3, 4, 5, 6, 7, 8, 9] rfl) hT
            · replace hT := (if_pos c15).symm.trans hT
              refine lv_lconst (v := 0) F.hx F.hb d_Laws_pushAll_79 rfl ?_
              refine lv_goto (tgt := 94) F.hx F.hb d_Laws_pushAll_80 (by decide) ?_
              exact k_Laws_pushAll_L94 l hlo k1 k2 x3 r4 N4 hk1 hk2 hx3 hr4 F hlk hr bk3 hbk3 (fun a0_ a1_ a2_ a3_ => t_Laws_pushAll_L24 k1 k2 x3 r4 N4 bk3 fu a0_ a1_ a2_ a3_) ih M v5_ hv5_ v6_ hv6_ v7_ hv7_ 0 _ _ _ hS (lv_sub hl [2, 3, 4, 5, 6, 7, 8, 9] rfl) hT
set_option maxHeartbeats 4000000 in
set_option maxRecDepth 100000 in
theorem k_Laws_pushAll_L3 (l : Launch) {p : Program} {e : Env} {s : State} {m : MethodId} {below : List Frame} {meth : Method} {c : Code} {b n : Nat} {C : CT} (hlo : 191 ≤ n) (k1 : Nat) (k2 : Nat) (x3 : Int) (r4 : Nat) (N4 : Nat) (hk1 : isTown k1) (hk2 : isScene k2) (hx3 : InR x3) (hr4 : arrP 0 r4 N4 191) (F : Cx b p m c b_Laws_pushAll 12 s ([.ref (b + 177), .ref (b + k1), .ref (b + k2), vI x3, .ref (b + r4)] : List Value).toArray "WardFalls$Laws" C n 191) (hlk : meth.locks = false) (hr : meth.sig.returnType = none) {res : Mem} : ∀ (fu : Nat) (M : Mem) (v5_ : Int) (hv5_ : InR v5_) (H : Heap) (locs : List Loc) (ls : Array Slot), St b C n M s H locs → lv_has ls 12 [(0, .ref (b + 177)), (1, .ref (b + k1)), (2, .ref (b + k2)), (3, vI x3), (4, .ref (b + r4)), (5, vI v5_)] → t_Laws_pushAll_L3 k1 k2 x3 r4 N4 fu M v5_ = some res → W p l e (headSpec (wsM y_Laws_pushAll b_Laws_pushAll 12 (none)) (rmD 5)).room s m ([.ref (b + 177), .ref (b + k1), .ref (b + k2), vI x3, .ref (b + r4)] : List Value).toArray below meth c H locs 0 0 (MQ below (QV b C n res) ([.ref (b + 177), .ref (b + k1), .ref (b + k2), vI x3, .ref (b + r4)] : List Value).toArray s 0 0 (frb b)) (F0 m 3 ls []) := by
  intro fu
  induction fu with
  | zero => intro M v5_ hv5_ H locs ls hS hl hT; exact absurd hT (by simp [t_Laws_pushAll_L3])
  | succ fu ih =>
    intro M v5_ hv5_ H locs ls hS hl hT
    rw [t_Laws_pushAll_L3] at hT
    refine lv_iload F.hx F.hb d_Laws_pushAll_3 (lv_at hl 5 rfl) ?_
    refine lv_aload_n F.hx F.hb d_Laws_pushAll_5 rfl (lv_at hl 1 rfl) ?_
    refine r_get (v := vI (M.1 k1 13)) (N := 20) (T := T11) (j := 13) F hS (Town_lt hk1) (Town_sh hk1) (Town_N hk1) rfl (Nat.le_of_ble_eq_true rfl) ing11 mw_129 (fv_int rfl) d_Laws_pushAll_6 ?_
    have i1 := hS.rng k1 13
    refine r_icmp_ge (tgt := 150) F.hx F.hb hv5_ i1 d_Laws_pushAll_9 (by decide) (fun c2 => ?_) (fun c2 => ?_)
    · replace hT := (if_pos c2).symm.trans hT
      cases hT
      exact r_vret F hlk hr hS d_Laws_pushAll_150
    · replace hT := (if_neg c2).symm.trans hT
      refine lv_aload_n F.hx F.hb d_Laws_pushAll_12 rfl (lv_at hl 2 rfl) ?_
      refine lv_aload_n F.hx F.hb d_Laws_pushAll_13 rfl (lv_at hl 1 rfl) ?_
      refine lv_iload F.hx F.hb d_Laws_pushAll_14 (lv_at hl 5 rfl) ?_
      obtain ⟨q3, hq3⟩ : ∃ q, q = (t_Scene_nextOf M k2 k1 v5_) := ⟨_, rfl⟩
      replace hT := qlet_eq hT hq3
      refine r_backI F hS (r_runV (k := k2) (N := 7) (T := T9) (As := [.ref (b + k1), vI v5_]) F hS (Scene_lt hk2) (Scene_sh hk2) rfl (c_Scene_nextOf l F.2.2.1 M k2 k1 v5_ hk2 hk1 hv5_ _ hq3.symm) gs_Laws_142 hd_Scene_nextOf ⟨Nat.le_of_ble_eq_true rfl, Nat.le_of_ble_eq_true rfl⟩ rfl hl.1 (Nat.le_of_ble_eq_true rfl) ⟨Nat.zero_le _, Nat.zero_le _⟩ rfl d_Laws_pushAll_16) (fun H locs hS h4 => ?_)
      refine lv_istore (lv' := [(6, vI q3), (0, .ref (b + 177)), (1, .ref (b + k1)), (2, .ref (b + k2)), (3, vI x3), (4, .ref (b + r4)), (5, vI v5_)]) F.hx F.hb d_Laws_pushAll_19 hl (Nat.le_of_ble_eq_true rfl) rfl (fun ls hl => ?_)
      refine r_iconst F.hx F.hb d_Laws_pushAll_21 ?_
      refine lv_istore (lv' := [(7, vI 0), (6, vI q3), (0, .ref (b + 177)), (1, .ref (b + k1)), (2, .ref (b + k2)), (3, vI x3), (4, .ref (b + r4)), (5, vI v5_)]) F.hx F.hb d_Laws_pushAll_22 hl (Nat.le_of_ble_eq_true rfl) rfl (fun ls hl => ?_)
      exact k_Laws_pushAll_L24 l hlo k1 k2 x3 r4 N4 hk1 hk2 hx3 hr4 F hlk hr (fun a0_ a1_ => t_Laws_pushAll_L3 k1 k2 x3 r4 N4 fu a0_ a1_) ih FU M v5_ hv5_ q3 h4 0 (inr_c rfl) _ _ _ hS (lv_sub hl [2, 3, 4, 5, 6, 7, 1, 0] rfl) hT
set_option maxHeartbeats 4000000 in
set_option maxRecDepth 100000 in
theorem c_Laws_pushAll (l : Launch) {b n : Nat} {C : CT} (hlo : 191 ≤ n) (M : Mem) (k1 : Nat) (k2 : Nat) (x3 : Int) (r4 : Nat) (N4 : Nat) (hk1 : isTown k1) (hk2 : isScene k2) (hx3 : InR x3) (hr4 : arrP 0 r4 N4 191) (res : Mem) (hT : t_Laws_pushAll M k1 k2 x3 r4 N4 = some res) : CM l b C n 5 y_Laws_pushAll b_Laws_pushAll 12 (none) [.ref (b + 177), .ref (b + k1), .ref (b + k2), vI x3, .ref (b + r4)] M (QV b C n res) := by
  refine CM.of (lo := 191) (ow := "WardFalls$Laws") (by decide) rfl (Nat.le_of_ble_eq_true rfl) hlo (fun p e s m below meth c F hlk hr hS ls hl => ?_)
  have hl : lv_has ls 12 [(0, .ref (b + 177)), (1, .ref (b + k1)), (2, .ref (b + k2)), (3, vI x3), (4, .ref (b + r4))] := hl
  unfold t_Laws_pushAll at hT
  refine r_iconst F.hx F.hb d_Laws_pushAll_0 ?_
  refine lv_istore (lv' := [(5, vI 0), (0, .ref (b + 177)), (1, .ref (b + k1)), (2, .ref (b + k2)), (3, vI x3), (4, .ref (b + r4))]) F.hx F.hb d_Laws_pushAll_1 hl (Nat.le_of_ble_eq_true rfl) rfl (fun ls hl => ?_)
  exact k_Laws_pushAll_L3 l hlo k1 k2 x3 r4 N4 hk1 hk2 hx3 hr4 F hlk hr FU M 0 (inr_c rfl) _ _ _ hS (lv_sub hl [1, 2, 3, 4, 5, 0] rfl) hT
end
section
theorem d_WF_findPushed_0 : decode b_WF_findPushed 0 = .ok (.aload_n 0, 1) := dc_42 (by decide +kernel)
theorem d_WF_findPushed_1 : decode b_WF_findPushed 1 = .ok (.getfield 83, 3) := dc_180 (by decide +kernel)
theorem d_WF_findPushed_4 : decode b_WF_findPushed 4 = .ok (.aload_n 0, 1) := dc_42 (by decide +kernel)
theorem d_WF_findPushed_5 : decode b_WF_findPushed 5 = .ok (.getfield 22, 3) := dc_180 (by decide +kernel)
theorem d_WF_findPushed_8 : decode b_WF_findPushed 8 = .ok (.aload_n 0, 1) := dc_42 (by decide +kernel)
theorem d_WF_findPushed_9 : decode b_WF_findPushed 9 = .ok (.getfield 46, 3) := dc_180 (by decide +kernel)
theorem d_WF_findPushed_12 : decode b_WF_findPushed 12 = .ok (.aload_n 0, 1) := dc_42 (by decide +kernel)
theorem d_WF_findPushed_13 : decode b_WF_findPushed 13 = .ok (.getfield 59, 3) := dc_180 (by decide +kernel)
theorem d_WF_findPushed_16 : decode b_WF_findPushed 16 = .ok (.getfield 218, 3) := dc_180 (by decide +kernel)
theorem d_WF_findPushed_19 : decode b_WF_findPushed 19 = .ok (.aload_n 0, 1) := dc_42 (by decide +kernel)
theorem d_WF_findPushed_20 : decode b_WF_findPushed 20 = .ok (.getfield 90, 3) := dc_180 (by decide +kernel)
theorem d_WF_findPushed_23 : decode b_WF_findPushed 23 = .ok (.getfield 434, 3) := dc_180 (by decide +kernel)
theorem d_WF_findPushed_26 : decode b_WF_findPushed 26 = .ok (.invokevirtual 437, 3) := dc_182 (by decide +kernel)
theorem d_WF_findPushed_29 : decode b_WF_findPushed 29 = .ok (.aload_n 0, 1) := dc_42 (by decide +kernel)
theorem d_WF_findPushed_30 : decode b_WF_findPushed 30 = .ok (.getfield 90, 3) := dc_180 (by decide +kernel)
theorem d_WF_findPushed_33 : decode b_WF_findPushed 33 = .ok (.aload_n 0, 1) := dc_42 (by decide +kernel)
theorem d_WF_findPushed_34 : decode b_WF_findPushed 34 = .ok (.getfield 22, 3) := dc_180 (by decide +kernel)
theorem d_WF_findPushed_37 : decode b_WF_findPushed 37 = .ok (.iload_n 1, 1) := dc_27 (by decide +kernel)
theorem d_WF_findPushed_38 : decode b_WF_findPushed 38 = .ok (.iload_n 2, 1) := dc_28 (by decide +kernel)
theorem d_WF_findPushed_39 : decode b_WF_findPushed 39 = .ok (.invokevirtual 441, 3) := dc_182 (by decide +kernel)
theorem d_WF_findPushed_42 : decode b_WF_findPushed 42 = .ok (.return_, 1) := dc_177 (by decide +kernel)
def t_WF_findPushed (M : Mem) (x1 : Int) (x2 : Int) : Option (Mem) := (obind (t_Laws_pushAll M ((M.1 0 4).toNat) 47 (M.1 62 3) 186 192) fun q3 => (obind (t_Paths_find q3 ((q3.1 0 4).toNat) x1 x2) fun q6 => (some q6)))
set_option maxHeartbeats 4000000 in
set_option maxRecDepth 100000 in
theorem c_WF_findPushed (l : Launch) {b n : Nat} {C : CT} (hlo : 191 ≤ n) (M : Mem) (x1 : Int) (x2 : Int) (hx1 : InR x1) (hx2 : InR x2) (res : Mem) (hT : t_WF_findPushed M x1 x2 = some res) : CM l b C n 6 y_WF_findPushed b_WF_findPushed 3 (none) [.ref (b + 0), vI x1, vI x2] M (QV b C n res) := by
  refine CM.of (lo := 191) (ow := "WardFalls") (by decide) rfl (Nat.le_of_ble_eq_true rfl) hlo (fun p e s m below meth c F hlk hr hS ls hl => ?_)
  have hl : lv_has ls 3 [(0, .ref (b + 0)), (1, vI x1), (2, vI x2)] := hl
  unfold t_WF_findPushed at hT
  refine lv_aload_n F.hx F.hb d_WF_findPushed_0 rfl (lv_at hl 0 rfl) ?_
  refine r_get (v := .ref (b + 177)) (N := 19) (T := T0) (j := 16) F hS (show 0 < 191 by decide) (show shK 0 = 4 from rfl) (show shN 0 = 19 from rfl) rfl (Nat.le_of_ble_eq_true rfl) ing0 mw_566 (fv_sg rfl rfl rfl) d_WF_findPushed_1 ?_
  refine lv_aload_n F.hx F.hb d_WF_findPushed_4 rfl (lv_at hl 0 rfl) ?_
  have h1 := St_town hS
  refine r_get (v := .ref (b + ((M.1 0 4).toNat))) (N := 19) (T := T0) (j := 4) F hS (show 0 < 191 by decide) (show shK 0 = 4 from rfl) (show shN 0 = 19 from rfl) rfl (Nat.le_of_ble_eq_true rfl) ing0 mw_554 (fv_town hS) d_WF_findPushed_5 ?_
  refine lv_aload_n F.hx F.hb d_WF_findPushed_8 rfl (lv_at hl 0 rfl) ?_
  refine r_get (v := .ref (b + 47)) (N := 19) (T := T0) (j := 8) F hS (show 0 < 191 by decide) (show shK 0 = 4 from rfl) (show shN 0 = 19 from rfl) rfl (Nat.le_of_ble_eq_true rfl) ing0 mw_558 (fv_sg rfl rfl rfl) d_WF_findPushed_9 ?_
  refine lv_aload_n F.hx F.hb d_WF_findPushed_12 rfl (lv_at hl 0 rfl) ?_
  refine r_get (v := .ref (b + 62)) (N := 19) (T := T0) (j := 11) F hS (show 0 < 191 by decide) (show shK 0 = 4 from rfl) (show shN 0 = 19 from rfl) rfl (Nat.le_of_ble_eq_true rfl) ing0 mw_561 (fv_sg rfl rfl rfl) d_WF_findPushed_13 ?_
  refine r_get (v := vI (M.1 62 3)) (N := 6) (T := T2) (j := 3) F hS (show 62 < 191 by decide) (show shK 62 = 6 from rfl) (show shN 62 = 6 from rfl) rfl (Nat.le_of_ble_eq_true rfl) ing2 mw_321 (fv_int rfl) d_WF_findPushed_16 ?_
  have i2 := hS.rng 62 3
  refine lv_aload_n F.hx F.hb d_WF_findPushed_19 rfl (lv_at hl 0 rfl) ?_
  refine r_get (v := .ref (b + 185)) (N := 19) (T := T0) (j := 17) F hS (show 0 < 191 by decide) (show shK 0 = 4 from rfl) (show shN 0 = 19 from rfl) rfl (Nat.le_of_ble_eq_true rfl) ing0 mw_567 (fv_sg rfl rfl rfl) d_WF_findPushed_20 ?_
  refine r_get (v := .ref (b + 186)) (N := 5) (T := T7) (j := 0) F hS (show 185 < 191 by decide) (show shK 185 = 11 from rfl) (show shN 185 = 5 from rfl) rfl (Nat.le_of_ble_eq_true rfl) ing7 mw_475 (fv_sg rfl rfl rfl) d_WF_findPushed_23 ?_
  obtain ⟨q3, hq3, hT⟩ := q_obind hT
  refine r_backV F hS (r_runV (k := 177) (N := 9) (T := T4) (As := [.ref (b + ((M.1 0 4).toNat)), .ref (b + 47), vI (M.1 62 3), .ref (b + 186)]) F hS (show 177 < 191 by decide) (show shK 177 = 8 from rfl) rfl (c_Laws_pushAll l F.2.2.1 M ((M.1 0 4).toNat) 47 (M.1 62 3) 186 192 h1 (by decide : isScene 47) i2 (show arrP 0 186 192 191 from ⟨rfl, rfl, by decide⟩) _ hq3) gs_WF_437 hd_Laws_pushAll ⟨Nat.le_of_ble_eq_true rfl, Nat.le_of_ble_eq_true rfl⟩ rfl hl.1 (Nat.le_of_ble_eq_true rfl) ⟨Nat.zero_le _, Nat.zero_le _⟩ rfl d_WF_findPushed_26) (fun H locs hS => ?_)
  refine lv_aload_n F.hx F.hb d_WF_findPushed_29 rfl (lv_at hl 0 rfl) ?_
  refine r_get (v := .ref (b + 185)) (N := 19) (T := T0) (j := 17) F hS (show 0 < 191 by decide) (show shK 0 = 4 from rfl) (show shN 0 = 19 from rfl) rfl (Nat.le_of_ble_eq_true rfl) ing0 mw_567 (fv_sg rfl rfl rfl) d_WF_findPushed_30 ?_
  refine lv_aload_n F.hx F.hb d_WF_findPushed_33 rfl (lv_at hl 0 rfl) ?_
  have h5 := St_town hS
  refine r_get (v := .ref (b + ((q3.1 0 4).toNat))) (N := 19) (T := T0) (j := 4) F hS (show 0 < 191 by decide) (show shK 0 = 4 from rfl) (show shN 0 = 19 from rfl) rfl (Nat.le_of_ble_eq_true rfl) ing0 mw_554 (fv_town hS) d_WF_findPushed_34 ?_
  refine lv_iload_n F.hx F.hb d_WF_findPushed_37 rfl (lv_at hl 1 rfl) ?_
  refine lv_iload_n F.hx F.hb d_WF_findPushed_38 rfl (lv_at hl 2 rfl) ?_
  obtain ⟨q6, hq6, hT⟩ := q_obind hT
  refine r_backV F hS (r_runV (k := 185) (N := 5) (T := T7) (As := [.ref (b + ((q3.1 0 4).toNat)), vI x1, vI x2]) F hS (show 185 < 191 by decide) (show shK 185 = 11 from rfl) rfl (c_Paths_find l F.2.2.1 q3 ((q3.1 0 4).toNat) x1 x2 h5 hx1 hx2 _ hq6) gs_WF_441 hd_Paths_find ⟨Nat.le_of_ble_eq_true rfl, Nat.le_of_ble_eq_true rfl⟩ rfl hl.1 (Nat.le_of_ble_eq_true rfl) ⟨Nat.zero_le _, Nat.zero_le _⟩ rfl d_WF_findPushed_39) (fun H locs hS => ?_)
  cases hT
  exact r_vret F hlk hr hS d_WF_findPushed_42
theorem d_WF_push_0 : decode b_WF_push 0 = .ok (.aload_n 0, 1) := dc_42 (by decide +kernel)
theorem d_WF_push_1 : decode b_WF_push 1 = .ok (.iload_n 1, 1) := dc_27 (by decide +kernel)
theorem d_WF_push_2 : decode b_WF_push 2 = .ok (.invokevirtual 250, 3) := dc_182 (by decide +kernel)
theorem d_WF_push_5 : decode b_WF_push 5 = .ok (.ifCond .eq 20, 3) := dc_153 (by decide +kernel)
theorem d_WF_push_8 : decode b_WF_push 8 = .ok (.aload_n 0, 1) := dc_42 (by decide +kernel)
theorem d_WF_push_9 : decode b_WF_push 9 = .ok (.iload_n 2, 1) := dc_28 (by decide +kernel)
theorem d_WF_push_10 : decode b_WF_push 10 = .ok (.invokevirtual 250, 3) := dc_182 (by decide +kernel)
theorem d_WF_push_13 : decode b_WF_push 13 = .ok (.ifCond .eq 12, 3) := dc_153 (by decide +kernel)
theorem d_WF_push_16 : decode b_WF_push 16 = .ok (.iload_n 3, 1) := dc_29 (by decide +kernel)
theorem d_WF_push_17 : decode b_WF_push 17 = .ok (.ifCond .lt 8, 3) := dc_155 (by decide +kernel)
theorem d_WF_push_20 : decode b_WF_push 20 = .ok (.iload_n 3, 1) := dc_29 (by decide +kernel)
theorem d_WF_push_21 : decode b_WF_push 21 = .ok (.iconst 1, 1) := dc_4 (by decide +kernel)
theorem d_WF_push_22 : decode b_WF_push 22 = .ok (.if_icmp .le 5, 3) := dc_164 (by decide +kernel)
theorem d_WF_push_25 : decode b_WF_push 25 = .ok (.iconst (-1), 1) := dc_2 (by decide +kernel)
theorem d_WF_push_26 : decode b_WF_push 26 = .ok (.ireturn, 1) := dc_172 (by decide +kernel)
theorem d_WF_push_27 : decode b_WF_push 27 = .ok (.aload_n 0, 1) := dc_42 (by decide +kernel)
theorem d_WF_push_28 : decode b_WF_push 28 = .ok (.iload_n 1, 1) := dc_27 (by decide +kernel)
theorem d_WF_push_29 : decode b_WF_push 29 = .ok (.iload_n 2, 1) := dc_28 (by decide +kernel)
theorem d_WF_push_30 : decode b_WF_push 30 = .ok (.invokevirtual 323, 3) := dc_182 (by decide +kernel)
theorem d_WF_push_33 : decode b_WF_push 33 = .ok (.aload_n 0, 1) := dc_42 (by decide +kernel)
theorem d_WF_push_34 : decode b_WF_push 34 = .ok (.getfield 90, 3) := dc_180 (by decide +kernel)
theorem d_WF_push_37 : decode b_WF_push 37 = .ok (.getfield 319, 3) := dc_180 (by decide +kernel)
theorem d_WF_push_40 : decode b_WF_push 40 = .ok (.ifCond .ne 6, 3) := dc_154 (by decide +kernel)
theorem d_WF_push_43 : decode b_WF_push 43 = .ok (.bipush (-2), 2) := dc_16 (by decide +kernel)
theorem d_WF_push_45 : decode b_WF_push 45 = .ok (.ireturn, 1) := dc_172 (by decide +kernel)
theorem d_WF_push_46 : decode b_WF_push 46 = .ok (.iload_n 3, 1) := dc_29 (by decide +kernel)
theorem d_WF_push_47 : decode b_WF_push 47 = .ok (.ifCond .ne 13, 3) := dc_154 (by decide +kernel)
theorem d_WF_push_50 : decode b_WF_push 50 = .ok (.aload_n 0, 1) := dc_42 (by decide +kernel)
theorem d_WF_push_51 : decode b_WF_push 51 = .ok (.getfield 90, 3) := dc_180 (by decide +kernel)
theorem d_WF_push_54 : decode b_WF_push 54 = .ok (.getfield 327, 3) := dc_180 (by decide +kernel)
theorem d_WF_push_57 : decode b_WF_push 57 = .ok (.goto 12, 3) := dc_167 (by decide +kernel)
theorem d_WF_push_60 : decode b_WF_push 60 = .ok (.aload_n 0, 1) := dc_42 (by decide +kernel)
theorem d_WF_push_61 : decode b_WF_push 61 = .ok (.getfield 90, 3) := dc_180 (by decide +kernel)
theorem d_WF_push_64 : decode b_WF_push 64 = .ok (.getfield 319, 3) := dc_180 (by decide +kernel)
theorem d_WF_push_67 : decode b_WF_push 67 = .ok (.iconst 1, 1) := dc_4 (by decide +kernel)
theorem d_WF_push_68 : decode b_WF_push 68 = .ok (.isub, 1) := dc_100 (by decide +kernel)
theorem d_WF_push_69 : decode b_WF_push 69 = .ok (.ireturn, 1) := dc_172 (by decide +kernel)
def t_WF_push (M : Mem) (x1 : Int) (x2 : Int) (x3 : Int) : Option (Mem × Int) := (qlet (t_WF_isFree M x1) fun q1 => (if q1 = 0 then (some (M, (-1))) else (qlet (t_WF_isFree M x2) fun q4 => (if q4 = 0 then (some (M, (-1))) else (if x3 < 0 then (some (M, (-1))) else (if x3 ≤ 1 then (obind (t_WF_findPushed M x1 x2) fun q9 => (if (q9.1 185 3) = 0 then (some (q9, (-2))) else (if x3 = 0 then (some (q9, (q9.1 185 4))) else (some (q9, (w32 ((q9.1 185 3) - 1))))))) else (some (M, (-1)))))))))
set_option maxHeartbeats 4000000 in
set_option maxRecDepth 100000 in
theorem c_WF_push (l : Launch) {b n : Nat} {C : CT} (hlo : 191 ≤ n) (M : Mem) (x1 : Int) (x2 : Int) (x3 : Int) (hx1 : InR x1) (hx2 : InR x2) (hx3 : InR x3) (res : Mem × Int) (hT : t_WF_push M x1 x2 x3 = some res) : CM l b C n 7 y_WF_push b_WF_push 4 (some .int) [.ref (b + 0), vI x1, vI x2, vI x3] M (QI b C n res.1 res.2) := by
  refine CM.of (lo := 191) (ow := "WardFalls") (by decide) rfl (Nat.le_of_ble_eq_true rfl) hlo (fun p e s m below meth c F hlk hr hS ls hl => ?_)
  have hl : lv_has ls 4 [(0, .ref (b + 0)), (1, vI x1), (2, vI x2), (3, vI x3)] := hl
  unfold t_WF_push at hT
  refine lv_aload_n F.hx F.hb d_WF_push_0 rfl (lv_at hl 0 rfl) ?_
  refine lv_iload_n F.hx F.hb d_WF_push_1 rfl (lv_at hl 1 rfl) ?_
  obtain ⟨q1, hq1⟩ : ∃ q, q = (t_WF_isFree M x1) := ⟨_, rfl⟩
  replace hT := qlet_eq hT hq1
  refine r_backZ F hS (r_runV (k := 0) (N := 19) (T := T0) (As := [vI x1]) F hS (show 0 < 191 by decide) (show shK 0 = 4 from rfl) rfl (c_WF_isFree l F.2.2.1 M x1 hx1 _ hq1.symm) gs_WF_250 hd_WF_isFree ⟨Nat.le_of_ble_eq_true rfl, Nat.le_of_ble_eq_true rfl⟩ rfl hl.1 (Nat.le_of_ble_eq_true rfl) ⟨Nat.zero_le _, Nat.zero_le _⟩ rfl d_WF_push_2) (fun H locs hS h2 => ?_)
  refine r_if_eq (tgt := 25) F.hx F.hb (inr_z h2) d_WF_push_5 (by decide) (fun c3 => ?_) (fun c3 => ?_)
  · replace hT := (if_pos c3).symm.trans hT
    refine r_iconst F.hx F.hb d_WF_push_25 ?_
    cases hT
    exact r_iret F hlk hr rfl hS (inr_c rfl) d_WF_push_26
  · replace hT := (if_neg c3).symm.trans hT
    refine lv_aload_n F.hx F.hb d_WF_push_8 rfl (lv_at hl 0 rfl) ?_
    refine lv_iload_n F.hx F.hb d_WF_push_9 rfl (lv_at hl 2 rfl) ?_
    obtain ⟨q4, hq4⟩ : ∃ q, q = (t_WF_isFree M x2) := ⟨_, rfl⟩
    replace hT := qlet_eq hT hq4
    refine r_backZ F hS (r_runV (k := 0) (N := 19) (T := T0) (As := [vI x2]) F hS (show 0 < 191 by decide) (show shK 0 = 4 from rfl) rfl (c_WF_isFree l F.2.2.1 M x2 hx2 _ hq4.symm) gs_WF_250 hd_WF_isFree ⟨Nat.le_of_ble_eq_true rfl, Nat.le_of_ble_eq_true rfl⟩ rfl hl.1 (Nat.le_of_ble_eq_true rfl) ⟨Nat.zero_le _, Nat.zero_le _⟩ rfl d_WF_push_10) (fun H locs hS h5 => ?_)
    refine r_if_eq (tgt := 25) F.hx F.hb (inr_z h5) d_WF_push_13 (by decide) (fun c6 => ?_) (fun c6 => ?_)
    · replace hT := (if_pos c6).symm.trans hT
      refine r_iconst F.hx F.hb d_WF_push_25 ?_
      cases hT
      exact r_iret F hlk hr rfl hS (inr_c rfl) d_WF_push_26
    · replace hT := (if_neg c6).symm.trans hT
      refine lv_iload_n F.hx F.hb d_WF_push_16 rfl (lv_at hl 3 rfl) ?_
      refine r_if_lt (tgt := 25) F.hx F.hb hx3 d_WF_push_17 (by decide) (fun c7 => ?_) (fun c7 => ?_)
      · replace hT := (if_pos c7).symm.trans hT
        refine r_iconst F.hx F.hb d_WF_push_25 ?_
        cases hT
        exact r_iret F hlk hr rfl hS (inr_c rfl) d_WF_push_26
      · replace hT := (if_neg c7).symm.trans hT
        refine lv_iload_n F.hx F.hb d_WF_push_20 rfl (lv_at hl 3 rfl) ?_
        refine r_iconst F.hx F.hb d_WF_push_21 ?_
        refine r_icmp_le (tgt := 27) F.hx F.hb hx3 (inr_c rfl) d_WF_push_22 (by decide) (fun c8 => ?_) (fun c8 => ?_)
        · replace hT := (if_pos c8).symm.trans hT
          refine lv_aload_n F.hx F.hb d_WF_push_27 rfl (lv_at hl 0 rfl) ?_
          refine lv_iload_n F.hx F.hb d_WF_push_28 rfl (lv_at hl 1 rfl) ?_
          refine lv_iload_n F.hx F.hb d_WF_push_29 rfl (lv_at hl 2 rfl) ?_
          obtain ⟨q9, hq9, hT⟩ := q_obind hT
          refine r_backV F hS (r_runV (k := 0) (N := 19) (T := T0) (As := [vI x1, vI x2]) F hS (show 0 < 191 by decide) (show shK 0 = 4 from rfl) rfl (c_WF_findPushed l F.2.2.1 M x1 x2 hx1 hx2 _ hq9) gs_WF_323 hd_WF_findPushed ⟨Nat.le_of_ble_eq_true rfl, Nat.le_of_ble_eq_true rfl⟩ rfl hl.1 (Nat.le_of_ble_eq_true rfl) ⟨Nat.zero_le _, Nat.zero_le _⟩ rfl d_WF_push_30) (fun H locs hS => ?_)
          refine lv_aload_n F.hx F.hb d_WF_push_33 rfl (lv_at hl 0 rfl) ?_
          refine r_get (v := .ref (b + 185)) (N := 19) (T := T0) (j := 17) F hS (show 0 < 191 by decide) (show shK 0 = 4 from rfl) (show shN 0 = 19 from rfl) rfl (Nat.le_of_ble_eq_true rfl) ing0 mw_567 (fv_sg rfl rfl rfl) d_WF_push_34 ?_
          refine r_get (v := vI (q9.1 185 3)) (N := 5) (T := T7) (j := 3) F hS (show 185 < 191 by decide) (show shK 185 = 11 from rfl) (show shN 185 = 5 from rfl) rfl (Nat.le_of_ble_eq_true rfl) ing7 mw_479 (fv_int rfl) d_WF_push_37 ?_
          have i11 := hS.rng 185 3
          refine r_if_ne (tgt := 46) F.hx F.hb i11 d_WF_push_40 (by decide) (fun c12 => ?_) (fun c12 => ?_)
          · replace hT := (if_neg c12).symm.trans hT
            refine lv_iload_n F.hx F.hb d_WF_push_46 rfl (lv_at hl 3 rfl) ?_
            refine r_if_ne (tgt := 60) F.hx F.hb hx3 d_WF_push_47 (by decide) (fun c13 => ?_) (fun c13 => ?_)
            · replace hT := (if_neg c13).symm.trans hT
              refine lv_aload_n F.hx F.hb d_WF_push_60 rfl (lv_at hl 0 rfl) ?_
              refine r_get (v := .ref (b + 185)) (N := 19) (T := T0) (j := 17) F hS (show 0 < 191 by decide) (show shK 0 = 4 from rfl) (show shN 0 = 19 from rfl) rfl (Nat.le_of_ble_eq_true rfl) ing0 mw_567 (fv_sg rfl rfl rfl) d_WF_push_61 ?_
              refine r_get (v := vI (q9.1 185 3)) (N := 5) (T := T7) (j := 3) F hS (show 185 < 191 by decide) (show shK 185 = 11 from rfl) (show shN 185 = 5 from rfl) rfl (Nat.le_of_ble_eq_true rfl) ing7 mw_479 (fv_int rfl) d_WF_push_64 ?_
              have i14 := hS.rng 185 3
              refine r_iconst F.hx F.hb d_WF_push_67 ?_
              refine r_isub F.hx F.hb d_WF_push_68 ?_
              cases hT
              exact r_iret F hlk hr rfl hS (inr_w32 _) d_WF_push_69
            · replace hT := (if_pos c13).symm.trans hT
              refine lv_aload_n F.hx F.hb d_WF_push_50 rfl (lv_at hl 0 rfl) ?_
              refine r_get (v := .ref (b + 185)) (N := 19) (T := T0) (j := 17) F hS (show 0 < 191 by decide) (show shK 0 = 4 from rfl) (show shN 0 = 19 from rfl) rfl (Nat.le_of_ble_eq_true rfl) ing0 mw_567 (fv_sg rfl rfl rfl) d_WF_push_51 ?_
              refine r_get (v := vI (q9.1 185 4)) (N := 5) (T := T7) (j := 4) F hS (show 185 < 191 by decide) (show shK 185 = 11 from rfl) (show shN 185 = 5 from rfl) rfl (Nat.le_of_ble_eq_true rfl) ing7 mw_481 (fv_int rfl) d_WF_push_54 ?_
              have i15 := hS.rng 185 4
              refine lv_goto (tgt := 69) F.hx F.hb d_WF_push_57 (by decide) ?_
              cases hT
              exact r_iret F hlk hr rfl hS i15 d_WF_push_69
          · replace hT := (if_pos c12).symm.trans hT
            refine r_bipush F.hx F.hb d_WF_push_43 rfl ?_
            cases hT
            exact r_iret F hlk hr rfl hS (inr_c rfl) d_WF_push_45
        · replace hT := (if_neg c8).symm.trans hT
          refine r_iconst F.hx F.hb d_WF_push_25 ?_
          cases hT
          exact r_iret F hlk hr rfl hS (inr_c rfl) d_WF_push_26
theorem d_WF_pushed_0 : decode b_WF_pushed 0 = .ok (.aload_n 0, 1) := dc_42 (by decide +kernel)
theorem d_WF_pushed_1 : decode b_WF_pushed 1 = .ok (.iload_n 1, 1) := dc_27 (by decide +kernel)
theorem d_WF_pushed_2 : decode b_WF_pushed 2 = .ok (.invokevirtual 250, 3) := dc_182 (by decide +kernel)
theorem d_WF_pushed_5 : decode b_WF_pushed 5 = .ok (.ifCond .eq 15, 3) := dc_153 (by decide +kernel)
theorem d_WF_pushed_8 : decode b_WF_pushed 8 = .ok (.aload_n 0, 1) := dc_42 (by decide +kernel)
theorem d_WF_pushed_9 : decode b_WF_pushed 9 = .ok (.iload_n 2, 1) := dc_28 (by decide +kernel)
theorem d_WF_pushed_10 : decode b_WF_pushed 10 = .ok (.invokevirtual 250, 3) := dc_182 (by decide +kernel)
theorem d_WF_pushed_13 : decode b_WF_pushed 13 = .ok (.ifCond .eq 7, 3) := dc_153 (by decide +kernel)
theorem d_WF_pushed_16 : decode b_WF_pushed 16 = .ok (.iload_n 3, 1) := dc_29 (by decide +kernel)
theorem d_WF_pushed_17 : decode b_WF_pushed 17 = .ok (.ifCond .ge 5, 3) := dc_156 (by decide +kernel)
theorem d_WF_pushed_20 : decode b_WF_pushed 20 = .ok (.iconst (-1), 1) := dc_2 (by decide +kernel)
theorem d_WF_pushed_21 : decode b_WF_pushed 21 = .ok (.ireturn, 1) := dc_172 (by decide +kernel)
theorem d_WF_pushed_22 : decode b_WF_pushed 22 = .ok (.aload_n 0, 1) := dc_42 (by decide +kernel)
theorem d_WF_pushed_23 : decode b_WF_pushed 23 = .ok (.iload_n 1, 1) := dc_27 (by decide +kernel)
theorem d_WF_pushed_24 : decode b_WF_pushed 24 = .ok (.iload_n 2, 1) := dc_28 (by decide +kernel)
theorem d_WF_pushed_25 : decode b_WF_pushed 25 = .ok (.invokevirtual 323, 3) := dc_182 (by decide +kernel)
theorem d_WF_pushed_28 : decode b_WF_pushed 28 = .ok (.aload_n 0, 1) := dc_42 (by decide +kernel)
theorem d_WF_pushed_29 : decode b_WF_pushed 29 = .ok (.getfield 90, 3) := dc_180 (by decide +kernel)
theorem d_WF_pushed_32 : decode b_WF_pushed 32 = .ok (.iload_n 3, 1) := dc_29 (by decide +kernel)
theorem d_WF_pushed_33 : decode b_WF_pushed 33 = .ok (.invokevirtual 322, 3) := dc_182 (by decide +kernel)
theorem d_WF_pushed_36 : decode b_WF_pushed 36 = .ok (.ireturn, 1) := dc_172 (by decide +kernel)
def t_WF_pushed (M : Mem) (x1 : Int) (x2 : Int) (x3 : Int) : Option (Mem × Int) := (qlet (t_WF_isFree M x1) fun q1 => (if q1 = 0 then (some (M, (-1))) else (qlet (t_WF_isFree M x2) fun q4 => (if q4 = 0 then (some (M, (-1))) else (if 0 ≤ x3 then (obind (t_WF_findPushed M x1 x2) fun q8 => (qlet (t_Paths_cellAt q8 x3) fun q10 => (some (q8, q10)))) else (some (M, (-1))))))))
set_option maxHeartbeats 4000000 in
set_option maxRecDepth 100000 in
theorem c_WF_pushed (l : Launch) {b n : Nat} {C : CT} (hlo : 191 ≤ n) (M : Mem) (x1 : Int) (x2 : Int) (x3 : Int) (hx1 : InR x1) (hx2 : InR x2) (hx3 : InR x3) (res : Mem × Int) (hT : t_WF_pushed M x1 x2 x3 = some res) : CM l b C n 7 y_WF_pushed b_WF_pushed 4 (some .int) [.ref (b + 0), vI x1, vI x2, vI x3] M (QI b C n res.1 res.2) := by
  refine CM.of (lo := 191) (ow := "WardFalls") (by decide) rfl (Nat.le_of_ble_eq_true rfl) hlo (fun p e s m below meth c F hlk hr hS ls hl => ?_)
  have hl : lv_has ls 4 [(0, .ref (b + 0)), (1, vI x1), (2, vI x2), (3, vI x3)] := hl
  unfold t_WF_pushed at hT
  refine lv_aload_n F.hx F.hb d_WF_pushed_0 rfl (lv_at hl 0 rfl) ?_
  refine lv_iload_n F.hx F.hb d_WF_pushed_1 rfl (lv_at hl 1 rfl) ?_
  obtain ⟨q1, hq1⟩ : ∃ q, q = (t_WF_isFree M x1) := ⟨_, rfl⟩
  replace hT := qlet_eq hT hq1
  refine r_backZ F hS (r_runV (k := 0) (N := 19) (T := T0) (As := [vI x1]) F hS (show 0 < 191 by decide) (show shK 0 = 4 from rfl) rfl (c_WF_isFree l F.2.2.1 M x1 hx1 _ hq1.symm) gs_WF_250 hd_WF_isFree ⟨Nat.le_of_ble_eq_true rfl, Nat.le_of_ble_eq_true rfl⟩ rfl hl.1 (Nat.le_of_ble_eq_true rfl) ⟨Nat.zero_le _, Nat.zero_le _⟩ rfl d_WF_pushed_2) (fun H locs hS h2 => ?_)
  refine r_if_eq (tgt := 20) F.hx F.hb (inr_z h2) d_WF_pushed_5 (by decide) (fun c3 => ?_) (fun c3 => ?_)
  · replace hT := (if_pos c3).symm.trans hT
    refine r_iconst F.hx F.hb d_WF_pushed_20 ?_
    cases hT
    exact r_iret F hlk hr rfl hS (inr_c rfl) d_WF_pushed_21
  · replace hT := (if_neg c3).symm.trans hT
    refine lv_aload_n F.hx F.hb d_WF_pushed_8 rfl (lv_at hl 0 rfl) ?_
    refine lv_iload_n F.hx F.hb d_WF_pushed_9 rfl (lv_at hl 2 rfl) ?_
    obtain ⟨q4, hq4⟩ : ∃ q, q = (t_WF_isFree M x2) := ⟨_, rfl⟩
    replace hT := qlet_eq hT hq4
    refine r_backZ F hS (r_runV (k := 0) (N := 19) (T := T0) (As := [vI x2]) F hS (show 0 < 191 by decide) (show shK 0 = 4 from rfl) rfl (c_WF_isFree l F.2.2.1 M x2 hx2 _ hq4.symm) gs_WF_250 hd_WF_isFree ⟨Nat.le_of_ble_eq_true rfl, Nat.le_of_ble_eq_true rfl⟩ rfl hl.1 (Nat.le_of_ble_eq_true rfl) ⟨Nat.zero_le _, Nat.zero_le _⟩ rfl d_WF_pushed_10) (fun H locs hS h5 => ?_)
    refine r_if_eq (tgt := 20) F.hx F.hb (inr_z h5) d_WF_pushed_13 (by decide) (fun c6 => ?_) (fun c6 => ?_)
    · replace hT := (if_pos c6).symm.trans hT
      refine r_iconst F.hx F.hb d_WF_pushed_20 ?_
      cases hT
      exact r_iret F hlk hr rfl hS (inr_c rfl) d_WF_pushed_21
    · replace hT := (if_neg c6).symm.trans hT
      refine lv_iload_n F.hx F.hb d_WF_pushed_16 rfl (lv_at hl 3 rfl) ?_
      refine r_if_ge (tgt := 22) F.hx F.hb hx3 d_WF_pushed_17 (by decide) (fun c7 => ?_) (fun c7 => ?_)
      · replace hT := (if_pos c7).symm.trans hT
        refine lv_aload_n F.hx F.hb d_WF_pushed_22 rfl (lv_at hl 0 rfl) ?_
        refine lv_iload_n F.hx F.hb d_WF_pushed_23 rfl (lv_at hl 1 rfl) ?_
        refine lv_iload_n F.hx F.hb d_WF_pushed_24 rfl (lv_at hl 2 rfl) ?_
        obtain ⟨q8, hq8, hT⟩ := q_obind hT
        refine r_backV F hS (r_runV (k := 0) (N := 19) (T := T0) (As := [vI x1, vI x2]) F hS (show 0 < 191 by decide) (show shK 0 = 4 from rfl) rfl (c_WF_findPushed l F.2.2.1 M x1 x2 hx1 hx2 _ hq8) gs_WF_323 hd_WF_findPushed ⟨Nat.le_of_ble_eq_true rfl, Nat.le_of_ble_eq_true rfl⟩ rfl hl.1 (Nat.le_of_ble_eq_true rfl) ⟨Nat.zero_le _, Nat.zero_le _⟩ rfl d_WF_pushed_25) (fun H locs hS => ?_)
        refine lv_aload_n F.hx F.hb d_WF_pushed_28 rfl (lv_at hl 0 rfl) ?_
        refine r_get (v := .ref (b + 185)) (N := 19) (T := T0) (j := 17) F hS (show 0 < 191 by decide) (show shK 0 = 4 from rfl) (show shN 0 = 19 from rfl) rfl (Nat.le_of_ble_eq_true rfl) ing0 mw_567 (fv_sg rfl rfl rfl) d_WF_pushed_29 ?_
        refine lv_iload_n F.hx F.hb d_WF_pushed_32 rfl (lv_at hl 3 rfl) ?_
        obtain ⟨q10, hq10⟩ : ∃ q, q = (t_Paths_cellAt q8 x3) := ⟨_, rfl⟩
        replace hT := qlet_eq hT hq10
        refine r_backI F hS (r_runV (k := 185) (N := 5) (T := T7) (As := [vI x3]) F hS (show 185 < 191 by decide) (show shK 185 = 11 from rfl) rfl (c_Paths_cellAt l F.2.2.1 q8 x3 hx3 _ hq10.symm) gs_WF_322 hd_Paths_cellAt ⟨Nat.le_of_ble_eq_true rfl, Nat.le_of_ble_eq_true rfl⟩ rfl hl.1 (Nat.le_of_ble_eq_true rfl) ⟨Nat.zero_le _, Nat.zero_le _⟩ rfl d_WF_pushed_33) (fun H locs hS h11 => ?_)
        cases hT
        exact r_iret F hlk hr rfl hS h11 d_WF_pushed_36
      · replace hT := (if_neg c7).symm.trans hT
        refine r_iconst F.hx F.hb d_WF_pushed_20 ?_
        cases hT
        exact r_iret F hlk hr rfl hS (inr_c rfl) d_WF_pushed_21
theorem d_Trail_firstOther_0 : decode b_Trail_firstOther 0 = .ok (.iconst 1, 1) := dc_4 (by decide +kernel)
theorem d_Trail_firstOther_1 : decode b_Trail_firstOther 1 = .ok (.istore_n 2, 1) := dc_61 (by decide +kernel)
theorem d_Trail_firstOther_2 : decode b_Trail_firstOther 2 = .ok (.iload_n 2, 1) := dc_28 (by decide +kernel)
theorem d_Trail_firstOther_3 : decode b_Trail_firstOther 3 = .ok (.aload_n 0, 1) := dc_42 (by decide +kernel)
theorem d_Trail_firstOther_4 : decode b_Trail_firstOther 4 = .ok (.getfield 15, 3) := dc_180 (by decide +kernel)
theorem d_Trail_firstOther_7 : decode b_Trail_firstOther 7 = .ok (.if_icmp .ge 40, 3) := dc_162 (by decide +kernel)
theorem d_Trail_firstOther_10 : decode b_Trail_firstOther 10 = .ok (.aload_n 1, 1) := dc_43 (by decide +kernel)
theorem d_Trail_firstOther_11 : decode b_Trail_firstOther 11 = .ok (.aload_n 0, 1) := dc_42 (by decide +kernel)
theorem d_Trail_firstOther_12 : decode b_Trail_firstOther 12 = .ok (.getfield 9, 3) := dc_180 (by decide +kernel)
theorem d_Trail_firstOther_15 : decode b_Trail_firstOther 15 = .ok (.iload_n 2, 1) := dc_28 (by decide +kernel)
theorem d_Trail_firstOther_16 : decode b_Trail_firstOther 16 = .ok (.invokestatic 52, 3) := dc_184 (by decide +kernel)
theorem d_Trail_firstOther_19 : decode b_Trail_firstOther 19 = .ok (.invokevirtual 56, 3) := dc_182 (by decide +kernel)
theorem d_Trail_firstOther_22 : decode b_Trail_firstOther 22 = .ok (.istore_n 3, 1) := dc_62 (by decide +kernel)
theorem d_Trail_firstOther_23 : decode b_Trail_firstOther 23 = .ok (.iload_n 3, 1) := dc_29 (by decide +kernel)
theorem d_Trail_firstOther_24 : decode b_Trail_firstOther 24 = .ok (.aload_n 1, 1) := dc_43 (by decide +kernel)
theorem d_Trail_firstOther_25 : decode b_Trail_firstOther 25 = .ok (.aload_n 0, 1) := dc_42 (by decide +kernel)
theorem d_Trail_firstOther_26 : decode b_Trail_firstOther 26 = .ok (.getfield 9, 3) := dc_180 (by decide +kernel)
theorem d_Trail_firstOther_29 : decode b_Trail_firstOther 29 = .ok (.iconst 0, 1) := dc_3 (by decide +kernel)
theorem d_Trail_firstOther_30 : decode b_Trail_firstOther 30 = .ok (.invokestatic 52, 3) := dc_184 (by decide +kernel)
theorem d_Trail_firstOther_33 : decode b_Trail_firstOther 33 = .ok (.invokevirtual 56, 3) := dc_182 (by decide +kernel)
theorem d_Trail_firstOther_36 : decode b_Trail_firstOther 36 = .ok (.if_icmp .eq 5, 3) := dc_159 (by decide +kernel)
theorem d_Trail_firstOther_39 : decode b_Trail_firstOther 39 = .ok (.iload_n 3, 1) := dc_29 (by decide +kernel)
theorem d_Trail_firstOther_40 : decode b_Trail_firstOther 40 = .ok (.ireturn, 1) := dc_172 (by decide +kernel)
theorem d_Trail_firstOther_41 : decode b_Trail_firstOther 41 = .ok (.iinc 2 1, 3) := dc_132 (by decide +kernel)
theorem d_Trail_firstOther_44 : decode b_Trail_firstOther 44 = .ok (.goto (-42), 3) := dc_167 (by decide +kernel)
theorem d_Trail_firstOther_47 : decode b_Trail_firstOther 47 = .ok (.bipush (-2), 2) := dc_16 (by decide +kernel)
theorem d_Trail_firstOther_49 : decode b_Trail_firstOther 49 = .ok (.ireturn, 1) := dc_172 (by decide +kernel)
def t_Trail_firstOther_L2 (k0 : Nat) (k1 : Nat)  : Nat → Mem → Int → Option (Int)
  | 0, _, _ => none
  | fu + 1, M, v2_ => (if (M.1 k0 1) ≤ v2_ then (some (-2)) else (qlet (t_WF_look M (k0 + 1) 48 v2_) fun q3 => (qlet (t_Town_ownerOf M k1 q3) fun q5 => (qlet (t_WF_look M (k0 + 1) 48 0) fun q7 => (qlet (t_Town_ownerOf M k1 q7) fun q9 => (if q5 = q9 then (t_Trail_firstOther_L2 k0 k1 fu M (w32 (v2_ + 1))) else (some q5)))))))
def t_Trail_firstOther (M : Mem) (k0 : Nat) (k1 : Nat) : Option (Int) := (t_Trail_firstOther_L2 k0 k1 FU M 1)
set_option maxHeartbeats 4000000 in
set_option maxRecDepth 100000 in
theorem k_Trail_firstOther_L2 (l : Launch) {p : Program} {e : Env} {s : State} {m : MethodId} {below : List Frame} {meth : Method} {c : Code} {b n : Nat} {C : CT} (hlo : 191 ≤ n) (k0 : Nat) (k1 : Nat) (hk0 : isTrail k0) (hk1 : isTown k1) (F : Cx b p m c b_Trail_firstOther 4 s ([.ref (b + k0), .ref (b + k1)] : List Value).toArray "WardFalls$Trail" C n 191) (hlk : meth.locks = false) (hr : meth.sig.returnType = some .int) {res : Int} : ∀ (fu : Nat) (M : Mem) (v2_ : Int) (hv2_ : InR v2_) (H : Heap) (locs : List Loc) (ls : Array Slot), St b C n M s H locs → lv_has ls 4 [(0, .ref (b + k0)), (1, .ref (b + k1)), (2, vI v2_)] → t_Trail_firstOther_L2 k0 k1 fu M v2_ = some res → W p l e (headSpec (wsM y_Trail_firstOther b_Trail_firstOther 4 (some .int)) (rmD 2)).room s m ([.ref (b + k0), .ref (b + k1)] : List Value).toArray below meth c H locs 0 0 (MQ below (QI b C n M res) ([.ref (b + k0), .ref (b + k1)] : List Value).toArray s 0 0 (frb b)) (F0 m 2 ls []) := by
  intro fu
  induction fu with
  | zero => intro M v2_ hv2_ H locs ls hS hl hT; exact absurd hT (by simp [t_Trail_firstOther_L2])
  | succ fu ih =>
    intro M v2_ hv2_ H locs ls hS hl hT
    rw [t_Trail_firstOther_L2] at hT
    refine lv_iload_n F.hx F.hb d_Trail_firstOther_2 rfl (lv_at hl 2 rfl) ?_
    refine lv_aload_n F.hx F.hb d_Trail_firstOther_3 rfl (lv_at hl 0 rfl) ?_
    refine r_get (v := vI (M.1 k0 1)) (N := 9) (T := T12) (j := 1) F hS (Trail_lt hk0) (Trail_sh hk0) (Trail_N hk0) rfl (Nat.le_of_ble_eq_true rfl) ing12 mw_403 (fv_int rfl) d_Trail_firstOther_4 ?_
    have i1 := hS.rng k0 1
    refine r_icmp_ge (tgt := 47) F.hx F.hb hv2_ i1 d_Trail_firstOther_7 (by decide) (fun c2 => ?_) (fun c2 => ?_)
    · replace hT := (if_pos c2).symm.trans hT
      refine r_bipush F.hx F.hb d_Trail_firstOther_47 rfl ?_
      cases hT
      exact r_iret F hlk hr rfl hS (inr_c rfl) d_Trail_firstOther_49
    · replace hT := (if_neg c2).symm.trans hT
      refine lv_aload_n F.hx F.hb d_Trail_firstOther_10 rfl (lv_at hl 1 rfl) ?_
      refine lv_aload_n F.hx F.hb d_Trail_firstOther_11 rfl (lv_at hl 0 rfl) ?_
      refine r_get (v := .ref (b + (k0 + 1))) (N := 9) (T := T12) (j := 0) F hS (Trail_lt hk0) (Trail_sh hk0) (Trail_N hk0) rfl (Nat.le_of_ble_eq_true rfl) ing12 mw_402 (Trail_g0 hk0 _) d_Trail_firstOther_12 ?_
      refine lv_iload_n F.hx F.hb d_Trail_firstOther_15 rfl (lv_at hl 2 rfl) ?_
      obtain ⟨q3, hq3⟩ : ∃ q, q = (t_WF_look M (k0 + 1) 48 v2_) := ⟨_, rfl⟩
      replace hT := qlet_eq hT hq3
      refine r_backI F hS (r_runSN (As := [.ref (b + (k0 + 1)), vI v2_]) F hS (c_WF_look l F.2.2.1 M (k0 + 1) 48 v2_ (Trail_f0 hk0) hv2_ _ hq3.symm) mw_519 mw_518 mw_1 gs_Trail_52 hd_WF_look ⟨Nat.le_of_ble_eq_true rfl, Nat.le_of_ble_eq_true rfl⟩ rfl hl.1 (Nat.le_of_ble_eq_true rfl) ⟨Nat.zero_le _, Nat.zero_le _⟩ rfl d_Trail_firstOther_16) (fun H locs hS h4 => ?_)
      obtain ⟨q5, hq5⟩ : ∃ q, q = (t_Town_ownerOf M k1 q3) := ⟨_, rfl⟩
      replace hT := qlet_eq hT hq5
      refine r_backI F hS (r_runV (k := k1) (N := 20) (T := T11) (As := [vI q3]) F hS (Town_lt hk1) (Town_sh hk1) rfl (c_Town_ownerOf l F.2.2.1 M k1 q3 hk1 h4 _ hq5.symm) gs_Trail_56 hd_Town_ownerOf ⟨Nat.le_of_ble_eq_true rfl, Nat.le_of_ble_eq_true rfl⟩ rfl hl.1 (Nat.le_of_ble_eq_true rfl) ⟨Nat.zero_le _, Nat.zero_le _⟩ rfl d_Trail_firstOther_19) (fun H locs hS h6 => ?_)
      refine lv_istore_n (lv' := [(3, vI q5), (0, .ref (b + k0)), (1, .ref (b + k1)), (2, vI v2_)]) F.hx F.hb d_Trail_firstOther_22 rfl hl (Nat.le_of_ble_eq_true rfl) rfl (fun ls hl => ?_)
      refine lv_iload_n F.hx F.hb d_Trail_firstOther_23 rfl (lv_at hl 0 rfl) ?_
      refine lv_aload_n F.hx F.hb d_Trail_firstOther_24 rfl (lv_at hl 2 rfl) ?_
      refine lv_aload_n F.hx F.hb d_Trail_firstOther_25 rfl (lv_at hl 1 rfl) ?_
      refine r_get (v := .ref (b + (k0 + 1))) (N := 9) (T := T12) (j := 0) F hS (Trail_lt hk0) (Trail_sh hk0) (Trail_N hk0) rfl (Nat.le_of_ble_eq_true rfl) ing12 mw_402 (Trail_g0 hk0 _) d_Trail_firstOther_26 ?_
      refine r_iconst F.hx F.hb d_Trail_firstOther_29 ?_
      obtain ⟨q7, hq7⟩ : ∃ q, q = (t_WF_look M (k0 + 1) 48 0) := ⟨_, rfl⟩
      replace hT := qlet_eq hT hq7
      refine r_backI F hS (r_runSN (As := [.ref (b + (k0 + 1)), vI 0]) F hS (c_WF_look l F.2.2.1 M (k0 + 1) 48 0 (Trail_f0 hk0) (inr_c rfl) _ hq7.symm) mw_519 mw_518 mw_1 gs_Trail_52 hd_WF_look ⟨Nat.le_of_ble_eq_true rfl, Nat.le_of_ble_eq_true rfl⟩ rfl hl.1 (Nat.le_of_ble_eq_true rfl) ⟨Nat.zero_le _, Nat.zero_le _⟩ rfl d_Trail_firstOther_30) (fun H locs hS h8 => ?_)
      obtain ⟨q9, hq9⟩ : ∃ q, q = (t_Town_ownerOf M k1 q7) := ⟨_, rfl⟩
      replace hT := qlet_eq hT hq9
      refine r_backI F hS (r_runV (k := k1) (N := 20) (T := T11) (As := [vI q7]) F hS (Town_lt hk1) (Town_sh hk1) rfl (c_Town_ownerOf l F.2.2.1 M k1 q7 hk1 h8 _ hq9.symm) gs_Trail_56 hd_Town_ownerOf ⟨Nat.le_of_ble_eq_true rfl, Nat.le_of_ble_eq_true rfl⟩ rfl hl.1 (Nat.le_of_ble_eq_true rfl) ⟨Nat.zero_le _, Nat.zero_le _⟩ rfl d_Trail_firstOther_33) (fun H locs hS h10 => ?_)
      refine r_icmp_eq (tgt := 41) F.hx F.hb h6 h10 d_Trail_firstOther_36 (by decide) (fun c11 => ?_) (fun c11 => ?_)
      · replace hT := (if_pos c11).symm.trans hT
        refine lv_iinc (v := Int32.ofInt (w32 (v2_ + 1))) (lv' := [(2, vI (w32 (v2_ + 1))), (3, vI q5), (0, .ref (b + k0)), (1, .ref (b + k1))]) F.hx F.hb d_Trail_firstOther_41 hl (k := 3) rfl (q_of_add _ _) (Nat.le_of_ble_eq_true rfl) rfl (fun ls hl => ?_)
        refine lv_goto (tgt := 2) F.hx F.hb d_Trail_firstOther_44 (by decide) ?_
        exact ih M (w32 (v2_ + 1)) (inr_w32 _) _ _ _ hS (lv_sub hl [2, 3, 0] rfl) hT
      · replace hT := (if_neg c11).symm.trans hT
        refine lv_iload_n F.hx F.hb d_Trail_firstOther_39 rfl (lv_at hl 0 rfl) ?_
        cases hT
        exact r_iret F hlk hr rfl hS h6 d_Trail_firstOther_40
set_option maxHeartbeats 4000000 in
set_option maxRecDepth 100000 in
theorem c_Trail_firstOther (l : Launch) {b n : Nat} {C : CT} (hlo : 191 ≤ n) (M : Mem) (k0 : Nat) (k1 : Nat) (hk0 : isTrail k0) (hk1 : isTown k1) (res : Int) (hT : t_Trail_firstOther M k0 k1 = some res) : CM l b C n 2 y_Trail_firstOther b_Trail_firstOther 4 (some .int) [.ref (b + k0), .ref (b + k1)] M (QI b C n M res) := by
  refine CM.of (lo := 191) (ow := "WardFalls$Trail") (by decide) rfl (Nat.le_of_ble_eq_true rfl) hlo (fun p e s m below meth c F hlk hr hS ls hl => ?_)
  have hl : lv_has ls 4 [(0, .ref (b + k0)), (1, .ref (b + k1))] := hl
  unfold t_Trail_firstOther at hT
  refine r_iconst F.hx F.hb d_Trail_firstOther_0 ?_
  refine lv_istore_n (lv' := [(2, vI 1), (0, .ref (b + k0)), (1, .ref (b + k1))]) F.hx F.hb d_Trail_firstOther_1 rfl hl (Nat.le_of_ble_eq_true rfl) rfl (fun ls hl => ?_)
  exact k_Trail_firstOther_L2 l hlo k0 k1 hk0 hk1 F hlk hr FU M 1 (inr_c rfl) _ _ _ hS (lv_sub hl [1, 2, 0] rfl) hT
theorem d_WF_war_0 : decode b_WF_war 0 = .ok (.aload_n 0, 1) := dc_42 (by decide +kernel)
theorem d_WF_war_1 : decode b_WF_war 1 = .ok (.getfield 22, 3) := dc_180 (by decide +kernel)
theorem d_WF_war_4 : decode b_WF_war 4 = .ok (.iload_n 1, 1) := dc_27 (by decide +kernel)
theorem d_WF_war_5 : decode b_WF_war 5 = .ok (.invokevirtual 198, 3) := dc_182 (by decide +kernel)
theorem d_WF_war_8 : decode b_WF_war 8 = .ok (.ifCond .eq 19, 3) := dc_153 (by decide +kernel)
theorem d_WF_war_11 : decode b_WF_war 11 = .ok (.aload_n 0, 1) := dc_42 (by decide +kernel)
theorem d_WF_war_12 : decode b_WF_war 12 = .ok (.getfield 22, 3) := dc_180 (by decide +kernel)
theorem d_WF_war_15 : decode b_WF_war 15 = .ok (.iload_n 2, 1) := dc_28 (by decide +kernel)
theorem d_WF_war_16 : decode b_WF_war 16 = .ok (.invokevirtual 198, 3) := dc_182 (by decide +kernel)
theorem d_WF_war_19 : decode b_WF_war 19 = .ok (.ifCond .eq 8, 3) := dc_153 (by decide +kernel)
theorem d_WF_war_22 : decode b_WF_war 22 = .ok (.iload_n 1, 1) := dc_27 (by decide +kernel)
theorem d_WF_war_23 : decode b_WF_war 23 = .ok (.iload_n 2, 1) := dc_28 (by decide +kernel)
theorem d_WF_war_24 : decode b_WF_war 24 = .ok (.if_icmp .ne 5, 3) := dc_160 (by decide +kernel)
theorem d_WF_war_27 : decode b_WF_war 27 = .ok (.iconst (-1), 1) := dc_2 (by decide +kernel)
theorem d_WF_war_28 : decode b_WF_war 28 = .ok (.ireturn, 1) := dc_172 (by decide +kernel)
theorem d_WF_war_29 : decode b_WF_war 29 = .ok (.iconst 0, 1) := dc_3 (by decide +kernel)
theorem d_WF_war_30 : decode b_WF_war 30 = .ok (.istore_n 3, 1) := dc_62 (by decide +kernel)
theorem d_WF_war_31 : decode b_WF_war 31 = .ok (.iconst 0, 1) := dc_3 (by decide +kernel)
theorem d_WF_war_32 : decode b_WF_war 32 = .ok (.istore 4, 2) := dc_54 (by decide +kernel)
theorem d_WF_war_34 : decode b_WF_war 34 = .ok (.iload 4, 2) := dc_21 (by decide +kernel)
theorem d_WF_war_36 : decode b_WF_war 36 = .ok (.aload_n 0, 1) := dc_42 (by decide +kernel)
theorem d_WF_war_37 : decode b_WF_war 37 = .ok (.getfield 22, 3) := dc_180 (by decide +kernel)
theorem d_WF_war_40 : decode b_WF_war 40 = .ok (.getfield 330, 3) := dc_180 (by decide +kernel)
theorem d_WF_war_43 : decode b_WF_war 43 = .ok (.if_icmp .ge 72, 3) := dc_162 (by decide +kernel)
theorem d_WF_war_46 : decode b_WF_war 46 = .ok (.aload_n 0, 1) := dc_42 (by decide +kernel)
theorem d_WF_war_47 : decode b_WF_war 47 = .ok (.getfield 22, 3) := dc_180 (by decide +kernel)
theorem d_WF_war_50 : decode b_WF_war 50 = .ok (.iload 4, 2) := dc_21 (by decide +kernel)
theorem d_WF_war_52 : decode b_WF_war 52 = .ok (.invokevirtual 161, 3) := dc_182 (by decide +kernel)
theorem d_WF_war_55 : decode b_WF_war 55 = .ok (.iload_n 1, 1) := dc_27 (by decide +kernel)
theorem d_WF_war_56 : decode b_WF_war 56 = .ok (.if_icmp .ne 53, 3) := dc_160 (by decide +kernel)
theorem d_WF_war_59 : decode b_WF_war 59 = .ok (.aload_n 0, 1) := dc_42 (by decide +kernel)
theorem d_WF_war_60 : decode b_WF_war 60 = .ok (.getfield 46, 3) := dc_180 (by decide +kernel)
theorem d_WF_war_63 : decode b_WF_war 63 = .ok (.getfield 165, 3) := dc_180 (by decide +kernel)
theorem d_WF_war_66 : decode b_WF_war 66 = .ok (.iload 4, 2) := dc_21 (by decide +kernel)
theorem d_WF_war_68 : decode b_WF_war 68 = .ok (.invokestatic 169, 3) := dc_184 (by decide +kernel)
theorem d_WF_war_71 : decode b_WF_war 71 = .ok (.ifCond .ne 38, 3) := dc_154 (by decide +kernel)
theorem d_WF_war_74 : decode b_WF_war 74 = .ok (.aload_n 0, 1) := dc_42 (by decide +kernel)
theorem d_WF_war_75 : decode b_WF_war 75 = .ok (.getfield 97, 3) := dc_180 (by decide +kernel)
theorem d_WF_war_78 : decode b_WF_war 78 = .ok (.aload_n 0, 1) := dc_42 (by decide +kernel)
theorem d_WF_war_79 : decode b_WF_war 79 = .ok (.getfield 22, 3) := dc_180 (by decide +kernel)
theorem d_WF_war_82 : decode b_WF_war 82 = .ok (.aload_n 0, 1) := dc_42 (by decide +kernel)
theorem d_WF_war_83 : decode b_WF_war 83 = .ok (.getfield 46, 3) := dc_180 (by decide +kernel)
theorem d_WF_war_86 : decode b_WF_war 86 = .ok (.iload 4, 2) := dc_21 (by decide +kernel)
theorem d_WF_war_88 : decode b_WF_war 88 = .ok (.invokevirtual 253, 3) := dc_182 (by decide +kernel)
theorem d_WF_war_91 : decode b_WF_war 91 = .ok (.aload_n 0, 1) := dc_42 (by decide +kernel)
theorem d_WF_war_92 : decode b_WF_war 92 = .ok (.getfield 97, 3) := dc_180 (by decide +kernel)
theorem d_WF_war_95 : decode b_WF_war 95 = .ok (.aload_n 0, 1) := dc_42 (by decide +kernel)
theorem d_WF_war_96 : decode b_WF_war 96 = .ok (.getfield 22, 3) := dc_180 (by decide +kernel)
theorem d_WF_war_99 : decode b_WF_war 99 = .ok (.invokevirtual 333, 3) := dc_182 (by decide +kernel)
theorem d_WF_war_102 : decode b_WF_war 102 = .ok (.iload_n 2, 1) := dc_28 (by decide +kernel)
theorem d_WF_war_103 : decode b_WF_war 103 = .ok (.if_icmp .ne 6, 3) := dc_160 (by decide +kernel)
theorem d_WF_war_106 : decode b_WF_war 106 = .ok (.iinc 3 1, 3) := dc_132 (by decide +kernel)
theorem d_WF_war_109 : decode b_WF_war 109 = .ok (.iinc 4 1, 3) := dc_132 (by decide +kernel)
theorem d_WF_war_112 : decode b_WF_war 112 = .ok (.goto (-78), 3) := dc_167 (by decide +kernel)
theorem d_WF_war_115 : decode b_WF_war 115 = .ok (.iload_n 3, 1) := dc_29 (by decide +kernel)
theorem d_WF_war_116 : decode b_WF_war 116 = .ok (.ireturn, 1) := dc_172 (by decide +kernel)
def t_WF_war_L109 (x1 : Int) (x2 : Int) (bk34 : Mem → Int → Int → Option (Mem × Int)) (M : Mem) (v3_ : Int) (v4_ : Int) : Option (Mem × Int) := (bk34 M v3_ (w32 (v4_ + 1)))
def t_WF_war_L34 (x1 : Int) (x2 : Int)  : Nat → Mem → Int → Int → Option (Mem × Int)
  | 0, _, _, _ => none
  | fu + 1, M, v3_, v4_ => (if (M.1 ((M.1 0 4).toNat) 13) ≤ v4_ then (some (M, v3_)) else (qlet (t_Town_ownerOf M ((M.1 0 4).toNat) v4_) fun q14 => (if q14 = x1 then (qlet (t_WF_bitOf M (M.2 47 4) v4_) fun q17 => (if q17 = 0 then (obind (t_Trail_follow M 189 ((M.1 0 4).toNat) 47 v4_) fun q21 => (obind (t_Trail_firstOther q21 189 ((q21.1 0 4).toNat)) fun q24 => (if q24 = x2 then (t_WF_war_L109 x1 x2 (fun a0_ a1_ a2_ => t_WF_war_L34 x1 x2 fu a0_ a1_ a2_) q21 (w32 (v3_ + 1)) v4_) else (t_WF_war_L109 x1 x2 (fun a0_ a1_ a2_ => t_WF_war_L34 x1 x2 fu a0_ a1_ a2_) q21 v3_ v4_)))) else (t_WF_war_L109 x1 x2 (fun a0_ a1_ a2_ => t_WF_war_L34 x1 x2 fu a0_ a1_ a2_) M v3_ v4_))) else (t_WF_war_L109 x1 x2 (fun a0_ a1_ a2_ => t_WF_war_L34 x1 x2 fu a0_ a1_ a2_) M v3_ v4_))))
def t_WF_war (M : Mem) (x1 : Int) (x2 : Int) : Option (Mem × Int) := (qlet (t_Town_hasWard M ((M.1 0 4).toNat) x1) fun q2 => (if q2 = 0 then (some (M, (-1))) else (qlet (t_Town_hasWard M ((M.1 0 4).toNat) x2) fun q6 => (if q6 = 0 then (some (M, (-1))) else (if x1 = x2 then (some (M, (-1))) else (t_WF_war_L34 x1 x2 FU M 0 0))))))
set_option maxHeartbeats 4000000 in
set_option maxRecDepth 100000 in
theorem k_WF_war_L109 (l : Launch) {p : Program} {e : Env} {s : State} {m : MethodId} {below : List Frame} {meth : Method} {c : Code} {b n : Nat} {C : CT} (hlo : 191 ≤ n) (x1 : Int) (x2 : Int) (hx1 : InR x1) (hx2 : InR x2) (F : Cx b p m c b_WF_war 5 s ([.ref (b + 0), vI x1, vI x2] : List Value).toArray "WardFalls" C n 191) (hlk : meth.locks = false) (hr : meth.sig.returnType = some .int) {res : Mem × Int} (bk34 : Mem → Int → Int → Option (Mem × Int)) (hbk34 : ∀ (M : Mem) (v3_ : Int) (hv3_ : InR v3_) (v4_ : Int) (hv4_ : InR v4_) (H : Heap) (locs : List Loc) (ls : Array Slot), St b C n M s H locs → lv_has ls 5 [(0, .ref (b + 0)), (1, vI x1), (2, vI x2), (3, vI v3_), (4, vI v4_)] → bk34 M v3_ v4_ = some res → W p l e (headSpec (wsM y_WF_war b_WF_war 5 (some .int)) (rmD 4)).room s m ([.ref (b + 0), vI x1, vI x2] : List Value).toArray below meth c H locs 0 0 (MQ below (QI b C n res.1 res.2) ([.ref (b + 0), vI x1, vI x2] : List Value).toArray s 0 0 (frb b)) (F0 m 34 ls [])) (M : Mem) (v3_ : Int) (hv3_ : InR v3_) (v4_ : Int) (hv4_ : InR v4_) (H : Heap) (locs : List Loc) (ls : Array Slot) (hS : St b C n M s H locs) (hl : lv_has ls 5 [(0, .ref (b + 0)), (1, vI x1), (2, vI x2), (3, vI v3_), (4, vI v4_)]) (hT : t_WF_war_L109 x1 x2 bk34 M v3_ v4_ = some res) : W p l e (headSpec (wsM y_WF_war b_WF_war 5 (some .int)) (rmD 4)).room s m ([.ref (b + 0), vI x1, vI x2] : List Value).toArray below meth c H locs 0 0 (MQ below (QI b C n res.1 res.2) ([.ref (b + 0), vI x1, vI x2] : List Value).toArray s 0 0 (frb b)) (F0 m 109 ls []) := by
  unfold t_WF_war_L109 at hT
  refine lv_iinc (v := Int32.ofInt (w32 (v4_ + 1))) (lv' := [(4, vI (w32 (v4_ + 1))), (0, .ref (b + 0)), (1, vI x1), (2, vI x2), (3, vI v3_)]) F.hx F.hb d_WF_war_109 hl (k := 4) rfl (q_of_add _ _) (Nat.le_of_ble_eq_true rfl) rfl (fun ls hl => ?_)
  refine lv_goto (tgt := 34) F.hx F.hb d_WF_war_112 (by decide) ?_
  exact hbk34 M v3_ hv3_ (w32 (v4_ + 1)) (inr_w32 _) _ _ _ hS (lv_sub hl [1, 2, 3, 4, 0] rfl) hT
set_option maxHeartbeats 4000000 in
set_option maxRecDepth 100000 in
theorem k_WF_war_L34 (l : Launch) {p : Program} {e : Env} {s : State} {m : MethodId} {below : List Frame} {meth : Method} {c : Code} {b n : Nat} {C : CT} (hlo : 191 ≤ n) (x1 : Int) (x2 : Int) (hx1 : InR x1) (hx2 : InR x2) (F : Cx b p m c b_WF_war 5 s ([.ref (b + 0), vI x1, vI x2] : List Value).toArray "WardFalls" C n 191) (hlk : meth.locks = false) (hr : meth.sig.returnType = some .int) {res : Mem × Int} : ∀ (fu : Nat) (M : Mem) (v3_ : Int) (hv3_ : InR v3_) (v4_ : Int) (hv4_ : InR v4_) (H : Heap) (locs : List Loc) (ls : Array Slot), St b C n M s H locs → lv_has ls 5 [(0, .ref (b + 0)), (1, vI x1), (2, vI x2), (3, vI v3_), (4, vI v4_)] → t_WF_war_L34 x1 x2 fu M v3_ v4_ = some res → W p l e (headSpec (wsM y_WF_war b_WF_war 5 (some .int)) (rmD 4)).room s m ([.ref (b + 0), vI x1, vI x2] : List Value).toArray below meth c H locs 0 0 (MQ below (QI b C n res.1 res.2) ([.ref (b + 0), vI x1, vI x2] : List Value).toArray s 0 0 (frb b)) (F0 m 34 ls []) := by
  intro fu
  induction fu with
  | zero => intro M v3_ hv3_ v4_ hv4_ H locs ls hS hl hT; exact absurd hT (by simp [t_WF_war_L34])
  | succ fu ih =>
    intro M v3_ hv3_ v4_ hv4_ H locs ls hS hl hT
    rw [t_WF_war_L34] at hT
    refine lv_iload F.hx F.hb d_WF_war_34 (lv_at hl 4 rfl) ?_
    refine lv_aload_n F.hx F.hb d_WF_war_36 rfl (lv_at hl 0 rfl) ?_
    have h10 := St_town hS
    refine r_get (v := .ref (b + ((M.1 0 4).toNat))) (N := 19) (T := T0) (j := 4) F hS (show 0 < 191 by decide) (show shK 0 = 4 from rfl) (show shN 0 = 19 from rfl) rfl (Nat.le_of_ble_eq_true rfl) ing0 mw_554 (fv_town hS) d_WF_war_37 ?_
    refine r_get (v := vI (M.1 ((M.1 0 4).toNat) 13)) (N := 20) (T := T11) (j := 13) F hS (Town_lt h10) (Town_sh h10) (Town_N h10) rfl (Nat.le_of_ble_eq_true rfl) ing11 mw_132 (fv_int rfl) d_WF_war_40 ?_
    have i11 := hS.rng ((M.1 0 4).toNat) 13
    refine r_icmp_ge (tgt := 115) F.hx F.hb hv4_ i11 d_WF_war_43 (by decide) (fun c12 => ?_) (fun c12 => ?_)
    · replace hT := (if_pos c12).symm.trans hT
      refine lv_iload_n F.hx F.hb d_WF_war_115 rfl (lv_at hl 3 rfl) ?_
      cases hT
      exact r_iret F hlk hr rfl hS hv3_ d_WF_war_116
    · replace hT := (if_neg c12).symm.trans hT
      refine lv_aload_n F.hx F.hb d_WF_war_46 rfl (lv_at hl 0 rfl) ?_
      have h13 := St_town hS
      refine r_get (v := .ref (b + ((M.1 0 4).toNat))) (N := 19) (T := T0) (j := 4) F hS (show 0 < 191 by decide) (show shK 0 = 4 from rfl) (show shN 0 = 19 from rfl) rfl (Nat.le_of_ble_eq_true rfl) ing0 mw_554 (fv_town hS) d_WF_war_47 ?_
      refine lv_iload F.hx F.hb d_WF_war_50 (lv_at hl 4 rfl) ?_
      obtain ⟨q14, hq14⟩ : ∃ q, q = (t_Town_ownerOf M ((M.1 0 4).toNat) v4_) := ⟨_, rfl⟩
      replace hT := qlet_eq hT hq14
      refine r_backI F hS (r_runV (k := ((M.1 0 4).toNat)) (N := 20) (T := T11) (As := [vI v4_]) F hS (Town_lt h13) (Town_sh h13) rfl (c_Town_ownerOf l F.2.2.1 M ((M.1 0 4).toNat) v4_ h13 hv4_ _ hq14.symm) gs_WF_161 hd_Town_ownerOf ⟨Nat.le_of_ble_eq_true rfl, Nat.le_of_ble_eq_true rfl⟩ rfl hl.1 (Nat.le_of_ble_eq_true rfl) ⟨Nat.zero_le _, Nat.zero_le _⟩ rfl d_WF_war_52) (fun H locs hS h15 => ?_)
      refine lv_iload_n F.hx F.hb d_WF_war_55 rfl (lv_at hl 1 rfl) ?_
      refine r_icmp_ne (tgt := 109) F.hx F.hb h15 hx1 d_WF_war_56 (by decide) (fun c16 => ?_) (fun c16 => ?_)
      · replace hT := (if_neg c16).symm.trans hT
        exact k_WF_war_L109 l hlo x1 x2 hx1 hx2 F hlk hr (fun a0_ a1_ a2_ => t_WF_war_L34 x1 x2 fu a0_ a1_ a2_) ih M v3_ hv3_ v4_ hv4_ _ _ _ hS (lv_sub hl [0, 1, 2, 3, 4] rfl) hT
      · replace hT := (if_pos c16).symm.trans hT
        refine lv_aload_n F.hx F.hb d_WF_war_59 rfl (lv_at hl 0 rfl) ?_
        refine r_get (v := .ref (b + 47)) (N := 19) (T := T0) (j := 8) F hS (show 0 < 191 by decide) (show shK 0 = 4 from rfl) (show shN 0 = 19 from rfl) rfl (Nat.le_of_ble_eq_true rfl) ing0 mw_558 (fv_sg rfl rfl rfl) d_WF_war_60 ?_
        refine r_get (v := .long (M.2 47 4)) (N := 7) (T := T9) (j := 4) F hS (show 47 < 191 by decide) (show shK 47 = 13 from rfl) (show shN 47 = 7 from rfl) rfl (Nat.le_of_ble_eq_true rfl) ing9 mw_287 (fv_long rfl) d_WF_war_63 ?_
        refine lv_iload F.hx F.hb d_WF_war_66 (lv_at hl 4 rfl) ?_
        obtain ⟨q17, hq17⟩ : ∃ q, q = (t_WF_bitOf M (M.2 47 4) v4_) := ⟨_, rfl⟩
        replace hT := qlet_eq hT hq17
        refine r_backI F hS (r_runS (As := [.long (M.2 47 4), vI v4_]) F hS (c_WF_bitOf l F.2.2.1 M (M.2 47 4) v4_ hv4_ _ hq17.symm) gs_WF_169 hd_WF_bitOf ⟨Nat.le_of_ble_eq_true rfl, Nat.le_of_ble_eq_true rfl⟩ rfl hl.1 (Nat.le_of_ble_eq_true rfl) ⟨Nat.zero_le _, Nat.zero_le _⟩ rfl d_WF_war_68) (fun H locs hS h18 => ?_)
        refine r_if_ne (tgt := 109) F.hx F.hb h18 d_WF_war_71 (by decide) (fun c19 => ?_) (fun c19 => ?_)
        · replace hT := (if_neg c19).symm.trans hT
          exact k_WF_war_L109 l hlo x1 x2 hx1 hx2 F hlk hr (fun a0_ a1_ a2_ => t_WF_war_L34 x1 x2 fu a0_ a1_ a2_) ih M v3_ hv3_ v4_ hv4_ _ _ _ hS (lv_sub hl [0, 1, 2, 3, 4] rfl) hT
        · replace hT := (if_pos c19).symm.trans hT
          refine lv_aload_n F.hx F.hb d_WF_war_74 rfl (lv_at hl 0 rfl) ?_
          refine r_get (v := .ref (b + 189)) (N := 19) (T := T0) (j := 18) F hS (show 0 < 191 by decide) (show shK 0 = 4 from rfl) (show shN 0 = 19 from rfl) rfl (Nat.le_of_ble_eq_true rfl) ing0 mw_568 (fv_sg rfl rfl rfl) d_WF_war_75 ?_
          refine lv_aload_n F.hx F.hb d_WF_war_78 rfl (lv_at hl 0 rfl) ?_
          have h20 := St_town hS
          refine r_get (v := .ref (b + ((M.1 0 4).toNat))) (N := 19) (T := T0) (j := 4) F hS (show 0 < 191 by decide) (show shK 0 = 4 from rfl) (show shN 0 = 19 from rfl) rfl (Nat.le_of_ble_eq_true rfl) ing0 mw_554 (fv_town hS) d_WF_war_79 ?_
          refine lv_aload_n F.hx F.hb d_WF_war_82 rfl (lv_at hl 0 rfl) ?_
          refine r_get (v := .ref (b + 47)) (N := 19) (T := T0) (j := 8) F hS (show 0 < 191 by decide) (show shK 0 = 4 from rfl) (show shN 0 = 19 from rfl) rfl (Nat.le_of_ble_eq_true rfl) ing0 mw_558 (fv_sg rfl rfl rfl) d_WF_war_83 ?_
          refine lv_iload F.hx F.hb d_WF_war_86 (lv_at hl 4 rfl) ?_
          obtain ⟨q21, hq21, hT⟩ := q_obind hT
          refine r_backV F hS (r_runV (k := 189) (N := 9) (T := T12) (As := [.ref (b + ((M.1 0 4).toNat)), .ref (b + 47), vI v4_]) F hS (show 189 < 191 by decide) (show shK 189 = 16 from rfl) rfl (c_Trail_follow l F.2.2.1 M 189 ((M.1 0 4).toNat) 47 v4_ (by decide : isTrail 189) h20 (by decide : isScene 47) hv4_ _ hq21) gs_WF_253 hd_Trail_follow ⟨Nat.le_of_ble_eq_true rfl, Nat.le_of_ble_eq_true rfl⟩ rfl hl.1 (Nat.le_of_ble_eq_true rfl) ⟨Nat.zero_le _, Nat.zero_le _⟩ rfl d_WF_war_88) (fun H locs hS => ?_)
          refine lv_aload_n F.hx F.hb d_WF_war_91 rfl (lv_at hl 0 rfl) ?_
          refine r_get (v := .ref (b + 189)) (N := 19) (T := T0) (j := 18) F hS (show 0 < 191 by decide) (show shK 0 = 4 from rfl) (show shN 0 = 19 from rfl) rfl (Nat.le_of_ble_eq_true rfl) ing0 mw_568 (fv_sg rfl rfl rfl) d_WF_war_92 ?_
          refine lv_aload_n F.hx F.hb d_WF_war_95 rfl (lv_at hl 0 rfl) ?_
          have h23 := St_town hS
          refine r_get (v := .ref (b + ((q21.1 0 4).toNat))) (N := 19) (T := T0) (j := 4) F hS (show 0 < 191 by decide) (show shK 0 = 4 from rfl) (show shN 0 = 19 from rfl) rfl (Nat.le_of_ble_eq_true rfl) ing0 mw_554 (fv_town hS) d_WF_war_96 ?_
          obtain ⟨q24, hq24, hT⟩ := q_obind hT
          refine r_backI F hS (r_runV (k := 189) (N := 9) (T := T12) (As := [.ref (b + ((q21.1 0 4).toNat))]) F hS (show 189 < 191 by decide) (show shK 189 = 16 from rfl) rfl (c_Trail_firstOther l F.2.2.1 q21 189 ((q21.1 0 4).toNat) (by decide : isTrail 189) h23 _ hq24) gs_WF_333 hd_Trail_firstOther ⟨Nat.le_of_ble_eq_true rfl, Nat.le_of_ble_eq_true rfl⟩ rfl hl.1 (Nat.le_of_ble_eq_true rfl) ⟨Nat.zero_le _, Nat.zero_le _⟩ rfl d_WF_war_99) (fun H locs hS h25 => ?_)
          refine lv_iload_n F.hx F.hb d_WF_war_102 rfl (lv_at hl 2 rfl) ?_
          refine r_icmp_ne (tgt := 109) F.hx F.hb h25 hx2 d_WF_war_103 (by decide) (fun c26 => ?_) (fun c26 => ?_)
          · replace hT := (if_neg c26).symm.trans hT
            exact k_WF_war_L109 l hlo x1 x2 hx1 hx2 F hlk hr (fun a0_ a1_ a2_ => t_WF_war_L34 x1 x2 fu a0_ a1_ a2_) ih q21 v3_ hv3_ v4_ hv4_ _ _ _ hS (lv_sub hl [0, 1, 2, 3, 4] rfl) hT
          · replace hT := (if_pos c26).symm.trans hT
            refine lv_iinc (v := Int32.ofInt (w32 (v3_ + 1))) (lv' := [(3, vI (w32 (v3_ + 1))), (0, .ref (b + 0)), (1, vI x1), (2, vI x2), (4, vI v4_)]) F.hx F.hb d_WF_war_106 hl (k := 3) rfl (q_of_add _ _) (Nat.le_of_ble_eq_true rfl) rfl (fun ls hl => ?_)
            exact k_WF_war_L109 l hlo x1 x2 hx1 hx2 F hlk hr (fun a0_ a1_ a2_ => t_WF_war_L34 x1 x2 fu a0_ a1_ a2_) ih q21 (w32 (v3_ + 1)) (inr_w32 _) v4_ hv4_ _ _ _ hS (lv_sub hl [1, 2, 3, 0, 4] rfl) hT
set_option maxHeartbeats 4000000 in
set_option maxRecDepth 100000 in
theorem c_WF_war (l : Launch) {b n : Nat} {C : CT} (hlo : 191 ≤ n) (M : Mem) (x1 : Int) (x2 : Int) (hx1 : InR x1) (hx2 : InR x2) (res : Mem × Int) (hT : t_WF_war M x1 x2 = some res) : CM l b C n 4 y_WF_war b_WF_war 5 (some .int) [.ref (b + 0), vI x1, vI x2] M (QI b C n res.1 res.2) := by
  refine CM.of (lo := 191) (ow := "WardFalls") (by decide) rfl (Nat.le_of_ble_eq_true rfl) hlo (fun p e s m below meth c F hlk hr hS ls hl => ?_)
  have hl : lv_has ls 5 [(0, .ref (b + 0)), (1, vI x1), (2, vI x2)] := hl
  unfold t_WF_war at hT
  refine lv_aload_n F.hx F.hb d_WF_war_0 rfl (lv_at hl 0 rfl) ?_
  have h1 := St_town hS
  refine r_get (v := .ref (b + ((M.1 0 4).toNat))) (N := 19) (T := T0) (j := 4) F hS (show 0 < 191 by decide) (show shK 0 = 4 from rfl) (show shN 0 = 19 from rfl) rfl (Nat.le_of_ble_eq_true rfl) ing0 mw_554 (fv_town hS) d_WF_war_1 ?_
  refine lv_iload_n F.hx F.hb d_WF_war_4 rfl (lv_at hl 1 rfl) ?_
  obtain ⟨q2, hq2⟩ : ∃ q, q = (t_Town_hasWard M ((M.1 0 4).toNat) x1) := ⟨_, rfl⟩
  replace hT := qlet_eq hT hq2
  refine r_backZ F hS (r_runV (k := ((M.1 0 4).toNat)) (N := 20) (T := T11) (As := [vI x1]) F hS (Town_lt h1) (Town_sh h1) rfl (c_Town_hasWard l F.2.2.1 M ((M.1 0 4).toNat) x1 h1 hx1 _ hq2.symm) gs_WF_198 hd_Town_hasWard ⟨Nat.le_of_ble_eq_true rfl, Nat.le_of_ble_eq_true rfl⟩ rfl hl.1 (Nat.le_of_ble_eq_true rfl) ⟨Nat.zero_le _, Nat.zero_le _⟩ rfl d_WF_war_5) (fun H locs hS h3 => ?_)
  refine r_if_eq (tgt := 27) F.hx F.hb (inr_z h3) d_WF_war_8 (by decide) (fun c4 => ?_) (fun c4 => ?_)
  · replace hT := (if_pos c4).symm.trans hT
    refine r_iconst F.hx F.hb d_WF_war_27 ?_
    cases hT
    exact r_iret F hlk hr rfl hS (inr_c rfl) d_WF_war_28
  · replace hT := (if_neg c4).symm.trans hT
    refine lv_aload_n F.hx F.hb d_WF_war_11 rfl (lv_at hl 0 rfl) ?_
    have h5 := St_town hS
    refine r_get (v := .ref (b + ((M.1 0 4).toNat))) (N := 19) (T := T0) (j := 4) F hS (show 0 < 191 by decide) (show shK 0 = 4 from rfl) (show shN 0 = 19 from rfl) rfl (Nat.le_of_ble_eq_true rfl) ing0 mw_554 (fv_town hS) d_WF_war_12 ?_
    refine lv_iload_n F.hx F.hb d_WF_war_15 rfl (lv_at hl 2 rfl) ?_
    obtain ⟨q6, hq6⟩ : ∃ q, q = (t_Town_hasWard M ((M.1 0 4).toNat) x2) := ⟨_, rfl⟩
    replace hT := qlet_eq hT hq6
    refine r_backZ F hS (r_runV (k := ((M.1 0 4).toNat)) (N := 20) (T := T11) (As := [vI x2]) F hS (Town_lt h5) (Town_sh h5) rfl (c_Town_hasWard l F.2.2.1 M ((M.1 0 4).toNat) x2 h5 hx2 _ hq6.symm) gs_WF_198 hd_Town_hasWard ⟨Nat.le_of_ble_eq_true rfl, Nat.le_of_ble_eq_true rfl⟩ rfl hl.1 (Nat.le_of_ble_eq_true rfl) ⟨Nat.zero_le _, Nat.zero_le _⟩ rfl d_WF_war_16) (fun H locs hS h7 => ?_)
    refine r_if_eq (tgt := 27) F.hx F.hb (inr_z h7) d_WF_war_19 (by decide) (fun c8 => ?_) (fun c8 => ?_)
    · replace hT := (if_pos c8).symm.trans hT
      refine r_iconst F.hx F.hb d_WF_war_27 ?_
      cases hT
      exact r_iret F hlk hr rfl hS (inr_c rfl) d_WF_war_28
    · replace hT := (if_neg c8).symm.trans hT
      refine lv_iload_n F.hx F.hb d_WF_war_22 rfl (lv_at hl 1 rfl) ?_
      refine lv_iload_n F.hx F.hb d_WF_war_23 rfl (lv_at hl 2 rfl) ?_
      refine r_icmp_ne (tgt := 29) F.hx F.hb hx1 hx2 d_WF_war_24 (by decide) (fun c9 => ?_) (fun c9 => ?_)
      · replace hT := (if_neg c9).symm.trans hT
        refine r_iconst F.hx F.hb d_WF_war_29 ?_
        refine lv_istore_n (lv' := [(3, vI 0), (0, .ref (b + 0)), (1, vI x1), (2, vI x2)]) F.hx F.hb d_WF_war_30 rfl hl (Nat.le_of_ble_eq_true rfl) rfl (fun ls hl => ?_)
        refine r_iconst F.hx F.hb d_WF_war_31 ?_
        refine lv_istore (lv' := [(4, vI 0), (3, vI 0), (0, .ref (b + 0)), (1, vI x1), (2, vI x2)]) F.hx F.hb d_WF_war_32 hl (Nat.le_of_ble_eq_true rfl) rfl (fun ls hl => ?_)
        exact k_WF_war_L34 l hlo x1 x2 hx1 hx2 F hlk hr FU M 0 (inr_c rfl) 0 (inr_c rfl) _ _ _ hS (lv_sub hl [2, 3, 4, 1, 0] rfl) hT
      · replace hT := (if_pos c9).symm.trans hT
        refine r_iconst F.hx F.hb d_WF_war_27 ?_
        cases hT
        exact r_iret F hlk hr rfl hS (inr_c rfl) d_WF_war_28
theorem d_WF_nets_0 : decode b_WF_nets 0 = .ok (.lconst 0, 1) := dc_9 (by decide +kernel)
theorem d_WF_nets_1 : decode b_WF_nets 1 = .ok (.lstore_n 1, 1) := dc_64 (by decide +kernel)
theorem d_WF_nets_2 : decode b_WF_nets 2 = .ok (.iconst 0, 1) := dc_3 (by decide +kernel)
theorem d_WF_nets_3 : decode b_WF_nets 3 = .ok (.istore_n 3, 1) := dc_62 (by decide +kernel)
theorem d_WF_nets_4 : decode b_WF_nets 4 = .ok (.iload_n 3, 1) := dc_29 (by decide +kernel)
theorem d_WF_nets_5 : decode b_WF_nets 5 = .ok (.aload_n 0, 1) := dc_42 (by decide +kernel)
theorem d_WF_nets_6 : decode b_WF_nets 6 = .ok (.getfield 22, 3) := dc_180 (by decide +kernel)
theorem d_WF_nets_9 : decode b_WF_nets 9 = .ok (.getfield 330, 3) := dc_180 (by decide +kernel)
theorem d_WF_nets_12 : decode b_WF_nets 12 = .ok (.if_icmp .ge 66, 3) := dc_162 (by decide +kernel)
theorem d_WF_nets_15 : decode b_WF_nets 15 = .ok (.aload_n 0, 1) := dc_42 (by decide +kernel)
theorem d_WF_nets_16 : decode b_WF_nets 16 = .ok (.getfield 46, 3) := dc_180 (by decide +kernel)
theorem d_WF_nets_19 : decode b_WF_nets 19 = .ok (.getfield 165, 3) := dc_180 (by decide +kernel)
theorem d_WF_nets_22 : decode b_WF_nets 22 = .ok (.iload_n 3, 1) := dc_29 (by decide +kernel)
theorem d_WF_nets_23 : decode b_WF_nets 23 = .ok (.invokestatic 169, 3) := dc_184 (by decide +kernel)
theorem d_WF_nets_26 : decode b_WF_nets 26 = .ok (.iconst 1, 1) := dc_4 (by decide +kernel)
theorem d_WF_nets_27 : decode b_WF_nets 27 = .ok (.if_icmp .ne 7, 3) := dc_160 (by decide +kernel)
theorem d_WF_nets_30 : decode b_WF_nets 30 = .ok (.iconst (-1), 1) := dc_2 (by decide +kernel)
theorem d_WF_nets_31 : decode b_WF_nets 31 = .ok (.goto 15, 3) := dc_167 (by decide +kernel)
theorem d_WF_nets_34 : decode b_WF_nets 34 = .ok (.aload_n 0, 1) := dc_42 (by decide +kernel)
theorem d_WF_nets_35 : decode b_WF_nets 35 = .ok (.getfield 46, 3) := dc_180 (by decide +kernel)
theorem d_WF_nets_38 : decode b_WF_nets 38 = .ok (.aload_n 0, 1) := dc_42 (by decide +kernel)
theorem d_WF_nets_39 : decode b_WF_nets 39 = .ok (.getfield 22, 3) := dc_180 (by decide +kernel)
theorem d_WF_nets_42 : decode b_WF_nets 42 = .ok (.iload_n 3, 1) := dc_29 (by decide +kernel)
theorem d_WF_nets_43 : decode b_WF_nets 43 = .ok (.invokevirtual 186, 3) := dc_182 (by decide +kernel)
theorem d_WF_nets_46 : decode b_WF_nets 46 = .ok (.istore 4, 2) := dc_54 (by decide +kernel)
theorem d_WF_nets_48 : decode b_WF_nets 48 = .ok (.iload 4, 2) := dc_21 (by decide +kernel)
theorem d_WF_nets_50 : decode b_WF_nets 50 = .ok (.ifCond .lt 22, 3) := dc_155 (by decide +kernel)
theorem d_WF_nets_53 : decode b_WF_nets 53 = .ok (.aload_n 0, 1) := dc_42 (by decide +kernel)
theorem d_WF_nets_54 : decode b_WF_nets 54 = .ok (.getfield 22, 3) := dc_180 (by decide +kernel)
theorem d_WF_nets_57 : decode b_WF_nets 57 = .ok (.iload_n 3, 1) := dc_29 (by decide +kernel)
theorem d_WF_nets_58 : decode b_WF_nets 58 = .ok (.iload 4, 2) := dc_21 (by decide +kernel)
theorem d_WF_nets_60 : decode b_WF_nets 60 = .ok (.invokevirtual 337, 3) := dc_182 (by decide +kernel)
theorem d_WF_nets_63 : decode b_WF_nets 63 = .ok (.ifCond .eq 9, 3) := dc_153 (by decide +kernel)
theorem d_WF_nets_66 : decode b_WF_nets 66 = .ok (.lload_n 1, 1) := dc_31 (by decide +kernel)
theorem d_WF_nets_67 : decode b_WF_nets 67 = .ok (.lconst 1, 1) := dc_10 (by decide +kernel)
theorem d_WF_nets_68 : decode b_WF_nets 68 = .ok (.iload_n 3, 1) := dc_29 (by decide +kernel)
theorem d_WF_nets_69 : decode b_WF_nets 69 = .ok (.lshl, 1) := dc_121 (by decide +kernel)
theorem d_WF_nets_70 : decode b_WF_nets 70 = .ok (.lor, 1) := dc_129 (by decide +kernel)
theorem d_WF_nets_71 : decode b_WF_nets 71 = .ok (.lstore_n 1, 1) := dc_64 (by decide +kernel)
theorem d_WF_nets_72 : decode b_WF_nets 72 = .ok (.iinc 3 1, 3) := dc_132 (by decide +kernel)
theorem d_WF_nets_75 : decode b_WF_nets 75 = .ok (.goto (-71), 3) := dc_167 (by decide +kernel)
theorem d_WF_nets_78 : decode b_WF_nets 78 = .ok (.lload_n 1, 1) := dc_31 (by decide +kernel)
theorem d_WF_nets_79 : decode b_WF_nets 79 = .ok (.lreturn, 1) := dc_173 (by decide +kernel)
def t_WF_nets_L72  (bk4 : Mem → Int64 → Int → Option (Int64)) (M : Mem) (v1_ : Int64) (v2_ : Int) : Option (Int64) := (bk4 M v1_ (w32 (v2_ + 1)))
def t_WF_nets_L46  (bk4 : Mem → Int64 → Int → Option (Int64)) (M : Mem) (v1_ : Int64) (v2_ : Int) (v3_ : Int) : Option (Int64) := (if v3_ < 0 then (t_WF_nets_L72 bk4 M v1_ v2_) else (qlet (t_Town_isLine M ((M.1 0 4).toNat) v2_ v3_) fun q12 => (if q12 = 0 then (t_WF_nets_L72 bk4 M v1_ v2_) else (t_WF_nets_L72 bk4 M (v1_ ||| (q_lshl 1 v2_)) v2_))))
def t_WF_nets_L4   : Nat → Mem → Int64 → Int → Option (Int64)
  | 0, _, _, _ => none
  | fu + 1, M, v1_, v2_ => (if (M.1 ((M.1 0 4).toNat) 13) ≤ v2_ then (some v1_) else (qlet (t_WF_bitOf M (M.2 47 4) v2_) fun q4 => (if q4 = 1 then (t_WF_nets_L46 (fun a0_ a1_ a2_ => t_WF_nets_L4 fu a0_ a1_ a2_) M v1_ v2_ (-1)) else (qlet (t_Scene_nextOf M 47 ((M.1 0 4).toNat) v2_) fun q8 => (t_WF_nets_L46 (fun a0_ a1_ a2_ => t_WF_nets_L4 fu a0_ a1_ a2_) M v1_ v2_ q8)))))
def t_WF_nets (M : Mem)  : Option (Int64) := (t_WF_nets_L4 FU M 0 0)
set_option maxHeartbeats 4000000 in
set_option maxRecDepth 100000 in
theorem k_WF_nets_L72 (l : Launch) {p : Program} {e : Env} {s : State} {m : MethodId} {below : List Frame} {meth : Method} {c : Code} {b n : Nat} {C : CT} (hlo : 191 ≤ n)   (F : Cx b p m c b_WF_nets 5 s ([.ref (b + 0)] : List Value).toArray "WardFalls" C n 191) (hlk : meth.locks = false) (hr : meth.sig.returnType = some .long) {res : Int64} (bk4 : Mem → Int64 → Int → Option (Int64)) (hbk4 : ∀ (M : Mem) (v1_ : Int64) (v2_ : Int) (hv2_ : InR v2_) (H : Heap) (locs : List Loc) (ls : Array Slot), St b C n M s H locs → lv_has ls 5 [(0, .ref (b + 0)), (1, .long v1_), (3, vI v2_)] → bk4 M v1_ v2_ = some res → W p l e (headSpec (wsM y_WF_nets b_WF_nets 5 (some .long)) (rmD 3)).room s m ([.ref (b + 0)] : List Value).toArray below meth c H locs 0 0 (MQ below (QL b C n M res) ([.ref (b + 0)] : List Value).toArray s 0 0 (frb b)) (F0 m 4 ls [])) (M : Mem) (v1_ : Int64) (v2_ : Int) (hv2_ : InR v2_) (H : Heap) (locs : List Loc) (ls : Array Slot) (hS : St b C n M s H locs) (hl : lv_has ls 5 [(0, .ref (b + 0)), (1, .long v1_), (3, vI v2_)]) (hT : t_WF_nets_L72 bk4 M v1_ v2_ = some res) : W p l e (headSpec (wsM y_WF_nets b_WF_nets 5 (some .long)) (rmD 3)).room s m ([.ref (b + 0)] : List Value).toArray below meth c H locs 0 0 (MQ below (QL b C n M res) ([.ref (b + 0)] : List Value).toArray s 0 0 (frb b)) (F0 m 72 ls []) := by
  unfold t_WF_nets_L72 at hT
  refine lv_iinc (v := Int32.ofInt (w32 (v2_ + 1))) (lv' := [(3, vI (w32 (v2_ + 1))), (0, .ref (b + 0)), (1, .long v1_)]) F.hx F.hb d_WF_nets_72 hl (k := 2) rfl (q_of_add _ _) (Nat.le_of_ble_eq_true rfl) rfl (fun ls hl => ?_)
  refine lv_goto (tgt := 4) F.hx F.hb d_WF_nets_75 (by decide) ?_
  exact hbk4 M v1_ (w32 (v2_ + 1)) (inr_w32 _) _ _ _ hS (lv_sub hl [1, 2, 0] rfl) hT
set_option maxHeartbeats 4000000 in
set_option maxRecDepth 100000 in
theorem k_WF_nets_L46 (l : Launch) {p : Program} {e : Env} {s : State} {m : MethodId} {below : List Frame} {meth : Method} {c : Code} {b n : Nat} {C : CT} (hlo : 191 ≤ n)   (F : Cx b p m c b_WF_nets 5 s ([.ref (b + 0)] : List Value).toArray "WardFalls" C n 191) (hlk : meth.locks = false) (hr : meth.sig.returnType = some .long) {res : Int64} (bk4 : Mem → Int64 → Int → Option (Int64)) (hbk4 : ∀ (M : Mem) (v1_ : Int64) (v2_ : Int) (hv2_ : InR v2_) (H : Heap) (locs : List Loc) (ls : Array Slot), St b C n M s H locs → lv_has ls 5 [(0, .ref (b + 0)), (1, .long v1_), (3, vI v2_)] → bk4 M v1_ v2_ = some res → W p l e (headSpec (wsM y_WF_nets b_WF_nets 5 (some .long)) (rmD 3)).room s m ([.ref (b + 0)] : List Value).toArray below meth c H locs 0 0 (MQ below (QL b C n M res) ([.ref (b + 0)] : List Value).toArray s 0 0 (frb b)) (F0 m 4 ls [])) (M : Mem) (v1_ : Int64) (v2_ : Int) (hv2_ : InR v2_) (v3_ : Int) (hv3_ : InR v3_) (H : Heap) (locs : List Loc) (ls : Array Slot) (hS : St b C n M s H locs) (hl : lv_has ls 5 [(0, .ref (b + 0)), (1, .long v1_), (3, vI v2_)]) (hT : t_WF_nets_L46 bk4 M v1_ v2_ v3_ = some res) : W p l e (headSpec (wsM y_WF_nets b_WF_nets 5 (some .long)) (rmD 3)).room s m ([.ref (b + 0)] : List Value).toArray below meth c H locs 0 0 (MQ below (QL b C n M res) ([.ref (b + 0)] : List Value).toArray s 0 0 (frb b)) (F0 m 46 ls [vI v3_]) := by
  unfold t_WF_nets_L46 at hT
  refine lv_istore (lv' := [(4, vI v3_), (0, .ref (b + 0)), (1, .long v1_), (3, vI v2_)]) F.hx F.hb d_WF_nets_46 hl (Nat.le_of_ble_eq_true rfl) rfl (fun ls hl => ?_)
  refine lv_iload F.hx F.hb d_WF_nets_48 (lv_at hl 0 rfl) ?_
  refine r_if_lt (tgt := 72) F.hx F.hb hv3_ d_WF_nets_50 (by decide) (fun c10 => ?_) (fun c10 => ?_)
  · replace hT := (if_pos c10).symm.trans hT
    exact k_WF_nets_L72 l hlo F hlk hr bk4 hbk4 M v1_ v2_ hv2_ _ _ _ hS (lv_sub hl [1, 2, 3] rfl) hT
  · replace hT := (if_neg c10).symm.trans hT
    refine lv_aload_n F.hx F.hb d_WF_nets_53 rfl (lv_at hl 1 rfl) ?_
    have h11 := St_town hS
    refine r_get (v := .ref (b + ((M.1 0 4).toNat))) (N := 19) (T := T0) (j := 4) F hS (show 0 < 191 by decide) (show shK 0 = 4 from rfl) (show shN 0 = 19 from rfl) rfl (Nat.le_of_ble_eq_true rfl) ing0 mw_554 (fv_town hS) d_WF_nets_54 ?_
    refine lv_iload_n F.hx F.hb d_WF_nets_57 rfl (lv_at hl 3 rfl) ?_
    refine lv_iload F.hx F.hb d_WF_nets_58 (lv_at hl 0 rfl) ?_
    obtain ⟨q12, hq12⟩ : ∃ q, q = (t_Town_isLine M ((M.1 0 4).toNat) v2_ v3_) := ⟨_, rfl⟩
    replace hT := qlet_eq hT hq12
    refine r_backZ F hS (r_runV (k := ((M.1 0 4).toNat)) (N := 20) (T := T11) (As := [vI v2_, vI v3_]) F hS (Town_lt h11) (Town_sh h11) rfl (c_Town_isLine l F.2.2.1 M ((M.1 0 4).toNat) v2_ v3_ h11 hv2_ hv3_ _ hq12.symm) gs_WF_337 hd_Town_isLine ⟨Nat.le_of_ble_eq_true rfl, Nat.le_of_ble_eq_true rfl⟩ rfl hl.1 (Nat.le_of_ble_eq_true rfl) ⟨Nat.zero_le _, Nat.zero_le _⟩ rfl d_WF_nets_60) (fun H locs hS h13 => ?_)
    refine r_if_eq (tgt := 72) F.hx F.hb (inr_z h13) d_WF_nets_63 (by decide) (fun c14 => ?_) (fun c14 => ?_)
    · replace hT := (if_pos c14).symm.trans hT
      exact k_WF_nets_L72 l hlo F hlk hr bk4 hbk4 M v1_ v2_ hv2_ _ _ _ hS (lv_sub hl [1, 2, 3] rfl) hT
    · replace hT := (if_neg c14).symm.trans hT
      refine lv_lload_n F.hx F.hb d_WF_nets_66 rfl (lv_at hl 2 rfl) ?_
      refine lv_lconst (v := 1) F.hx F.hb d_WF_nets_67 rfl ?_
      refine lv_iload_n F.hx F.hb d_WF_nets_68 rfl (lv_at hl 3 rfl) ?_
      refine r_lshl F.hx F.hb d_WF_nets_69 ?_
      refine lv_lor F.hx F.hb d_WF_nets_70 ?_
      refine lv_lstore_n (lv' := [(1, .long (v1_ ||| (q_lshl 1 v2_))), (4, vI v3_), (0, .ref (b + 0)), (3, vI v2_)]) F.hx F.hb d_WF_nets_71 rfl hl (Nat.le_of_ble_eq_true rfl) rfl (fun ls hl => ?_)
      exact k_WF_nets_L72 l hlo F hlk hr bk4 hbk4 M (v1_ ||| (q_lshl 1 v2_)) v2_ hv2_ _ _ _ hS (lv_sub hl [2, 0, 3] rfl) hT
set_option maxHeartbeats 4000000 in
set_option maxRecDepth 100000 in
theorem k_WF_nets_L4 (l : Launch) {p : Program} {e : Env} {s : State} {m : MethodId} {below : List Frame} {meth : Method} {c : Code} {b n : Nat} {C : CT} (hlo : 191 ≤ n)   (F : Cx b p m c b_WF_nets 5 s ([.ref (b + 0)] : List Value).toArray "WardFalls" C n 191) (hlk : meth.locks = false) (hr : meth.sig.returnType = some .long) {res : Int64} : ∀ (fu : Nat) (M : Mem) (v1_ : Int64) (v2_ : Int) (hv2_ : InR v2_) (H : Heap) (locs : List Loc) (ls : Array Slot), St b C n M s H locs → lv_has ls 5 [(0, .ref (b + 0)), (1, .long v1_), (3, vI v2_)] → t_WF_nets_L4 fu M v1_ v2_ = some res → W p l e (headSpec (wsM y_WF_nets b_WF_nets 5 (some .long)) (rmD 3)).room s m ([.ref (b + 0)] : List Value).toArray below meth c H locs 0 0 (MQ below (QL b C n M res) ([.ref (b + 0)] : List Value).toArray s 0 0 (frb b)) (F0 m 4 ls []) := by
  intro fu
  induction fu with
  | zero => intro M v1_ v2_ hv2_ H locs ls hS hl hT; exact absurd hT (by simp [t_WF_nets_L4])
  | succ fu ih =>
    intro M v1_ v2_ hv2_ H locs ls hS hl hT
    rw [t_WF_nets_L4] at hT
    refine lv_iload_n F.hx F.hb d_WF_nets_4 rfl (lv_at hl 2 rfl) ?_
    refine lv_aload_n F.hx F.hb d_WF_nets_5 rfl (lv_at hl 0 rfl) ?_
    have h1 := St_town hS
    refine r_get (v := .ref (b + ((M.1 0 4).toNat))) (N := 19) (T := T0) (j := 4) F hS (show 0 < 191 by decide) (show shK 0 = 4 from rfl) (show shN 0 = 19 from rfl) rfl (Nat.le_of_ble_eq_true rfl) ing0 mw_554 (fv_town hS) d_WF_nets_6 ?_
    refine r_get (v := vI (M.1 ((M.1 0 4).toNat) 13)) (N := 20) (T := T11) (j := 13) F hS (Town_lt h1) (Town_sh h1) (Town_N h1) rfl (Nat.le_of_ble_eq_true rfl) ing11 mw_132 (fv_int rfl) d_WF_nets_9 ?_
    have i2 := hS.rng ((M.1 0 4).toNat) 13
    refine r_icmp_ge (tgt := 78) F.hx F.hb hv2_ i2 d_WF_nets_12 (by decide) (fun c3 => ?_) (fun c3 => ?_)
    · replace hT := (if_pos c3).symm.trans hT
      refine lv_lload_n F.hx F.hb d_WF_nets_78 rfl (lv_at hl 1 rfl) ?_
      cases hT
      exact r_lret F hlk hr hS d_WF_nets_79
    · replace hT := (if_neg c3).symm.trans hT
      refine lv_aload_n F.hx F.hb d_WF_nets_15 rfl (lv_at hl 0 rfl) ?_
      refine r_get (v := .ref (b + 47)) (N := 19) (T := T0) (j := 8) F hS (show 0 < 191 by decide) (show shK 0 = 4 from rfl) (show shN 0 = 19 from rfl) rfl (Nat.le_of_ble_eq_true rfl) ing0 mw_558 (fv_sg rfl rfl rfl) d_WF_nets_16 ?_
      refine r_get (v := .long (M.2 47 4)) (N := 7) (T := T9) (j := 4) F hS (show 47 < 191 by decide) (show shK 47 = 13 from rfl) (show shN 47 = 7 from rfl) rfl (Nat.le_of_ble_eq_true rfl) ing9 mw_287 (fv_long rfl) d_WF_nets_19 ?_
      refine lv_iload_n F.hx F.hb d_WF_nets_22 rfl (lv_at hl 2 rfl) ?_
      obtain ⟨q4, hq4⟩ : ∃ q, q = (t_WF_bitOf M (M.2 47 4) v2_) := ⟨_, rfl⟩
      replace hT := qlet_eq hT hq4
      refine r_backI F hS (r_runS (As := [.long (M.2 47 4), vI v2_]) F hS (c_WF_bitOf l F.2.2.1 M (M.2 47 4) v2_ hv2_ _ hq4.symm) gs_WF_169 hd_WF_bitOf ⟨Nat.le_of_ble_eq_true rfl, Nat.le_of_ble_eq_true rfl⟩ rfl hl.1 (Nat.le_of_ble_eq_true rfl) ⟨Nat.zero_le _, Nat.zero_le _⟩ rfl d_WF_nets_23) (fun H locs hS h5 => ?_)
      refine r_iconst F.hx F.hb d_WF_nets_26 ?_
      refine r_icmp_ne (tgt := 34) F.hx F.hb h5 (inr_c rfl) d_WF_nets_27 (by decide) (fun c6 => ?_) (fun c6 => ?_)
      · replace hT := (if_neg c6).symm.trans hT
        refine lv_aload_n F.hx F.hb d_WF_nets_34 rfl (lv_at hl 0 rfl) ?_
        refine r_get (v := .ref (b + 47)) (N := 19) (T := T0) (j := 8) F hS (show 0 < 191 by decide) (show shK 0 = 4 from rfl) (show shN 0 = 19 from rfl) rfl (Nat.le_of_ble_eq_true rfl) ing0 mw_558 (fv_sg rfl rfl rfl) d_WF_nets_35 ?_
        refine lv_aload_n F.hx F.hb d_WF_nets_38 rfl (lv_at hl 0 rfl) ?_
        have h7 := St_town hS
        refine r_get (v := .ref (b + ((M.1 0 4).toNat))) (N := 19) (T := T0) (j := 4) F hS (show 0 < 191 by decide) (show shK 0 = 4 from rfl) (show shN 0 = 19 from rfl) rfl (Nat.le_of_ble_eq_true rfl) ing0 mw_554 (fv_town hS) d_WF_nets_39 ?_
        refine lv_iload_n F.hx F.hb d_WF_nets_42 rfl (lv_at hl 2 rfl) ?_
        obtain ⟨q8, hq8⟩ : ∃ q, q = (t_Scene_nextOf M 47 ((M.1 0 4).toNat) v2_) := ⟨_, rfl⟩
        replace hT := qlet_eq hT hq8
        refine r_backI F hS (r_runV (k := 47) (N := 7) (T := T9) (As := [.ref (b + ((M.1 0 4).toNat)), vI v2_]) F hS (show 47 < 191 by decide) (show shK 47 = 13 from rfl) rfl (c_Scene_nextOf l F.2.2.1 M 47 ((M.1 0 4).toNat) v2_ (by decide : isScene 47) h7 hv2_ _ hq8.symm) gs_WF_186 hd_Scene_nextOf ⟨Nat.le_of_ble_eq_true rfl, Nat.le_of_ble_eq_true rfl⟩ rfl hl.1 (Nat.le_of_ble_eq_true rfl) ⟨Nat.zero_le _, Nat.zero_le _⟩ rfl d_WF_nets_43) (fun H locs hS h9 => ?_)
        exact k_WF_nets_L46 l hlo F hlk hr (fun a0_ a1_ a2_ => t_WF_nets_L4 fu a0_ a1_ a2_) ih M v1_ v2_ hv2_ q8 h9 _ _ _ hS (lv_sub hl [0, 1, 2] rfl) hT
      · replace hT := (if_pos c6).symm.trans hT
        refine r_iconst F.hx F.hb d_WF_nets_30 ?_
        refine lv_goto (tgt := 46) F.hx F.hb d_WF_nets_31 (by decide) ?_
        exact k_WF_nets_L46 l hlo F hlk hr (fun a0_ a1_ a2_ => t_WF_nets_L4 fu a0_ a1_ a2_) ih M v1_ v2_ hv2_ (-1) (inr_c rfl) _ _ _ hS (lv_sub hl [0, 1, 2] rfl) hT
set_option maxHeartbeats 4000000 in
set_option maxRecDepth 100000 in
theorem c_WF_nets (l : Launch) {b n : Nat} {C : CT} (hlo : 191 ≤ n) (M : Mem)   (res : Int64) (hT : t_WF_nets M  = some res) : CM l b C n 3 y_WF_nets b_WF_nets 5 (some .long) [.ref (b + 0)] M (QL b C n M res) := by
  refine CM.of (lo := 191) (ow := "WardFalls") (by decide) rfl (Nat.le_of_ble_eq_true rfl) hlo (fun p e s m below meth c F hlk hr hS ls hl => ?_)
  have hl : lv_has ls 5 [(0, .ref (b + 0))] := hl
  unfold t_WF_nets at hT
  refine lv_lconst (v := 0) F.hx F.hb d_WF_nets_0 rfl ?_
  refine lv_lstore_n (lv' := [(1, .long 0), (0, .ref (b + 0))]) F.hx F.hb d_WF_nets_1 rfl hl (Nat.le_of_ble_eq_true rfl) rfl (fun ls hl => ?_)
  refine r_iconst F.hx F.hb d_WF_nets_2 ?_
  refine lv_istore_n (lv' := [(3, vI 0), (1, .long 0), (0, .ref (b + 0))]) F.hx F.hb d_WF_nets_3 rfl hl (Nat.le_of_ble_eq_true rfl) rfl (fun ls hl => ?_)
  exact k_WF_nets_L4 l hlo F hlk hr FU M 0 0 (inr_c rfl) _ _ _ hS (lv_sub hl [2, 1, 0] rfl) hT
theorem d_Trail_tryClock_0 : decode b_Trail_tryClock 0 = .ok (.iconst 0, 1) := dc_3 (by decide +kernel)
theorem d_Trail_tryClock_1 : decode b_Trail_tryClock 1 = .ok (.istore 5, 2) := dc_54 (by decide +kernel)
theorem d_Trail_tryClock_3 : decode b_Trail_tryClock 3 = .ok (.iload 5, 2) := dc_21 (by decide +kernel)
theorem d_Trail_tryClock_5 : decode b_Trail_tryClock 5 = .ok (.aload_n 1, 1) := dc_43 (by decide +kernel)
theorem d_Trail_tryClock_6 : decode b_Trail_tryClock 6 = .ok (.getfield 82, 3) := dc_180 (by decide +kernel)
theorem d_Trail_tryClock_9 : decode b_Trail_tryClock 9 = .ok (.if_icmp .ge 72, 3) := dc_162 (by decide +kernel)
theorem d_Trail_tryClock_12 : decode b_Trail_tryClock 12 = .ok (.aload_n 2, 1) := dc_44 (by decide +kernel)
theorem d_Trail_tryClock_13 : decode b_Trail_tryClock 13 = .ok (.getfield 84, 3) := dc_180 (by decide +kernel)
theorem d_Trail_tryClock_16 : decode b_Trail_tryClock 16 = .ok (.iload 5, 2) := dc_21 (by decide +kernel)
theorem d_Trail_tryClock_18 : decode b_Trail_tryClock 18 = .ok (.invokestatic 44, 3) := dc_184 (by decide +kernel)
theorem d_Trail_tryClock_21 : decode b_Trail_tryClock 21 = .ok (.ifCond .ne 54, 3) := dc_154 (by decide +kernel)
theorem d_Trail_tryClock_24 : decode b_Trail_tryClock 24 = .ok (.aload_n 0, 1) := dc_42 (by decide +kernel)
theorem d_Trail_tryClock_25 : decode b_Trail_tryClock 25 = .ok (.aload_n 1, 1) := dc_43 (by decide +kernel)
theorem d_Trail_tryClock_26 : decode b_Trail_tryClock 26 = .ok (.aload_n 2, 1) := dc_44 (by decide +kernel)
theorem d_Trail_tryClock_27 : decode b_Trail_tryClock 27 = .ok (.iload 5, 2) := dc_21 (by decide +kernel)
theorem d_Trail_tryClock_29 : decode b_Trail_tryClock 29 = .ok (.invokevirtual 88, 3) := dc_182 (by decide +kernel)
theorem d_Trail_tryClock_32 : decode b_Trail_tryClock 32 = .ok (.aload_n 0, 1) := dc_42 (by decide +kernel)
theorem d_Trail_tryClock_33 : decode b_Trail_tryClock 33 = .ok (.getfield 29, 3) := dc_180 (by decide +kernel)
theorem d_Trail_tryClock_36 : decode b_Trail_tryClock 36 = .ok (.ifCond .ne 39, 3) := dc_154 (by decide +kernel)
theorem d_Trail_tryClock_39 : decode b_Trail_tryClock 39 = .ok (.aload_n 0, 1) := dc_42 (by decide +kernel)
theorem d_Trail_tryClock_40 : decode b_Trail_tryClock 40 = .ok (.getfield 19, 3) := dc_180 (by decide +kernel)
theorem d_Trail_tryClock_43 : decode b_Trail_tryClock 43 = .ok (.aload_n 0, 1) := dc_42 (by decide +kernel)
theorem d_Trail_tryClock_44 : decode b_Trail_tryClock 44 = .ok (.getfield 60, 3) := dc_180 (by decide +kernel)
theorem d_Trail_tryClock_47 : decode b_Trail_tryClock 47 = .ok (.if_icmp .le 28, 3) := dc_164 (by decide +kernel)
theorem d_Trail_tryClock_50 : decode b_Trail_tryClock 50 = .ok (.aload_n 0, 1) := dc_42 (by decide +kernel)
theorem d_Trail_tryClock_51 : decode b_Trail_tryClock 51 = .ok (.aload_n 0, 1) := dc_42 (by decide +kernel)
theorem d_Trail_tryClock_52 : decode b_Trail_tryClock 52 = .ok (.getfield 19, 3) := dc_180 (by decide +kernel)
theorem d_Trail_tryClock_55 : decode b_Trail_tryClock 55 = .ok (.putfield 60, 3) := dc_181 (by decide +kernel)
theorem d_Trail_tryClock_58 : decode b_Trail_tryClock 58 = .ok (.aload_n 0, 1) := dc_42 (by decide +kernel)
theorem d_Trail_tryClock_59 : decode b_Trail_tryClock 59 = .ok (.iload_n 3, 1) := dc_29 (by decide +kernel)
theorem d_Trail_tryClock_60 : decode b_Trail_tryClock 60 = .ok (.putfield 63, 3) := dc_181 (by decide +kernel)
theorem d_Trail_tryClock_63 : decode b_Trail_tryClock 63 = .ok (.aload_n 0, 1) := dc_42 (by decide +kernel)
theorem d_Trail_tryClock_64 : decode b_Trail_tryClock 64 = .ok (.iload 4, 2) := dc_21 (by decide +kernel)
theorem d_Trail_tryClock_66 : decode b_Trail_tryClock 66 = .ok (.putfield 66, 3) := dc_181 (by decide +kernel)
theorem d_Trail_tryClock_69 : decode b_Trail_tryClock 69 = .ok (.aload_n 0, 1) := dc_42 (by decide +kernel)
theorem d_Trail_tryClock_70 : decode b_Trail_tryClock 70 = .ok (.iload 5, 2) := dc_21 (by decide +kernel)
theorem d_Trail_tryClock_72 : decode b_Trail_tryClock 72 = .ok (.putfield 69, 3) := dc_181 (by decide +kernel)
theorem d_Trail_tryClock_75 : decode b_Trail_tryClock 75 = .ok (.iinc 5 1, 3) := dc_132 (by decide +kernel)
theorem d_Trail_tryClock_78 : decode b_Trail_tryClock 78 = .ok (.goto (-75), 3) := dc_167 (by decide +kernel)
theorem d_Trail_tryClock_81 : decode b_Trail_tryClock 81 = .ok (.return_, 1) := dc_177 (by decide +kernel)
def t_Trail_tryClock_L75 (k0 : Nat) (k1 : Nat) (k2 : Nat) (x3 : Int) (x4 : Int) (bk3 : Mem → Int → Option (Mem)) (M : Mem) (v5_ : Int) : Option (Mem) := (bk3 M (w32 (v5_ + 1)))
def t_Trail_tryClock_L3 (k0 : Nat) (k1 : Nat) (k2 : Nat) (x3 : Int) (x4 : Int)  : Nat → Mem → Int → Option (Mem)
  | 0, _, _ => none
  | fu + 1, M, v5_ => (if (M.1 k1 13) ≤ v5_ then (some M) else (qlet (t_WF_bitOf M (M.2 k2 4) v5_) fun q3 => (if q3 = 0 then (obind (t_Trail_follow M k0 k1 k2 v5_) fun q6 => (if (q6.1 k0 2) = 0 then (if (q6.1 k0 3) ≤ (q6.1 k0 5) then (t_Trail_tryClock_L75 k0 k1 k2 x3 x4 (fun a0_ a1_ => t_Trail_tryClock_L3 k0 k1 k2 x3 x4 fu a0_ a1_) q6 v5_) else (qlet (setI q6 k0 5 (q6.1 k0 3)) fun M14 => (qlet (setI M14 k0 6 x3) fun M15 => (qlet (setI M15 k0 7 x4) fun M16 => (qlet (setI M16 k0 8 v5_) fun M17 => (t_Trail_tryClock_L75 k0 k1 k2 x3 x4 (fun a0_ a1_ => t_Trail_tryClock_L3 k0 k1 k2 x3 x4 fu a0_ a1_) M17 v5_)))))) else (t_Trail_tryClock_L75 k0 k1 k2 x3 x4 (fun a0_ a1_ => t_Trail_tryClock_L3 k0 k1 k2 x3 x4 fu a0_ a1_) q6 v5_))) else (t_Trail_tryClock_L75 k0 k1 k2 x3 x4 (fun a0_ a1_ => t_Trail_tryClock_L3 k0 k1 k2 x3 x4 fu a0_ a1_) M v5_))))
def t_Trail_tryClock (M : Mem) (k0 : Nat) (k1 : Nat) (k2 : Nat) (x3 : Int) (x4 : Int) : Option (Mem) := (t_Trail_tryClock_L3 k0 k1 k2 x3 x4 FU M 0)
set_option maxHeartbeats 4000000 in
set_option maxRecDepth 100000 in
theorem k_Trail_tryClock_L75 (l : Launch) {p : Program} {e : Env} {s : State} {m : MethodId} {below : List Frame} {meth : Method} {c : Code} {b n : Nat} {C : CT} (hlo : 191 ≤ n) (k0 : Nat) (k1 : Nat) (k2 : Nat) (x3 : Int) (x4 : Int) (hk0 : isTrail k0) (hk1 : isTown k1) (hk2 : isScene k2) (hx3 : InR x3) (hx4 : InR x4) (F : Cx b p m c b_Trail_tryClock 6 s ([.ref (b + k0), .ref (b + k1), .ref (b + k2), vI x3, vI x4] : List Value).toArray "WardFalls$Trail" C n 191) (hlk : meth.locks = false) (hr : meth.sig.returnType = none) {res : Mem} (bk3 : Mem → Int → Option (Mem)) (hbk3 : ∀ (M : Mem) (v5_ : Int) (hv5_ : InR v5_) (H : Heap) (locs : List Loc) (ls : Array Slot), St b C n M s H locs → lv_has ls 6 [(0, .ref (b + k0)), (1, .ref (b + k1)), (2, .ref (b + k2)), (3, vI x3), (4, vI x4), (5, vI v5_)] → bk3 M v5_ = some res → W p l e (headSpec (wsM y_Trail_tryClock b_Trail_tryClock 6 (none)) (rmD 4)).room s m ([.ref (b + k0), .ref (b + k1), .ref (b + k2), vI x3, vI x4] : List Value).toArray below meth c H locs 0 0 (MQ below (QV b C n res) ([.ref (b + k0), .ref (b + k1), .ref (b + k2), vI x3, vI x4] : List Value).toArray s 0 0 (frb b)) (F0 m 3 ls [])) (M : Mem) (v5_ : Int) (hv5_ : InR v5_) (H : Heap) (locs : List Loc) (ls : Array Slot) (hS : St b C n M s H locs) (hl : lv_has ls 6 [(0, .ref (b + k0)), (1, .ref (b + k1)), (2, .ref (b + k2)), (3, vI x3), (4, vI x4), (5, vI v5_)]) (hT : t_Trail_tryClock_L75 k0 k1 k2 x3 x4 bk3 M v5_ = some res) : W p l e (headSpec (wsM y_Trail_tryClock b_Trail_tryClock 6 (none)) (rmD 4)).room s m ([.ref (b + k0), .ref (b + k1), .ref (b + k2), vI x3, vI x4] : List Value).toArray below meth c H locs 0 0 (MQ below (QV b C n res) ([.ref (b + k0), .ref (b + k1), .ref (b + k2), vI x3, vI x4] : List Value).toArray s 0 0 (frb b)) (F0 m 75 ls []) := by
  unfold t_Trail_tryClock_L75 at hT
  refine lv_iinc (v := Int32.ofInt (w32 (v5_ + 1))) (lv' := [(5, vI (w32 (v5_ + 1))), (0, .ref (b + k0)), (1, .ref (b + k1)), (2, .ref (b + k2)), (3, vI x3), (4, vI x4)]) F.hx F.hb d_Trail_tryClock_75 hl (k := 5) rfl (q_of_add _ _) (Nat.le_of_ble_eq_true rfl) rfl (fun ls hl => ?_)
  refine lv_goto (tgt := 3) F.hx F.hb d_Trail_tryClock_78 (by decide) ?_
  exact hbk3 M (w32 (v5_ + 1)) (inr_w32 _) _ _ _ hS (lv_sub hl [1, 2, 3, 4, 5, 0] rfl) hT
set_option maxHeartbeats 4000000 in
set_option maxRecDepth 100000 in
theorem k_Trail_tryClock_L3 (l : Launch) {p : Program} {e : Env} {s : State} {m : MethodId} {below : List Frame} {meth : Method} {c : Code} {b n : Nat} {C : CT} (hlo : 191 ≤ n) (k0 : Nat) (k1 : Nat) (k2 : Nat) (x3 : Int) (x4 : Int) (hk0 : isTrail k0) (hk1 : isTown k1) (hk2 : isScene k2) (hx3 : InR x3) (hx4 : InR x4) (F : Cx b p m c b_Trail_tryClock 6 s ([.ref (b + k0), .ref (b + k1), .ref (b + k2), vI x3, vI x4] : List Value).toArray "WardFalls$Trail" C n 191) (hlk : meth.locks = false) (hr : meth.sig.returnType = none) {res : Mem} : ∀ (fu : Nat) (M : Mem) (v5_ : Int) (hv5_ : InR v5_) (H : Heap) (locs : List Loc) (ls : Array Slot), St b C n M s H locs → lv_has ls 6 [(0, .ref (b + k0)), (1, .ref (b + k1)), (2, .ref (b + k2)), (3, vI x3), (4, vI x4), (5, vI v5_)] → t_Trail_tryClock_L3 k0 k1 k2 x3 x4 fu M v5_ = some res → W p l e (headSpec (wsM y_Trail_tryClock b_Trail_tryClock 6 (none)) (rmD 4)).room s m ([.ref (b + k0), .ref (b + k1), .ref (b + k2), vI x3, vI x4] : List Value).toArray below meth c H locs 0 0 (MQ below (QV b C n res) ([.ref (b + k0), .ref (b + k1), .ref (b + k2), vI x3, vI x4] : List Value).toArray s 0 0 (frb b)) (F0 m 3 ls []) := by
  intro fu
  induction fu with
  | zero => intro M v5_ hv5_ H locs ls hS hl hT; exact absurd hT (by simp [t_Trail_tryClock_L3])
  | succ fu ih =>
    intro M v5_ hv5_ H locs ls hS hl hT
    rw [t_Trail_tryClock_L3] at hT
    refine lv_iload F.hx F.hb d_Trail_tryClock_3 (lv_at hl 5 rfl) ?_
    refine lv_aload_n F.hx F.hb d_Trail_tryClock_5 rfl (lv_at hl 1 rfl) ?_
    refine r_get (v := vI (M.1 k1 13)) (N := 20) (T := T11) (j := 13) F hS (Town_lt hk1) (Town_sh hk1) (Town_N hk1) rfl (Nat.le_of_ble_eq_true rfl) ing11 mw_130 (fv_int rfl) d_Trail_tryClock_6 ?_
    have i1 := hS.rng k1 13
    refine r_icmp_ge (tgt := 81) F.hx F.hb hv5_ i1 d_Trail_tryClock_9 (by decide) (fun c2 => ?_) (fun c2 => ?_)
    · replace hT := (if_pos c2).symm.trans hT
      cases hT
      exact r_vret F hlk hr hS d_Trail_tryClock_81
    · replace hT := (if_neg c2).symm.trans hT
      refine lv_aload_n F.hx F.hb d_Trail_tryClock_12 rfl (lv_at hl 2 rfl) ?_
      refine r_get (v := .long (M.2 k2 4)) (N := 7) (T := T9) (j := 4) F hS (Scene_lt hk2) (Scene_sh hk2) (Scene_N hk2) rfl (Nat.le_of_ble_eq_true rfl) ing9 mw_288 (fv_long rfl) d_Trail_tryClock_13 ?_
      refine lv_iload F.hx F.hb d_Trail_tryClock_16 (lv_at hl 5 rfl) ?_
      obtain ⟨q3, hq3⟩ : ∃ q, q = (t_WF_bitOf M (M.2 k2 4) v5_) := ⟨_, rfl⟩
      replace hT := qlet_eq hT hq3
      refine r_backI F hS (r_runSN (As := [.long (M.2 k2 4), vI v5_]) F hS (c_WF_bitOf l F.2.2.1 M (M.2 k2 4) v5_ hv5_ _ hq3.symm) mw_773 mw_772 mw_1 gs_Trail_44 hd_WF_bitOf ⟨Nat.le_of_ble_eq_true rfl, Nat.le_of_ble_eq_true rfl⟩ rfl hl.1 (Nat.le_of_ble_eq_true rfl) ⟨Nat.zero_le _, Nat.zero_le _⟩ rfl d_Trail_tryClock_18) (fun H locs hS h4 => ?_)
      refine r_if_ne (tgt := 75) F.hx F.hb h4 d_Trail_tryClock_21 (by decide) (fun c5 => ?_) (fun c5 => ?_)
      · replace hT := (if_neg c5).symm.trans hT
        exact k_Trail_tryClock_L75 l hlo k0 k1 k2 x3 x4 hk0 hk1 hk2 hx3 hx4 F hlk hr (fun a0_ a1_ => t_Trail_tryClock_L3 k0 k1 k2 x3 x4 fu a0_ a1_) ih M v5_ hv5_ _ _ _ hS (lv_sub hl [0, 1, 2, 3, 4, 5] rfl) hT
      · replace hT := (if_pos c5).symm.trans hT
        refine lv_aload_n F.hx F.hb d_Trail_tryClock_24 rfl (lv_at hl 0 rfl) ?_
        refine lv_aload_n F.hx F.hb d_Trail_tryClock_25 rfl (lv_at hl 1 rfl) ?_
        refine lv_aload_n F.hx F.hb d_Trail_tryClock_26 rfl (lv_at hl 2 rfl) ?_
        refine lv_iload F.hx F.hb d_Trail_tryClock_27 (lv_at hl 5 rfl) ?_
        obtain ⟨q6, hq6, hT⟩ := q_obind hT
        refine r_backV F hS (r_runV (k := k0) (N := 9) (T := T12) (As := [.ref (b + k1), .ref (b + k2), vI v5_]) F hS (Trail_lt hk0) (Trail_sh hk0) rfl (c_Trail_follow l F.2.2.1 M k0 k1 k2 v5_ hk0 hk1 hk2 hv5_ _ hq6) gs_Trail_88 hd_Trail_follow ⟨Nat.le_of_ble_eq_true rfl, Nat.le_of_ble_eq_true rfl⟩ rfl hl.1 (Nat.le_of_ble_eq_true rfl) ⟨Nat.zero_le _, Nat.zero_le _⟩ rfl d_Trail_tryClock_29) (fun H locs hS => ?_)
        refine lv_aload_n F.hx F.hb d_Trail_tryClock_32 rfl (lv_at hl 0 rfl) ?_
        refine r_get (v := vI (q6.1 k0 2)) (N := 9) (T := T12) (j := 2) F hS (Trail_lt hk0) (Trail_sh hk0) (Trail_N hk0) rfl (Nat.le_of_ble_eq_true rfl) ing12 mw_404 (fv_int rfl) d_Trail_tryClock_33 ?_
        have i8 := hS.rng k0 2
        refine r_if_ne (tgt := 75) F.hx F.hb i8 d_Trail_tryClock_36 (by decide) (fun c9 => ?_) (fun c9 => ?_)
        · replace hT := (if_neg c9).symm.trans hT
          exact k_Trail_tryClock_L75 l hlo k0 k1 k2 x3 x4 hk0 hk1 hk2 hx3 hx4 F hlk hr (fun a0_ a1_ => t_Trail_tryClock_L3 k0 k1 k2 x3 x4 fu a0_ a1_) ih q6 v5_ hv5_ _ _ _ hS (lv_sub hl [0, 1, 2, 3, 4, 5] rfl) hT
        · replace hT := (if_pos c9).symm.trans hT
          refine lv_aload_n F.hx F.hb d_Trail_tryClock_39 rfl (lv_at hl 0 rfl) ?_
          refine r_get (v := vI (q6.1 k0 3)) (N := 9) (T := T12) (j := 3) F hS (Trail_lt hk0) (Trail_sh hk0) (Trail_N hk0) rfl (Nat.le_of_ble_eq_true rfl) ing12 mw_406 (fv_int rfl) d_Trail_tryClock_40 ?_
          have i10 := hS.rng k0 3
          refine lv_aload_n F.hx F.hb d_Trail_tryClock_43 rfl (lv_at hl 0 rfl) ?_
          refine r_get (v := vI (q6.1 k0 5)) (N := 9) (T := T12) (j := 5) F hS (Trail_lt hk0) (Trail_sh hk0) (Trail_N hk0) rfl (Nat.le_of_ble_eq_true rfl) ing12 mw_411 (fv_int rfl) d_Trail_tryClock_44 ?_
          have i11 := hS.rng k0 5
          refine r_icmp_le (tgt := 75) F.hx F.hb i10 i11 d_Trail_tryClock_47 (by decide) (fun c12 => ?_) (fun c12 => ?_)
          · replace hT := (if_pos c12).symm.trans hT
            exact k_Trail_tryClock_L75 l hlo k0 k1 k2 x3 x4 hk0 hk1 hk2 hx3 hx4 F hlk hr (fun a0_ a1_ => t_Trail_tryClock_L3 k0 k1 k2 x3 x4 fu a0_ a1_) ih q6 v5_ hv5_ _ _ _ hS (lv_sub hl [0, 1, 2, 3, 4, 5] rfl) hT
          · replace hT := (if_neg c12).symm.trans hT
            refine lv_aload_n F.hx F.hb d_Trail_tryClock_50 rfl (lv_at hl 0 rfl) ?_
            refine lv_aload_n F.hx F.hb d_Trail_tryClock_51 rfl (lv_at hl 0 rfl) ?_
            refine r_get (v := vI (q6.1 k0 3)) (N := 9) (T := T12) (j := 3) F hS (Trail_lt hk0) (Trail_sh hk0) (Trail_N hk0) rfl (Nat.le_of_ble_eq_true rfl) ing12 mw_406 (fv_int rfl) d_Trail_tryClock_52 ?_
            have i13 := hS.rng k0 3
            refine r_putI (N := 9) (T := T12) (j := 5) F hS (Trail_lt hk0) (Trail_sh hk0) (Trail_N hk0) rfl (Nat.le_of_ble_eq_true rfl) ing12 tyok12 nm12 rfl rfl rfl rfl rfl (Trail_dyn hk0 _) mw_411 i13 d_Trail_tryClock_55 (fun H locs hS => ?_)
            obtain ⟨M14, eM14⟩ : ∃ q, q = (setI q6 k0 5 (q6.1 k0 3)) := ⟨_, rfl⟩
            replace hS : St b C n M14 s H locs := by rw [eM14]; exact hS
            replace hT := qlet_eq hT eM14
            refine lv_aload_n F.hx F.hb d_Trail_tryClock_58 rfl (lv_at hl 0 rfl) ?_
            refine lv_iload_n F.hx F.hb d_Trail_tryClock_59 rfl (lv_at hl 3 rfl) ?_
            refine r_putI (N := 9) (T := T12) (j := 6) F hS (Trail_lt hk0) (Trail_sh hk0) (Trail_N hk0) rfl (Nat.le_of_ble_eq_true rfl) ing12 tyok12 nm12 rfl rfl rfl rfl rfl (Trail_dyn hk0 _) mw_413 hx3 d_Trail_tryClock_60 (fun H locs hS => ?_)
            obtain ⟨M15, eM15⟩ : ∃ q, q = (setI M14 k0 6 x3) := ⟨_, rfl⟩
            replace hS : St b C n M15 s H locs := by rw [eM15]; exact hS
            replace hT := qlet_eq hT eM15
            refine lv_aload_n F.hx F.hb d_Trail_tryClock_63 rfl (lv_at hl 0 rfl) ?_
            refine lv_iload F.hx F.hb d_Trail_tryClock_64 (lv_at hl 4 rfl) ?_
            refine r_putI (N := 9) (T := T12) (j := 7) F hS (Trail_lt hk0) (Trail_sh hk0) (Trail_N hk0) rfl (Nat.le_of_ble_eq_true rfl) ing12 tyok12 nm12 rfl rfl rfl rfl rfl (Trail_dyn hk0 _) mw_415 hx4 d_Trail_tryClock_66 (fun H locs hS => ?_)
            obtain ⟨M16, eM16⟩ : ∃ q, q = (setI M15 k0 7 x4) := ⟨_, rfl⟩
            replace hS : St b C n M16 s H locs := by rw [eM16]; exact hS
            replace hT := qlet_eq hT eM16
            refine lv_aload_n F.hx F.hb d_Trail_tryClock_69 rfl (lv_at hl 0 rfl) ?_
            refine lv_iload F.hx F.hb d_Trail_tryClock_70 (lv_at hl 5 rfl) ?_
            refine r_putI (N := 9) (T := T12) (j := 8) F hS (Trail_lt hk0) (Trail_sh hk0) (Trail_N hk0) rfl (Nat.le_of_ble_eq_true rfl) ing12 tyok12 nm12 rfl rfl rfl rfl rfl (Trail_dyn hk0 _) mw_417 hv5_ d_Trail_tryClock_72 (fun H locs hS => ?_)
            obtain ⟨M17, eM17⟩ : ∃ q, q = (setI M16 k0 8 v5_) := ⟨_, rfl⟩
            replace hS : St b C n M17 s H locs := by rw [eM17]; exact hS
            replace hT := qlet_eq hT eM17
            exact k_Trail_tryClock_L75 l hlo k0 k1 k2 x3 x4 hk0 hk1 hk2 hx3 hx4 F hlk hr (fun a0_ a1_ => t_Trail_tryClock_L3 k0 k1 k2 x3 x4 fu a0_ a1_) ih M17 v5_ hv5_ _ _ _ hS (lv_sub hl [0, 1, 2, 3, 4, 5] rfl) hT
set_option maxHeartbeats 4000000 in
set_option maxRecDepth 100000 in
theorem c_Trail_tryClock (l : Launch) {b n : Nat} {C : CT} (hlo : 191 ≤ n) (M : Mem) (k0 : Nat) (k1 : Nat) (k2 : Nat) (x3 : Int) (x4 : Int) (hk0 : isTrail k0) (hk1 : isTown k1) (hk2 : isScene k2) (hx3 : InR x3) (hx4 : InR x4) (res : Mem) (hT : t_Trail_tryClock M k0 k1 k2 x3 x4 = some res) : CM l b C n 4 y_Trail_tryClock b_Trail_tryClock 6 (none) [.ref (b + k0), .ref (b + k1), .ref (b + k2), vI x3, vI x4] M (QV b C n res) := by
  refine CM.of (lo := 191) (ow := "WardFalls$Trail") (by decide) rfl (Nat.le_of_ble_eq_true rfl) hlo (fun p e s m below meth c F hlk hr hS ls hl => ?_)
  have hl : lv_has ls 6 [(0, .ref (b + k0)), (1, .ref (b + k1)), (2, .ref (b + k2)), (3, vI x3), (4, vI x4)] := hl
  unfold t_Trail_tryClock at hT
  refine r_iconst F.hx F.hb d_Trail_tryClock_0 ?_
  refine lv_istore (lv' := [(5, vI 0), (0, .ref (b + k0)), (1, .ref (b + k1)), (2, .ref (b + k2)), (3, vI x3), (4, vI x4)]) F.hx F.hb d_Trail_tryClock_1 hl (Nat.le_of_ble_eq_true rfl) rfl (fun ls hl => ?_)
  exact k_Trail_tryClock_L3 l hlo k0 k1 k2 x3 x4 hk0 hk1 hk2 hx3 hx4 F hlk hr FU M 0 (inr_c rfl) _ _ _ hS (lv_sub hl [1, 2, 3, 4, 5, 0] rfl) hT
theorem d_Trail_findClock_0 : decode b_Trail_findClock 0 = .ok (.aload_n 0, 1) := dc_42 (by decide +kernel)
theorem d_Trail_findClock_1 : decode b_Trail_findClock 1 = .ok (.iconst 0, 1) := dc_3 (by decide +kernel)
theorem d_Trail_findClock_2 : decode b_Trail_findClock 2 = .ok (.putfield 60, 3) := dc_181 (by decide +kernel)
theorem d_Trail_findClock_5 : decode b_Trail_findClock 5 = .ok (.aload_n 0, 1) := dc_42 (by decide +kernel)
theorem d_Trail_findClock_6 : decode b_Trail_findClock 6 = .ok (.iconst (-1), 1) := dc_2 (by decide +kernel)
theorem d_Trail_findClock_7 : decode b_Trail_findClock 7 = .ok (.putfield 63, 3) := dc_181 (by decide +kernel)
theorem d_Trail_findClock_10 : decode b_Trail_findClock 10 = .ok (.aload_n 0, 1) := dc_42 (by decide +kernel)
theorem d_Trail_findClock_11 : decode b_Trail_findClock 11 = .ok (.iconst (-1), 1) := dc_2 (by decide +kernel)
theorem d_Trail_findClock_12 : decode b_Trail_findClock 12 = .ok (.putfield 66, 3) := dc_181 (by decide +kernel)
theorem d_Trail_findClock_15 : decode b_Trail_findClock 15 = .ok (.aload_n 0, 1) := dc_42 (by decide +kernel)
theorem d_Trail_findClock_16 : decode b_Trail_findClock 16 = .ok (.iconst (-1), 1) := dc_2 (by decide +kernel)
theorem d_Trail_findClock_17 : decode b_Trail_findClock 17 = .ok (.putfield 69, 3) := dc_181 (by decide +kernel)
theorem d_Trail_findClock_20 : decode b_Trail_findClock 20 = .ok (.aload_n 0, 1) := dc_42 (by decide +kernel)
theorem d_Trail_findClock_21 : decode b_Trail_findClock 21 = .ok (.aload_n 1, 1) := dc_43 (by decide +kernel)
theorem d_Trail_findClock_22 : decode b_Trail_findClock 22 = .ok (.aload_n 2, 1) := dc_44 (by decide +kernel)
theorem d_Trail_findClock_23 : decode b_Trail_findClock 23 = .ok (.iconst (-1), 1) := dc_2 (by decide +kernel)
theorem d_Trail_findClock_24 : decode b_Trail_findClock 24 = .ok (.iconst (-1), 1) := dc_2 (by decide +kernel)
theorem d_Trail_findClock_25 : decode b_Trail_findClock 25 = .ok (.invokevirtual 72, 3) := dc_182 (by decide +kernel)
theorem d_Trail_findClock_28 : decode b_Trail_findClock 28 = .ok (.iconst 0, 1) := dc_3 (by decide +kernel)
theorem d_Trail_findClock_29 : decode b_Trail_findClock 29 = .ok (.istore_n 3, 1) := dc_62 (by decide +kernel)
theorem d_Trail_findClock_30 : decode b_Trail_findClock 30 = .ok (.iload_n 3, 1) := dc_29 (by decide +kernel)
theorem d_Trail_findClock_31 : decode b_Trail_findClock 31 = .ok (.aload_n 1, 1) := dc_43 (by decide +kernel)
theorem d_Trail_findClock_32 : decode b_Trail_findClock 32 = .ok (.getfield 76, 3) := dc_180 (by decide +kernel)
theorem d_Trail_findClock_35 : decode b_Trail_findClock 35 = .ok (.if_icmp .ge 63, 3) := dc_162 (by decide +kernel)
theorem d_Trail_findClock_38 : decode b_Trail_findClock 38 = .ok (.aload_n 2, 1) := dc_44 (by decide +kernel)
theorem d_Trail_findClock_39 : decode b_Trail_findClock 39 = .ok (.getfield 79, 3) := dc_180 (by decide +kernel)
theorem d_Trail_findClock_42 : decode b_Trail_findClock 42 = .ok (.iload_n 3, 1) := dc_29 (by decide +kernel)
theorem d_Trail_findClock_43 : decode b_Trail_findClock 43 = .ok (.invokestatic 52, 3) := dc_184 (by decide +kernel)
theorem d_Trail_findClock_46 : decode b_Trail_findClock 46 = .ok (.istore 4, 2) := dc_54 (by decide +kernel)
theorem d_Trail_findClock_48 : decode b_Trail_findClock 48 = .ok (.iconst 0, 1) := dc_3 (by decide +kernel)
theorem d_Trail_findClock_49 : decode b_Trail_findClock 49 = .ok (.istore 5, 2) := dc_54 (by decide +kernel)
theorem d_Trail_findClock_51 : decode b_Trail_findClock 51 = .ok (.iload 5, 2) := dc_21 (by decide +kernel)
theorem d_Trail_findClock_53 : decode b_Trail_findClock 53 = .ok (.iconst 4, 1) := dc_7 (by decide +kernel)
theorem d_Trail_findClock_54 : decode b_Trail_findClock 54 = .ok (.if_icmp .gt 28, 3) := dc_163 (by decide +kernel)
theorem d_Trail_findClock_57 : decode b_Trail_findClock 57 = .ok (.aload_n 2, 1) := dc_44 (by decide +kernel)
theorem d_Trail_findClock_58 : decode b_Trail_findClock 58 = .ok (.getfield 79, 3) := dc_180 (by decide +kernel)
theorem d_Trail_findClock_61 : decode b_Trail_findClock 61 = .ok (.iload_n 3, 1) := dc_29 (by decide +kernel)
theorem d_Trail_findClock_62 : decode b_Trail_findClock 62 = .ok (.iload 5, 2) := dc_21 (by decide +kernel)
theorem d_Trail_findClock_64 : decode b_Trail_findClock 64 = .ok (.invokestatic 25, 3) := dc_184 (by decide +kernel)
theorem d_Trail_findClock_67 : decode b_Trail_findClock 67 = .ok (.aload_n 0, 1) := dc_42 (by decide +kernel)
theorem d_Trail_findClock_68 : decode b_Trail_findClock 68 = .ok (.aload_n 1, 1) := dc_43 (by decide +kernel)
theorem d_Trail_findClock_69 : decode b_Trail_findClock 69 = .ok (.aload_n 2, 1) := dc_44 (by decide +kernel)
theorem d_Trail_findClock_70 : decode b_Trail_findClock 70 = .ok (.iload_n 3, 1) := dc_29 (by decide +kernel)
theorem d_Trail_findClock_71 : decode b_Trail_findClock 71 = .ok (.iload 5, 2) := dc_21 (by decide +kernel)
theorem d_Trail_findClock_73 : decode b_Trail_findClock 73 = .ok (.invokevirtual 72, 3) := dc_182 (by decide +kernel)
theorem d_Trail_findClock_76 : decode b_Trail_findClock 76 = .ok (.iinc 5 1, 3) := dc_132 (by decide +kernel)
theorem d_Trail_findClock_79 : decode b_Trail_findClock 79 = .ok (.goto (-28), 3) := dc_167 (by decide +kernel)
theorem d_Trail_findClock_82 : decode b_Trail_findClock 82 = .ok (.aload_n 2, 1) := dc_44 (by decide +kernel)
theorem d_Trail_findClock_83 : decode b_Trail_findClock 83 = .ok (.getfield 79, 3) := dc_180 (by decide +kernel)
theorem d_Trail_findClock_86 : decode b_Trail_findClock 86 = .ok (.iload_n 3, 1) := dc_29 (by decide +kernel)
theorem d_Trail_findClock_87 : decode b_Trail_findClock 87 = .ok (.iload 4, 2) := dc_21 (by decide +kernel)
theorem d_Trail_findClock_89 : decode b_Trail_findClock 89 = .ok (.invokestatic 25, 3) := dc_184 (by decide +kernel)
theorem d_Trail_findClock_92 : decode b_Trail_findClock 92 = .ok (.iinc 3 1, 3) := dc_132 (by decide +kernel)
theorem d_Trail_findClock_95 : decode b_Trail_findClock 95 = .ok (.goto (-65), 3) := dc_167 (by decide +kernel)
theorem d_Trail_findClock_98 : decode b_Trail_findClock 98 = .ok (.return_, 1) := dc_177 (by decide +kernel)
def t_Trail_findClock_L51 (k0 : Nat) (k1 : Nat) (k2 : Nat) (bk30 : Mem → Int → Option (Mem)) : Nat → Mem → Int → Int → Int → Option (Mem)
  | 0, _, _, _, _ => none
  | fu + 1, M, v3_, v4_, v5_ => (if 4 < v5_ then (qlet (t_WF_put M (k2 + 1) 4 v3_ v4_) fun q12 => (bk30 q12 (w32 (v3_ + 1)))) else (qlet (t_WF_put M (k2 + 1) 4 v3_ v5_) fun q14 => (obind (t_Trail_tryClock q14 k0 k1 k2 v3_ v5_) fun q16 => (t_Trail_findClock_L51 k0 k1 k2 bk30 fu q16 v3_ v4_ (w32 (v5_ + 1))))))
def t_Trail_findClock_L30 (k0 : Nat) (k1 : Nat) (k2 : Nat)  : Nat → Mem → Int → Option (Mem)
  | 0, _, _ => none
  | fu + 1, M, v3_ => (if (M.1 k1 14) ≤ v3_ then (some M) else (qlet (t_WF_look M (k2 + 1) 4 v3_) fun q9 => (t_Trail_findClock_L51 k0 k1 k2 (fun a0_ a1_ => t_Trail_findClock_L30 k0 k1 k2 fu a0_ a1_) FU M v3_ q9 0)))
def t_Trail_findClock (M : Mem) (k0 : Nat) (k1 : Nat) (k2 : Nat) : Option (Mem) := (qlet (setI M k0 5 0) fun M1 => (qlet (setI M1 k0 6 (-1)) fun M2 => (qlet (setI M2 k0 7 (-1)) fun M3 => (qlet (setI M3 k0 8 (-1)) fun M4 => (obind (t_Trail_tryClock M4 k0 k1 k2 (-1) (-1)) fun q5 => (t_Trail_findClock_L30 k0 k1 k2 FU q5 0))))))
set_option maxHeartbeats 4000000 in
set_option maxRecDepth 100000 in
theorem k_Trail_findClock_L51 (l : Launch) {p : Program} {e : Env} {s : State} {m : MethodId} {below : List Frame} {meth : Method} {c : Code} {b n : Nat} {C : CT} (hlo : 191 ≤ n) (k0 : Nat) (k1 : Nat) (k2 : Nat) (hk0 : isTrail k0) (hk1 : isTown k1) (hk2 : isScene k2) (F : Cx b p m c b_Trail_findClock 6 s ([.ref (b + k0), .ref (b + k1), .ref (b + k2)] : List Value).toArray "WardFalls$Trail" C n 191) (hlk : meth.locks = false) (hr : meth.sig.returnType = none) {res : Mem} (bk30 : Mem → Int → Option (Mem)) (hbk30 : ∀ (M : Mem) (v3_ : Int) (hv3_ : InR v3_) (H : Heap) (locs : List Loc) (ls : Array Slot), St b C n M s H locs → lv_has ls 6 [(0, .ref (b + k0)), (1, .ref (b + k1)), (2, .ref (b + k2)), (3, vI v3_)] → bk30 M v3_ = some res → W p l e (headSpec (wsM y_Trail_findClock b_Trail_findClock 6 (none)) (rmD 5)).room s m ([.ref (b + k0), .ref (b + k1), .ref (b + k2)] : List Value).toArray below meth c H locs 0 0 (MQ below (QV b C n res) ([.ref (b + k0), .ref (b + k1), .ref (b + k2)] : List Value).toArray s 0 0 (frb b)) (F0 m 30 ls [])) : ∀ (fu : Nat) (M : Mem) (v3_ : Int) (hv3_ : InR v3_) (v4_ : Int) (hv4_ : InR v4_) (v5_ : Int) (hv5_ : InR v5_) (H : Heap) (locs : List Loc) (ls : Array Slot), St b C n M s H locs → lv_has ls 6 [(0, .ref (b + k0)), (1, .ref (b + k1)), (2, .ref (b + k2)), (3, vI v3_), (4, vI v4_), (5, vI v5_)] → t_Trail_findClock_L51 k0 k1 k2 bk30 fu M v3_ v4_ v5_ = some res → W p l e (headSpec (wsM y_Trail_findClock b_Trail_findClock 6 (none)) (rmD 5)).room s m ([.ref (b + k0), .ref (b + k1), .ref (b + k2)] : List Value).toArray below meth c H locs 0 0 (MQ below (QV b C n res) ([.ref (b + k0), .ref (b + k1), .ref (b + k2)] : List Value).toArray s 0 0 (frb b)) (F0 m 51 ls []) := by
  intro fu
  induction fu with
  | zero => intro M v3_ hv3_ v4_ hv4_ v5_ hv5_ H locs ls hS hl hT; exact absurd hT (by simp [t_Trail_findClock_L51])
  | succ fu ih =>
    intro M v3_ hv3_ v4_ hv4_ v5_ hv5_ H locs ls hS hl hT
    rw [t_Trail_findClock_L51] at hT
    refine lv_iload F.hx F.hb d_Trail_findClock_51 (lv_at hl 5 rfl) ?_
    refine r_iconst F.hx F.hb d_Trail_findClock_53 ?_
    refine r_icmp_gt (tgt := 82) F.hx F.hb hv5_ (inr_c rfl) d_Trail_findClock_54 (by decide) (fun c11 => ?_) (fun c11 => ?_)
    · replace hT := (if_pos c11).symm.trans hT
      refine lv_aload_n F.hx F.hb d_Trail_findClock_82 rfl (lv_at hl 2 rfl) ?_
      refine r_get (v := .ref (b + (k2 + 1))) (N := 7) (T := T9) (j := 0) F hS (Scene_lt hk2) (Scene_sh hk2) (Scene_N hk2) rfl (Nat.le_of_ble_eq_true rfl) ing9 mw_275 (Scene_g0 hk2 _) d_Trail_findClock_83 ?_
      refine lv_iload_n F.hx F.hb d_Trail_findClock_86 rfl (lv_at hl 3 rfl) ?_
      refine lv_iload F.hx F.hb d_Trail_findClock_87 (lv_at hl 4 rfl) ?_
      obtain ⟨q12, hq12⟩ : ∃ q, q = (t_WF_put M (k2 + 1) 4 v3_ v4_) := ⟨_, rfl⟩
      replace hT := qlet_eq hT hq12
      refine r_backV F hS (r_runSN (As := [.ref (b + (k2 + 1)), vI v3_, vI v4_]) F hS (c_WF_put l F.2.2.1 M (k2 + 1) 4 v3_ v4_ (Scene_f0 hk2) hv3_ hv4_ _ hq12.symm) mw_512 mw_511 mw_1 gs_Trail_25 hd_WF_put ⟨Nat.le_of_ble_eq_true rfl, Nat.le_of_ble_eq_true rfl⟩ rfl hl.1 (Nat.le_of_ble_eq_true rfl) ⟨Nat.zero_le _, Nat.zero_le _⟩ rfl d_Trail_findClock_89) (fun H locs hS => ?_)
      refine lv_iinc (v := Int32.ofInt (w32 (v3_ + 1))) (lv' := [(3, vI (w32 (v3_ + 1))), (0, .ref (b + k0)), (1, .ref (b + k1)), (2, .ref (b + k2)), (4, vI v4_), (5, vI v5_)]) F.hx F.hb d_Trail_findClock_92 hl (k := 3) rfl (q_of_add _ _) (Nat.le_of_ble_eq_true rfl) rfl (fun ls hl => ?_)
      refine lv_goto (tgt := 30) F.hx F.hb d_Trail_findClock_95 (by decide) ?_
      exact hbk30 q12 (w32 (v3_ + 1)) (inr_w32 _) _ _ _ hS (lv_sub hl [1, 2, 3, 0] rfl) hT
    · replace hT := (if_neg c11).symm.trans hT
      refine lv_aload_n F.hx F.hb d_Trail_findClock_57 rfl (lv_at hl 2 rfl) ?_
      refine r_get (v := .ref (b + (k2 + 1))) (N := 7) (T := T9) (j := 0) F hS (Scene_lt hk2) (Scene_sh hk2) (Scene_N hk2) rfl (Nat.le_of_ble_eq_true rfl) ing9 mw_275 (Scene_g0 hk2 _) d_Trail_findClock_58 ?_
      refine lv_iload_n F.hx F.hb d_Trail_findClock_61 rfl (lv_at hl 3 rfl) ?_
      refine lv_iload F.hx F.hb d_Trail_findClock_62 (lv_at hl 5 rfl) ?_
      obtain ⟨q14, hq14⟩ : ∃ q, q = (t_WF_put M (k2 + 1) 4 v3_ v5_) := ⟨_, rfl⟩
      replace hT := qlet_eq hT hq14
      refine r_backV F hS (r_runSN (As := [.ref (b + (k2 + 1)), vI v3_, vI v5_]) F hS (c_WF_put l F.2.2.1 M (k2 + 1) 4 v3_ v5_ (Scene_f0 hk2) hv3_ hv5_ _ hq14.symm) mw_512 mw_511 mw_1 gs_Trail_25 hd_WF_put ⟨Nat.le_of_ble_eq_true rfl, Nat.le_of_ble_eq_true rfl⟩ rfl hl.1 (Nat.le_of_ble_eq_true rfl) ⟨Nat.zero_le _, Nat.zero_le _⟩ rfl d_Trail_findClock_64) (fun H locs hS => ?_)
      refine lv_aload_n F.hx F.hb d_Trail_findClock_67 rfl (lv_at hl 0 rfl) ?_
      refine lv_aload_n F.hx F.hb d_Trail_findClock_68 rfl (lv_at hl 1 rfl) ?_
      refine lv_aload_n F.hx F.hb d_Trail_findClock_69 rfl (lv_at hl 2 rfl) ?_
      refine lv_iload_n F.hx F.hb d_Trail_findClock_70 rfl (lv_at hl 3 rfl) ?_
      refine lv_iload F.hx F.hb d_Trail_findClock_71 (lv_at hl 5 rfl) ?_
      obtain ⟨q16, hq16, hT⟩ := q_obind hT
      refine r_backV F hS (r_runV (k := k0) (N := 9) (T := T12) (As := [.ref (b + k1), .ref (b + k2), vI v3_, vI v5_]) F hS (Trail_lt hk0) (Trail_sh hk0) rfl (c_Trail_tryClock l F.2.2.1 q14 k0 k1 k2 v3_ v5_ hk0 hk1 hk2 hv3_ hv5_ _ hq16) gs_Trail_72 hd_Trail_tryClock ⟨Nat.le_of_ble_eq_true rfl, Nat.le_of_ble_eq_true rfl⟩ rfl hl.1 (Nat.le_of_ble_eq_true rfl) ⟨Nat.zero_le _, Nat.zero_le _⟩ rfl d_Trail_findClock_73) (fun H locs hS => ?_)
      refine lv_iinc (v := Int32.ofInt (w32 (v5_ + 1))) (lv' := [(5, vI (w32 (v5_ + 1))), (0, .ref (b + k0)), (1, .ref (b + k1)), (2, .ref (b + k2)), (3, vI v3_), (4, vI v4_)]) F.hx F.hb d_Trail_findClock_76 hl (k := 5) rfl (q_of_add _ _) (Nat.le_of_ble_eq_true rfl) rfl (fun ls hl => ?_)
      refine lv_goto (tgt := 51) F.hx F.hb d_Trail_findClock_79 (by decide) ?_
      exact ih q16 v3_ hv3_ v4_ hv4_ (w32 (v5_ + 1)) (inr_w32 _) _ _ _ hS (lv_sub hl [1, 2, 3, 4, 5, 0] rfl) hT
set_option maxHeartbeats 4000000 in
set_option maxRecDepth 100000 in
theorem k_Trail_findClock_L30 (l : Launch) {p : Program} {e : Env} {s : State} {m : MethodId} {below : List Frame} {meth : Method} {c : Code} {b n : Nat} {C : CT} (hlo : 191 ≤ n) (k0 : Nat) (k1 : Nat) (k2 : Nat) (hk0 : isTrail k0) (hk1 : isTown k1) (hk2 : isScene k2) (F : Cx b p m c b_Trail_findClock 6 s ([.ref (b + k0), .ref (b + k1), .ref (b + k2)] : List Value).toArray "WardFalls$Trail" C n 191) (hlk : meth.locks = false) (hr : meth.sig.returnType = none) {res : Mem} : ∀ (fu : Nat) (M : Mem) (v3_ : Int) (hv3_ : InR v3_) (H : Heap) (locs : List Loc) (ls : Array Slot), St b C n M s H locs → lv_has ls 6 [(0, .ref (b + k0)), (1, .ref (b + k1)), (2, .ref (b + k2)), (3, vI v3_)] → t_Trail_findClock_L30 k0 k1 k2 fu M v3_ = some res → W p l e (headSpec (wsM y_Trail_findClock b_Trail_findClock 6 (none)) (rmD 5)).room s m ([.ref (b + k0), .ref (b + k1), .ref (b + k2)] : List Value).toArray below meth c H locs 0 0 (MQ below (QV b C n res) ([.ref (b + k0), .ref (b + k1), .ref (b + k2)] : List Value).toArray s 0 0 (frb b)) (F0 m 30 ls []) := by
  intro fu
  induction fu with
  | zero => intro M v3_ hv3_ H locs ls hS hl hT; exact absurd hT (by simp [t_Trail_findClock_L30])
  | succ fu ih =>
    intro M v3_ hv3_ H locs ls hS hl hT
    rw [t_Trail_findClock_L30] at hT
    refine lv_iload_n F.hx F.hb d_Trail_findClock_30 rfl (lv_at hl 3 rfl) ?_
    refine lv_aload_n F.hx F.hb d_Trail_findClock_31 rfl (lv_at hl 1 rfl) ?_
    refine r_get (v := vI (M.1 k1 14)) (N := 20) (T := T11) (j := 14) F hS (Town_lt hk1) (Town_sh hk1) (Town_N hk1) rfl (Nat.le_of_ble_eq_true rfl) ing11 mw_138 (fv_int rfl) d_Trail_findClock_32 ?_
    have i7 := hS.rng k1 14
    refine r_icmp_ge (tgt := 98) F.hx F.hb hv3_ i7 d_Trail_findClock_35 (by decide) (fun c8 => ?_) (fun c8 => ?_)
    · replace hT := (if_pos c8).symm.trans hT
      cases hT
      exact r_vret F hlk hr hS d_Trail_findClock_98
    · replace hT := (if_neg c8).symm.trans hT
      refine lv_aload_n F.hx F.hb d_Trail_findClock_38 rfl (lv_at hl 2 rfl) ?_
      refine r_get (v := .ref (b + (k2 + 1))) (N := 7) (T := T9) (j := 0) F hS (Scene_lt hk2) (Scene_sh hk2) (Scene_N hk2) rfl (Nat.le_of_ble_eq_true rfl) ing9 mw_275 (Scene_g0 hk2 _) d_Trail_findClock_39 ?_
      refine lv_iload_n F.hx F.hb d_Trail_findClock_42 rfl (lv_at hl 3 rfl) ?_
      obtain ⟨q9, hq9⟩ : ∃ q, q = (t_WF_look M (k2 + 1) 4 v3_) := ⟨_, rfl⟩
      replace hT := qlet_eq hT hq9
      refine r_backI F hS (r_runSN (As := [.ref (b + (k2 + 1)), vI v3_]) F hS (c_WF_look l F.2.2.1 M (k2 + 1) 4 v3_ (Scene_f0 hk2) hv3_ _ hq9.symm) mw_519 mw_518 mw_1 gs_Trail_52 hd_WF_look ⟨Nat.le_of_ble_eq_true rfl, Nat.le_of_ble_eq_true rfl⟩ rfl hl.1 (Nat.le_of_ble_eq_true rfl) ⟨Nat.zero_le _, Nat.zero_le _⟩ rfl d_Trail_findClock_43) (fun H locs hS h10 => ?_)
      refine lv_istore (lv' := [(4, vI q9), (0, .ref (b + k0)), (1, .ref (b + k1)), (2, .ref (b + k2)), (3, vI v3_)]) F.hx F.hb d_Trail_findClock_46 hl (Nat.le_of_ble_eq_true rfl) rfl (fun ls hl => ?_)
      refine r_iconst F.hx F.hb d_Trail_findClock_48 ?_
      refine lv_istore (lv' := [(5, vI 0), (4, vI q9), (0, .ref (b + k0)), (1, .ref (b + k1)), (2, .ref (b + k2)), (3, vI v3_)]) F.hx F.hb d_Trail_findClock_49 hl (Nat.le_of_ble_eq_true rfl) rfl (fun ls hl => ?_)
      exact k_Trail_findClock_L51 l hlo k0 k1 k2 hk0 hk1 hk2 F hlk hr (fun a0_ a1_ => t_Trail_findClock_L30 k0 k1 k2 fu a0_ a1_) ih FU M v3_ hv3_ q9 h10 0 (inr_c rfl) _ _ _ hS (lv_sub hl [2, 3, 4, 5, 1, 0] rfl) hT
set_option maxHeartbeats 4000000 in
set_option maxRecDepth 100000 in
theorem c_Trail_findClock (l : Launch) {b n : Nat} {C : CT} (hlo : 191 ≤ n) (M : Mem) (k0 : Nat) (k1 : Nat) (k2 : Nat) (hk0 : isTrail k0) (hk1 : isTown k1) (hk2 : isScene k2) (res : Mem) (hT : t_Trail_findClock M k0 k1 k2 = some res) : CM l b C n 5 y_Trail_findClock b_Trail_findClock 6 (none) [.ref (b + k0), .ref (b + k1), .ref (b + k2)] M (QV b C n res) := by
  refine CM.of (lo := 191) (ow := "WardFalls$Trail") (by decide) rfl (Nat.le_of_ble_eq_true rfl) hlo (fun p e s m below meth c F hlk hr hS ls hl => ?_)
  have hl : lv_has ls 6 [(0, .ref (b + k0)), (1, .ref (b + k1)), (2, .ref (b + k2))] := hl
  unfold t_Trail_findClock at hT
  refine lv_aload_n F.hx F.hb d_Trail_findClock_0 rfl (lv_at hl 0 rfl) ?_
  refine r_iconst F.hx F.hb d_Trail_findClock_1 ?_
  refine r_putI (N := 9) (T := T12) (j := 5) F hS (Trail_lt hk0) (Trail_sh hk0) (Trail_N hk0) rfl (Nat.le_of_ble_eq_true rfl) ing12 tyok12 nm12 rfl rfl rfl rfl rfl (Trail_dyn hk0 _) mw_411 (inr_c rfl) d_Trail_findClock_2 (fun H locs hS => ?_)
  obtain ⟨M1, eM1⟩ : ∃ q, q = (setI M k0 5 0) := ⟨_, rfl⟩
  replace hS : St b C n M1 s H locs := by rw [eM1]; exact hS
  replace hT := qlet_eq hT eM1
  refine lv_aload_n F.hx F.hb d_Trail_findClock_5 rfl (lv_at hl 0 rfl) ?_
  refine r_iconst F.hx F.hb d_Trail_findClock_6 ?_
  refine r_putI (N := 9) (T := T12) (j := 6) F hS (Trail_lt hk0) (Trail_sh hk0) (Trail_N hk0) rfl (Nat.le_of_ble_eq_true rfl) ing12 tyok12 nm12 rfl rfl rfl rfl rfl (Trail_dyn hk0 _) mw_413 (inr_c rfl) d_Trail_findClock_7 (fun H locs hS => ?_)
  obtain ⟨M2, eM2⟩ : ∃ q, q = (setI M1 k0 6 (-1)) := ⟨_, rfl⟩
  replace hS : St b C n M2 s H locs := by rw [eM2]; exact hS
  replace hT := qlet_eq hT eM2
  refine lv_aload_n F.hx F.hb d_Trail_findClock_10 rfl (lv_at hl 0 rfl) ?_
  refine r_iconst F.hx F.hb d_Trail_findClock_11 ?_
  refine r_putI (N := 9) (T := T12) (j := 7) F hS (Trail_lt hk0) (Trail_sh hk0) (Trail_N hk0) rfl (Nat.le_of_ble_eq_true rfl) ing12 tyok12 nm12 rfl rfl rfl rfl rfl (Trail_dyn hk0 _) mw_415 (inr_c rfl) d_Trail_findClock_12 (fun H locs hS => ?_)
  obtain ⟨M3, eM3⟩ : ∃ q, q = (setI M2 k0 7 (-1)) := ⟨_, rfl⟩
  replace hS : St b C n M3 s H locs := by rw [eM3]; exact hS
  replace hT := qlet_eq hT eM3
  refine lv_aload_n F.hx F.hb d_Trail_findClock_15 rfl (lv_at hl 0 rfl) ?_
  refine r_iconst F.hx F.hb d_Trail_findClock_16 ?_
  refine r_putI (N := 9) (T := T12) (j := 8) F hS (Trail_lt hk0) (Trail_sh hk0) (Trail_N hk0) rfl (Nat.le_of_ble_eq_true rfl) ing12 tyok12 nm12 rfl rfl rfl rfl rfl (Trail_dyn hk0 _) mw_417 (inr_c rfl) d_Trail_findClock_17 (fun H locs hS => ?_)
  obtain ⟨M4, eM4⟩ : ∃ q, q = (setI M3 k0 8 (-1)) := ⟨_, rfl⟩
  replace hS : St b C n M4 s H locs := by rw [eM4]; exact hS
  replace hT := qlet_eq hT eM4
  refine lv_aload_n F.hx F.hb d_Trail_findClock_20 rfl (lv_at hl 0 rfl) ?_
  refine lv_aload_n F.hx F.hb d_Trail_findClock_21 rfl (lv_at hl 1 rfl) ?_
  refine lv_aload_n F.hx F.hb d_Trail_findClock_22 rfl (lv_at hl 2 rfl) ?_
  refine r_iconst F.hx F.hb d_Trail_findClock_23 ?_
  refine r_iconst F.hx F.hb d_Trail_findClock_24 ?_
  obtain ⟨q5, hq5, hT⟩ := q_obind hT
  refine r_backV F hS (r_runV (k := k0) (N := 9) (T := T12) (As := [.ref (b + k1), .ref (b + k2), vI (-1), vI (-1)]) F hS (Trail_lt hk0) (Trail_sh hk0) rfl (c_Trail_tryClock l F.2.2.1 M4 k0 k1 k2 (-1) (-1) hk0 hk1 hk2 (inr_c rfl) (inr_c rfl) _ hq5) gs_Trail_72 hd_Trail_tryClock ⟨Nat.le_of_ble_eq_true rfl, Nat.le_of_ble_eq_true rfl⟩ rfl hl.1 (Nat.le_of_ble_eq_true rfl) ⟨Nat.zero_le _, Nat.zero_le _⟩ rfl d_Trail_findClock_25) (fun H locs hS => ?_)
  refine r_iconst F.hx F.hb d_Trail_findClock_28 ?_
  refine lv_istore_n (lv' := [(3, vI 0), (0, .ref (b + k0)), (1, .ref (b + k1)), (2, .ref (b + k2))]) F.hx F.hb d_Trail_findClock_29 rfl hl (Nat.le_of_ble_eq_true rfl) rfl (fun ls hl => ?_)
  exact k_Trail_findClock_L30 l hlo k0 k1 k2 hk0 hk1 hk2 F hlk hr FU q5 0 (inr_c rfl) _ _ _ hS (lv_sub hl [1, 2, 3, 0] rfl) hT
theorem d_WF_clock_0 : decode b_WF_clock 0 = .ok (.iload_n 1, 1) := dc_27 (by decide +kernel)
theorem d_WF_clock_1 : decode b_WF_clock 1 = .ok (.ifCond .lt 8, 3) := dc_155 (by decide +kernel)
theorem d_WF_clock_4 : decode b_WF_clock 4 = .ok (.iload_n 1, 1) := dc_27 (by decide +kernel)
theorem d_WF_clock_5 : decode b_WF_clock 5 = .ok (.iconst 3, 1) := dc_6 (by decide +kernel)
theorem d_WF_clock_6 : decode b_WF_clock 6 = .ok (.if_icmp .le 5, 3) := dc_164 (by decide +kernel)
theorem d_WF_clock_9 : decode b_WF_clock 9 = .ok (.iconst (-1), 1) := dc_2 (by decide +kernel)
theorem d_WF_clock_10 : decode b_WF_clock 10 = .ok (.ireturn, 1) := dc_172 (by decide +kernel)
theorem d_WF_clock_11 : decode b_WF_clock 11 = .ok (.aload_n 0, 1) := dc_42 (by decide +kernel)
theorem d_WF_clock_12 : decode b_WF_clock 12 = .ok (.getfield 50, 3) := dc_180 (by decide +kernel)
theorem d_WF_clock_15 : decode b_WF_clock 15 = .ok (.aload_n 0, 1) := dc_42 (by decide +kernel)
theorem d_WF_clock_16 : decode b_WF_clock 16 = .ok (.getfield 46, 3) := dc_180 (by decide +kernel)
theorem d_WF_clock_19 : decode b_WF_clock 19 = .ok (.invokevirtual 299, 3) := dc_182 (by decide +kernel)
theorem d_WF_clock_22 : decode b_WF_clock 22 = .ok (.aload_n 0, 1) := dc_42 (by decide +kernel)
theorem d_WF_clock_23 : decode b_WF_clock 23 = .ok (.getfield 97, 3) := dc_180 (by decide +kernel)
theorem d_WF_clock_26 : decode b_WF_clock 26 = .ok (.aload_n 0, 1) := dc_42 (by decide +kernel)
theorem d_WF_clock_27 : decode b_WF_clock 27 = .ok (.getfield 22, 3) := dc_180 (by decide +kernel)
theorem d_WF_clock_30 : decode b_WF_clock 30 = .ok (.aload_n 0, 1) := dc_42 (by decide +kernel)
theorem d_WF_clock_31 : decode b_WF_clock 31 = .ok (.getfield 50, 3) := dc_180 (by decide +kernel)
theorem d_WF_clock_34 : decode b_WF_clock 34 = .ok (.invokevirtual 340, 3) := dc_182 (by decide +kernel)
theorem d_WF_clock_37 : decode b_WF_clock 37 = .ok (.iload_n 1, 1) := dc_27 (by decide +kernel)
theorem d_WF_clock_38 : decode b_WF_clock 38 = .ok (.tableswitch 50 0 2 #[26, 34, 42], 26) := by decide +kernel
theorem d_WF_clock_64 : decode b_WF_clock 64 = .ok (.aload_n 0, 1) := dc_42 (by decide +kernel)
theorem d_WF_clock_65 : decode b_WF_clock 65 = .ok (.getfield 97, 3) := dc_180 (by decide +kernel)
theorem d_WF_clock_68 : decode b_WF_clock 68 = .ok (.getfield 343, 3) := dc_180 (by decide +kernel)
theorem d_WF_clock_71 : decode b_WF_clock 71 = .ok (.ireturn, 1) := dc_172 (by decide +kernel)
theorem d_WF_clock_72 : decode b_WF_clock 72 = .ok (.aload_n 0, 1) := dc_42 (by decide +kernel)
theorem d_WF_clock_73 : decode b_WF_clock 73 = .ok (.getfield 97, 3) := dc_180 (by decide +kernel)
theorem d_WF_clock_76 : decode b_WF_clock 76 = .ok (.getfield 346, 3) := dc_180 (by decide +kernel)
theorem d_WF_clock_79 : decode b_WF_clock 79 = .ok (.ireturn, 1) := dc_172 (by decide +kernel)
theorem d_WF_clock_80 : decode b_WF_clock 80 = .ok (.aload_n 0, 1) := dc_42 (by decide +kernel)
theorem d_WF_clock_81 : decode b_WF_clock 81 = .ok (.getfield 97, 3) := dc_180 (by decide +kernel)
theorem d_WF_clock_84 : decode b_WF_clock 84 = .ok (.getfield 349, 3) := dc_180 (by decide +kernel)
theorem d_WF_clock_87 : decode b_WF_clock 87 = .ok (.ireturn, 1) := dc_172 (by decide +kernel)
theorem d_WF_clock_88 : decode b_WF_clock 88 = .ok (.aload_n 0, 1) := dc_42 (by decide +kernel)
theorem d_WF_clock_89 : decode b_WF_clock 89 = .ok (.getfield 97, 3) := dc_180 (by decide +kernel)
theorem d_WF_clock_92 : decode b_WF_clock 92 = .ok (.getfield 352, 3) := dc_180 (by decide +kernel)
theorem d_WF_clock_95 : decode b_WF_clock 95 = .ok (.ireturn, 1) := dc_172 (by decide +kernel)
def t_WF_clock (M : Mem) (x1 : Int) : Option (Mem × Int) := (if x1 < 0 then (some (M, (-1))) else (if x1 ≤ 3 then (qlet (t_Scene_copy M 52 47) fun q3 => (obind (t_Trail_findClock q3 189 ((q3.1 0 4).toNat) 52) fun q6 => (if x1 = 0 then (some (q6, (q6.1 189 5))) else (if x1 = 1 then (some (q6, (q6.1 189 6))) else (if x1 = 2 then (some (q6, (q6.1 189 7))) else (some (q6, (q6.1 189 8)))))))) else (some (M, (-1)))))
set_option maxHeartbeats 4000000 in
set_option maxRecDepth 100000 in
theorem c_WF_clock (l : Launch) {b n : Nat} {C : CT} (hlo : 191 ≤ n) (M : Mem) (x1 : Int) (hx1 : InR x1) (res : Mem × Int) (hT : t_WF_clock M x1 = some res) : CM l b C n 6 y_WF_clock b_WF_clock 2 (some .int) [.ref (b + 0), vI x1] M (QI b C n res.1 res.2) := by
  refine CM.of (lo := 191) (ow := "WardFalls") (by decide) rfl (Nat.le_of_ble_eq_true rfl) hlo (fun p e s m below meth c F hlk hr hS ls hl => ?_)
  have hl : lv_has ls 2 [(0, .ref (b + 0)), (1, vI x1)] := hl
  unfold t_WF_clock at hT
  refine lv_iload_n F.hx F.hb d_WF_clock_0 rfl (lv_at hl 1 rfl) ?_
  refine r_if_lt (tgt := 9) F.hx F.hb hx1 d_WF_clock_1 (by decide) (fun c1 => ?_) (fun c1 => ?_)
  · replace hT := (if_pos c1).symm.trans hT
    refine r_iconst F.hx F.hb d_WF_clock_9 ?_
    cases hT
    exact r_iret F hlk hr rfl hS (inr_c rfl) d_WF_clock_10
  · replace hT := (if_neg c1).symm.trans hT
    refine lv_iload_n F.hx F.hb d_WF_clock_4 rfl (lv_at hl 1 rfl) ?_
    refine r_iconst F.hx F.hb d_WF_clock_5 ?_
    refine r_icmp_le (tgt := 11) F.hx F.hb hx1 (inr_c rfl) d_WF_clock_6 (by decide) (fun c2 => ?_) (fun c2 => ?_)
    · replace hT := (if_pos c2).symm.trans hT
      refine lv_aload_n F.hx F.hb d_WF_clock_11 rfl (lv_at hl 0 rfl) ?_
      refine r_get (v := .ref (b + 52)) (N := 19) (T := T0) (j := 9) F hS (show 0 < 191 by decide) (show shK 0 = 4 from rfl) (show shN 0 = 19 from rfl) rfl (Nat.le_of_ble_eq_true rfl) ing0 mw_559 (fv_sg rfl rfl rfl) d_WF_clock_12 ?_
      refine lv_aload_n F.hx F.hb d_WF_clock_15 rfl (lv_at hl 0 rfl) ?_
      refine r_get (v := .ref (b + 47)) (N := 19) (T := T0) (j := 8) F hS (show 0 < 191 by decide) (show shK 0 = 4 from rfl) (show shN 0 = 19 from rfl) rfl (Nat.le_of_ble_eq_true rfl) ing0 mw_558 (fv_sg rfl rfl rfl) d_WF_clock_16 ?_
      obtain ⟨q3, hq3⟩ : ∃ q, q = (t_Scene_copy M 52 47) := ⟨_, rfl⟩
      replace hT := qlet_eq hT hq3
      refine r_backV F hS (r_runV (k := 52) (N := 7) (T := T9) (As := [.ref (b + 47)]) F hS (show 52 < 191 by decide) (show shK 52 = 13 from rfl) rfl (c_Scene_copy l F.2.2.1 M 52 47 (by decide : isScene 52) (by decide : isScene 47) _ hq3.symm) gs_WF_299 hd_Scene_copy ⟨Nat.le_of_ble_eq_true rfl, Nat.le_of_ble_eq_true rfl⟩ rfl hl.1 (Nat.le_of_ble_eq_true rfl) ⟨Nat.zero_le _, Nat.zero_le _⟩ rfl d_WF_clock_19) (fun H locs hS => ?_)
      refine lv_aload_n F.hx F.hb d_WF_clock_22 rfl (lv_at hl 0 rfl) ?_
      refine r_get (v := .ref (b + 189)) (N := 19) (T := T0) (j := 18) F hS (show 0 < 191 by decide) (show shK 0 = 4 from rfl) (show shN 0 = 19 from rfl) rfl (Nat.le_of_ble_eq_true rfl) ing0 mw_568 (fv_sg rfl rfl rfl) d_WF_clock_23 ?_
      refine lv_aload_n F.hx F.hb d_WF_clock_26 rfl (lv_at hl 0 rfl) ?_
      have h5 := St_town hS
      refine r_get (v := .ref (b + ((q3.1 0 4).toNat))) (N := 19) (T := T0) (j := 4) F hS (show 0 < 191 by decide) (show shK 0 = 4 from rfl) (show shN 0 = 19 from rfl) rfl (Nat.le_of_ble_eq_true rfl) ing0 mw_554 (fv_town hS) d_WF_clock_27 ?_
      refine lv_aload_n F.hx F.hb d_WF_clock_30 rfl (lv_at hl 0 rfl) ?_
      refine r_get (v := .ref (b + 52)) (N := 19) (T := T0) (j := 9) F hS (show 0 < 191 by decide) (show shK 0 = 4 from rfl) (show shN 0 = 19 from rfl) rfl (Nat.le_of_ble_eq_true rfl) ing0 mw_559 (fv_sg rfl rfl rfl) d_WF_clock_31 ?_
      obtain ⟨q6, hq6, hT⟩ := q_obind hT
      refine r_backV F hS (r_runV (k := 189) (N := 9) (T := T12) (As := [.ref (b + ((q3.1 0 4).toNat)), .ref (b + 52)]) F hS (show 189 < 191 by decide) (show shK 189 = 16 from rfl) rfl (c_Trail_findClock l F.2.2.1 q3 189 ((q3.1 0 4).toNat) 52 (by decide : isTrail 189) h5 (by decide : isScene 52) _ hq6) gs_WF_340 hd_Trail_findClock ⟨Nat.le_of_ble_eq_true rfl, Nat.le_of_ble_eq_true rfl⟩ rfl hl.1 (Nat.le_of_ble_eq_true rfl) ⟨Nat.zero_le _, Nat.zero_le _⟩ rfl d_WF_clock_34) (fun H locs hS => ?_)
      refine lv_iload_n F.hx F.hb d_WF_clock_37 rfl (lv_at hl 1 rfl) ?_
      rcases q_ite hT with ⟨c8, hT⟩ | ⟨c8, hT⟩
      · refine r_tableIn (i := 0) (tgt := 64) F.hx F.hb hx1 c8 d_WF_clock_38 (by decide) (by decide) rfl (by decide) ?_
        refine lv_aload_n F.hx F.hb d_WF_clock_64 rfl (lv_at hl 0 rfl) ?_
        refine r_get (v := .ref (b + 189)) (N := 19) (T := T0) (j := 18) F hS (show 0 < 191 by decide) (show shK 0 = 4 from rfl) (show shN 0 = 19 from rfl) rfl (Nat.le_of_ble_eq_true rfl) ing0 mw_568 (fv_sg rfl rfl rfl) d_WF_clock_65 ?_
        refine r_get (v := vI (q6.1 189 5)) (N := 9) (T := T12) (j := 5) F hS (show 189 < 191 by decide) (show shK 189 = 16 from rfl) (show shN 189 = 9 from rfl) rfl (Nat.le_of_ble_eq_true rfl) ing12 mw_412 (fv_int rfl) d_WF_clock_68 ?_
        have i9 := hS.rng 189 5
        cases hT
        exact r_iret F hlk hr rfl hS i9 d_WF_clock_71
      ·
        rcases q_ite hT with ⟨c10, hT⟩ | ⟨c10, hT⟩
        · refine r_tableIn (i := 1) (tgt := 72) F.hx F.hb hx1 c10 d_WF_clock_38 (by decide) (by decide) rfl (by decide) ?_
          refine lv_aload_n F.hx F.hb d_WF_clock_72 rfl (lv_at hl 0 rfl) ?_
          refine r_get (v := .ref (b + 189)) (N := 19) (T := T0) (j := 18) F hS (show 0 < 191 by decide) (show shK 0 = 4 from rfl) (show shN 0 = 19 from rfl) rfl (Nat.le_of_ble_eq_true rfl) ing0 mw_568 (fv_sg rfl rfl rfl) d_WF_clock_73 ?_
          refine r_get (v := vI (q6.1 189 6)) (N := 9) (T := T12) (j := 6) F hS (show 189 < 191 by decide) (show shK 189 = 16 from rfl) (show shN 189 = 9 from rfl) rfl (Nat.le_of_ble_eq_true rfl) ing12 mw_414 (fv_int rfl) d_WF_clock_76 ?_
          have i11 := hS.rng 189 6
          cases hT
          exact r_iret F hlk hr rfl hS i11 d_WF_clock_79
        ·
          rcases q_ite hT with ⟨c12, hT⟩ | ⟨c12, hT⟩
          · refine r_tableIn (i := 2) (tgt := 80) F.hx F.hb hx1 c12 d_WF_clock_38 (by decide) (by decide) rfl (by decide) ?_
            refine lv_aload_n F.hx F.hb d_WF_clock_80 rfl (lv_at hl 0 rfl) ?_
            refine r_get (v := .ref (b + 189)) (N := 19) (T := T0) (j := 18) F hS (show 0 < 191 by decide) (show shK 0 = 4 from rfl) (show shN 0 = 19 from rfl) rfl (Nat.le_of_ble_eq_true rfl) ing0 mw_568 (fv_sg rfl rfl rfl) d_WF_clock_81 ?_
            refine r_get (v := vI (q6.1 189 7)) (N := 9) (T := T12) (j := 7) F hS (show 189 < 191 by decide) (show shK 189 = 16 from rfl) (show shN 189 = 9 from rfl) rfl (Nat.le_of_ble_eq_true rfl) ing12 mw_416 (fv_int rfl) d_WF_clock_84 ?_
            have i13 := hS.rng 189 7
            cases hT
            exact r_iret F hlk hr rfl hS i13 d_WF_clock_87
          ·
            refine r_tableOut (tgt := 88) F.hx F.hb hx1 (by omega) d_WF_clock_38 (by decide) ?_
            refine lv_aload_n F.hx F.hb d_WF_clock_88 rfl (lv_at hl 0 rfl) ?_
            refine r_get (v := .ref (b + 189)) (N := 19) (T := T0) (j := 18) F hS (show 0 < 191 by decide) (show shK 0 = 4 from rfl) (show shN 0 = 19 from rfl) rfl (Nat.le_of_ble_eq_true rfl) ing0 mw_568 (fv_sg rfl rfl rfl) d_WF_clock_89 ?_
            refine r_get (v := vI (q6.1 189 8)) (N := 9) (T := T12) (j := 8) F hS (show 189 < 191 by decide) (show shK 189 = 16 from rfl) (show shN 189 = 9 from rfl) rfl (Nat.le_of_ble_eq_true rfl) ing12 mw_418 (fv_int rfl) d_WF_clock_92 ?_
            have i14 := hS.rng 189 8
            cases hT
            exact r_iret F hlk hr rfl hS i14 d_WF_clock_95
    · replace hT := (if_neg c2).symm.trans hT
      refine r_iconst F.hx F.hb d_WF_clock_9 ?_
      cases hT
      exact r_iret F hlk hr rfl hS (inr_c rfl) d_WF_clock_10
end
