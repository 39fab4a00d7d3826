theorem d_Long_bitCount_0 : decode b_Long_bitCount 0 = .ok (.lload_n 0, 1) := dc_30 (by decide +kernel)
theorem d_Long_bitCount_1 : decode b_Long_bitCount 1 = .ok (.lload_n 0, 1) := dc_30 (by decide +kernel)
theorem d_Long_bitCount_2 : decode b_Long_bitCount 2 = .ok (.iconst 1, 1) := dc_4 (by decide +kernel)
theorem d_Long_bitCount_3 : decode b_Long_bitCount 3 = .ok (.lushr, 1) := dc_125 (by decide +kernel)
theorem d_Long_bitCount_4 : decode b_Long_bitCount 4 = .ok (.ldc2_w 314, 3) := dc_20 (by decide +kernel)
theorem d_Long_bitCount_7 : decode b_Long_bitCount 7 = .ok (.land, 1) := dc_127 (by decide +kernel)
theorem d_Long_bitCount_8 : decode b_Long_bitCount 8 = .ok (.lsub, 1) := dc_101 (by decide +kernel)
theorem d_Long_bitCount_9 : decode b_Long_bitCount 9 = .ok (.lstore_n 0, 1) := dc_63 (by decide +kernel)
theorem d_Long_bitCount_10 : decode b_Long_bitCount 10 = .ok (.lload_n 0, 1) := dc_30 (by decide +kernel)
theorem d_Long_bitCount_11 : decode b_Long_bitCount 11 = .ok (.ldc2_w 316, 3) := dc_20 (by decide +kernel)
theorem d_Long_bitCount_14 : decode b_Long_bitCount 14 = .ok (.land, 1) := dc_127 (by decide +kernel)
theorem d_Long_bitCount_15 : decode b_Long_bitCount 15 = .ok (.lload_n 0, 1) := dc_30 (by decide +kernel)
theorem d_Long_bitCount_16 : decode b_Long_bitCount 16 = .ok (.iconst 2, 1) := dc_5 (by decide +kernel)
theorem d_Long_bitCount_17 : decode b_Long_bitCount 17 = .ok (.lushr, 1) := dc_125 (by decide +kernel)
theorem d_Long_bitCount_18 : decode b_Long_bitCount 18 = .ok (.ldc2_w 316, 3) := dc_20 (by decide +kernel)
theorem d_Long_bitCount_21 : decode b_Long_bitCount 21 = .ok (.land, 1) := dc_127 (by decide +kernel)
theorem d_Long_bitCount_22 : decode b_Long_bitCount 22 = .ok (.ladd, 1) := dc_97 (by decide +kernel)
theorem d_Long_bitCount_23 : decode b_Long_bitCount 23 = .ok (.lstore_n 0, 1) := dc_63 (by decide +kernel)
theorem d_Long_bitCount_24 : decode b_Long_bitCount 24 = .ok (.lload_n 0, 1) := dc_30 (by decide +kernel)
theorem d_Long_bitCount_25 : decode b_Long_bitCount 25 = .ok (.lload_n 0, 1) := dc_30 (by decide +kernel)
theorem d_Long_bitCount_26 : decode b_Long_bitCount 26 = .ok (.iconst 4, 1) := dc_7 (by decide +kernel)
theorem d_Long_bitCount_27 : decode b_Long_bitCount 27 = .ok (.lushr, 1) := dc_125 (by decide +kernel)
theorem d_Long_bitCount_28 : decode b_Long_bitCount 28 = .ok (.ladd, 1) := dc_97 (by decide +kernel)
theorem d_Long_bitCount_29 : decode b_Long_bitCount 29 = .ok (.ldc2_w 318, 3) := dc_20 (by decide +kernel)
theorem d_Long_bitCount_32 : decode b_Long_bitCount 32 = .ok (.land, 1) := dc_127 (by decide +kernel)
theorem d_Long_bitCount_33 : decode b_Long_bitCount 33 = .ok (.lstore_n 0, 1) := dc_63 (by decide +kernel)
theorem d_Long_bitCount_34 : decode b_Long_bitCount 34 = .ok (.lload_n 0, 1) := dc_30 (by decide +kernel)
theorem d_Long_bitCount_35 : decode b_Long_bitCount 35 = .ok (.lload_n 0, 1) := dc_30 (by decide +kernel)
theorem d_Long_bitCount_36 : decode b_Long_bitCount 36 = .ok (.bipush 8, 2) := dc_16 (by decide +kernel)
theorem d_Long_bitCount_38 : decode b_Long_bitCount 38 = .ok (.lushr, 1) := dc_125 (by decide +kernel)
theorem d_Long_bitCount_39 : decode b_Long_bitCount 39 = .ok (.ladd, 1) := dc_97 (by decide +kernel)
theorem d_Long_bitCount_40 : decode b_Long_bitCount 40 = .ok (.lstore_n 0, 1) := dc_63 (by decide +kernel)
theorem d_Long_bitCount_41 : decode b_Long_bitCount 41 = .ok (.lload_n 0, 1) := dc_30 (by decide +kernel)
theorem d_Long_bitCount_42 : decode b_Long_bitCount 42 = .ok (.lload_n 0, 1) := dc_30 (by decide +kernel)
theorem d_Long_bitCount_43 : decode b_Long_bitCount 43 = .ok (.bipush 16, 2) := dc_16 (by decide +kernel)
theorem d_Long_bitCount_45 : decode b_Long_bitCount 45 = .ok (.lushr, 1) := dc_125 (by decide +kernel)
theorem d_Long_bitCount_46 : decode b_Long_bitCount 46 = .ok (.ladd, 1) := dc_97 (by decide +kernel)
theorem d_Long_bitCount_47 : decode b_Long_bitCount 47 = .ok (.lstore_n 0, 1) := dc_63 (by decide +kernel)
theorem d_Long_bitCount_48 : decode b_Long_bitCount 48 = .ok (.lload_n 0, 1) := dc_30 (by decide +kernel)
theorem d_Long_bitCount_49 : decode b_Long_bitCount 49 = .ok (.lload_n 0, 1) := dc_30 (by decide +kernel)
theorem d_Long_bitCount_50 : decode b_Long_bitCount 50 = .ok (.bipush 32, 2) := dc_16 (by decide +kernel)
theorem d_Long_bitCount_52 : decode b_Long_bitCount 52 = .ok (.lushr, 1) := dc_125 (by decide +kernel)
theorem d_Long_bitCount_53 : decode b_Long_bitCount 53 = .ok (.ladd, 1) := dc_97 (by decide +kernel)
theorem d_Long_bitCount_54 : decode b_Long_bitCount 54 = .ok (.lstore_n 0, 1) := dc_63 (by decide +kernel)
theorem d_Long_bitCount_55 : decode b_Long_bitCount 55 = .ok (.lload_n 0, 1) := dc_30 (by decide +kernel)
theorem d_Long_bitCount_56 : decode b_Long_bitCount 56 = .ok (.l2i, 1) := dc_136 (by decide +kernel)
theorem d_Long_bitCount_57 : decode b_Long_bitCount 57 = .ok (.bipush 127, 2) := dc_16 (by decide +kernel)
theorem d_Long_bitCount_59 : decode b_Long_bitCount 59 = .ok (.iand, 1) := dc_126 (by decide +kernel)
theorem d_Long_bitCount_60 : decode b_Long_bitCount 60 = .ok (.ireturn, 1) := dc_172 (by decide +kernel)
def t_Long_bitCount (M : Mem) (x1 : Int64) : Int := (q_and (q_l2i ((((((((x1 - ((q_lushr x1 1) &&& 6148914691236517205)) &&& 3689348814741910323) + ((q_lushr (x1 - ((q_lushr x1 1) &&& 6148914691236517205)) 2) &&& 3689348814741910323)) + (q_lushr (((x1 - ((q_lushr x1 1) &&& 6148914691236517205)) &&& 3689348814741910323) + ((q_lushr (x1 - ((q_lushr x1 1) &&& 6148914691236517205)) 2) &&& 3689348814741910323)) 4)) &&& 1085102592571150095) + (q_lushr (((((x1 - ((q_lushr x1 1) &&& 6148914691236517205)) &&& 3689348814741910323) + ((q_lushr (x1 - ((q_lushr x1 1) &&& 6148914691236517205)) 2) &&& 3689348814741910323)) + (q_lushr (((x1 - ((q_lushr x1 1) &&& 6148914691236517205)) &&& 3689348814741910323) + ((q_lushr (x1 - ((q_lushr x1 1) &&& 6148914691236517205)) 2) &&& 3689348814741910323)) 4)) &&& 1085102592571150095) 8)) + (q_lushr ((((((x1 - ((q_lushr x1 1) &&& 6148914691236517205)) &&& 3689348814741910323) + ((q_lushr (x1 - ((q_lushr x1 1) &&& 6148914691236517205)) 2) &&& 3689348814741910323)) + (q_lushr (((x1 - ((q_lushr x1 1) &&& 6148914691236517205)) &&& 3689348814741910323) + ((q_lushr (x1 - ((q_lushr x1 1) &&& 6148914691236517205)) 2) &&& 3689348814741910323)) 4)) &&& 1085102592571150095) + (q_lushr (((((x1 - ((q_lushr x1 1) &&& 6148914691236517205)) &&& 3689348814741910323) + ((q_lushr (x1 - ((q_lushr x1 1) &&& 6148914691236517205)) 2) &&& 3689348814741910323)) + (q_lushr (((x1 - ((q_lushr x1 1) &&& 6148914691236517205)) &&& 3689348814741910323) + ((q_lushr (x1 - ((q_lushr x1 1) &&& 6148914691236517205)) 2) &&& 3689348814741910323)) 4)) &&& 1085102592571150095) 8)) 16)) + (q_lushr (((((((x1 - ((q_lushr x1 1) &&& 6148914691236517205)) &&& 3689348814741910323) + ((q_lushr (x1 - ((q_lushr x1 1) &&& 6148914691236517205)) 2) &&& 3689348814741910323)) + (q_lushr (((x1 - ((q_lushr x1 1) &&& 6148914691236517205)) &&& 3689348814741910323) + ((q_lushr (x1 - ((q_lushr x1 1) &&& 6148914691236517205)) 2) &&& 3689348814741910323)) 4)) &&& 1085102592571150095) + (q_lushr (((((x1 - ((q_lushr x1 1) &&& 6148914691236517205)) &&& 3689348814741910323) + ((q_lushr (x1 - ((q_lushr x1 1) &&& 6148914691236517205)) 2) &&& 3689348814741910323)) + (q_lushr (((x1 - ((q_lushr x1 1) &&& 6148914691236517205)) &&& 3689348814741910323) + ((q_lushr (x1 - ((q_lushr x1 1) &&& 6148914691236517205)) 2) &&& 3689348814741910323)) 4)) &&& 1085102592571150095) 8)) + (q_lushr ((((((x1 - ((q_lushr x1 1) &&& 6148914691236517205)) &&& 3689348814741910323) + ((q_lushr (x1 - ((q_lushr x1 1) &&& 6148914691236517205)) 2) &&& 3689348814741910323)) + (q_lushr (((x1 - ((q_lushr x1 1) &&& 6148914691236517205)) &&& 3689348814741910323) + ((q_lushr (x1 - ((q_lushr x1 1) &&& 6148914691236517205)) 2) &&& 3689348814741910323)) 4)) &&& 1085102592571150095) + (q_lushr (((((x1 - ((q_lushr x1 1) &&& 6148914691236517205)) &&& 3689348814741910323) + ((q_lushr (x1 - ((q_lushr x1 1) &&& 6148914691236517205)) 2) &&& 3689348814741910323)) + (q_lushr (((x1 - ((q_lushr x1 1) &&& 6148914691236517205)) &&& 3689348814741910323) + ((q_lushr (x1 - ((q_lushr x1 1) &&& 6148914691236517205)) 2) &&& 3689348814741910323)) 4)) &&& 1085102592571150095) 8)) 16)) 32))) 127)
set_option maxHeartbeats 4000000 in
set_option maxRecDepth 100000 in
theorem c_Long_bitCount (l : Launch) {b n : Nat} {C : CT} (hlo : 0 ≤ n) (M : Mem) (x1 : Int64)  (res : Int) (hT : t_Long_bitCount M x1 = res) : CM l b C n 0 y_Long_bitCount b_Long_bitCount 2 (some .int) [.long x1] M (QI b C n M res) := by
  refine CM.of (lo := 0) (ow := "java/lang/Long") (by decide) rfl (Nat.le_of_ble_eq_true rfl) hlo (fun p e s m below meth c F hlk hr hS ls hl => ?_)
  have hl : lv_has ls 2 [(0, .long x1)] := hl
  unfold t_Long_bitCount at hT
  refine lv_lload_n F.hx F.hb d_Long_bitCount_0 rfl (lv_at hl 0 rfl) ?_
  refine lv_lload_n F.hx F.hb d_Long_bitCount_1 rfl (lv_at hl 0 rfl) ?_
  refine r_iconst F.hx F.hb d_Long_bitCount_2 ?_
  refine r_lushr F.hx F.hb d_Long_bitCount_3 ?_
  refine lv_ldc2 (v := 6148914691236517205) F.hx F.hb F.hown (F.hts mw_764) d_Long_bitCount_4 ?_
  refine lv_land F.hx F.hb d_Long_bitCount_7 ?_
  refine lv_lsub F.hx F.hb d_Long_bitCount_8 ?_
  refine lv_lstore_n (lv' := [(0, .long (x1 - ((q_lushr x1 1) &&& 6148914691236517205)))]) F.hx F.hb d_Long_bitCount_9 rfl hl (Nat.le_of_ble_eq_true rfl) rfl (fun ls hl => ?_)
  refine lv_lload_n F.hx F.hb d_Long_bitCount_10 rfl (lv_at hl 0 rfl) ?_
  refine lv_ldc2 (v := 3689348814741910323) F.hx F.hb F.hown (F.hts mw_765) d_Long_bitCount_11 ?_
  refine lv_land F.hx F.hb d_Long_bitCount_14 ?_
  refine lv_lload_n F.hx F.hb d_Long_bitCount_15 rfl (lv_at hl 0 rfl) ?_
  refine r_iconst F.hx F.hb d_Long_bitCount_16 ?_
  refine r_lushr F.hx F.hb d_Long_bitCount_17 ?_
  refine lv_ldc2 (v := 3689348814741910323) F.hx F.hb F.hown (F.hts mw_765) d_Long_bitCount_18 ?_
  refine lv_land F.hx F.hb d_Long_bitCount_21 ?_
  refine lv_ladd F.hx F.hb d_Long_bitCount_22 ?_
  refine lv_lstore_n (lv' := [(0, .long (((x1 - ((q_lushr x1 1) &&& 6148914691236517205)) &&& 3689348814741910323) + ((q_lushr (x1 - ((q_lushr x1 1) &&& 6148914691236517205)) 2) &&& 3689348814741910323)))]) F.hx F.hb d_Long_bitCount_23 rfl hl (Nat.le_of_ble_eq_true rfl) rfl (fun ls hl => ?_)
  refine lv_lload_n F.hx F.hb d_Long_bitCount_24 rfl (lv_at hl 0 rfl) ?_
  refine lv_lload_n F.hx F.hb d_Long_bitCount_25 rfl (lv_at hl 0 rfl) ?_
  refine r_iconst F.hx F.hb d_Long_bitCount_26 ?_
  refine r_lushr F.hx F.hb d_Long_bitCount_27 ?_
  refine lv_ladd F.hx F.hb d_Long_bitCount_28 ?_
  refine lv_ldc2 (v := 1085102592571150095) F.hx F.hb F.hown (F.hts mw_766) d_Long_bitCount_29 ?_
  refine lv_land F.hx F.hb d_Long_bitCount_32 ?_
  refine lv_lstore_n (lv' := [(0, .long (((((x1 - ((q_lushr x1 1) &&& 6148914691236517205)) &&& 3689348814741910323) + ((q_lushr (x1 - ((q_lushr x1 1) &&& 6148914691236517205)) 2) &&& 3689348814741910323)) + (q_lushr (((x1 - ((q_lushr x1 1) &&& 6148914691236517205)) &&& 3689348814741910323) + ((q_lushr (x1 - ((q_lushr x1 1) &&& 6148914691236517205)) 2) &&& 3689348814741910323)) 4)) &&& 1085102592571150095))]) F.hx F.hb d_Long_bitCount_33 rfl hl (Nat.le_of_ble_eq_true rfl) rfl (fun ls hl => ?_)
  refine lv_lload_n F.hx F.hb d_Long_bitCount_34 rfl (lv_at hl 0 rfl) ?_
  refine lv_lload_n F.hx F.hb d_Long_bitCount_35 rfl (lv_at hl 0 rfl) ?_
  refine r_bipush F.hx F.hb d_Long_bitCount_36 rfl ?_
  refine r_lushr F.hx F.hb d_Long_bitCount_38 ?_
  refine lv_ladd F.hx F.hb d_Long_bitCount_39 ?_
  refine lv_lstore_n (lv' := [(0, .long ((((((x1 - ((q_lushr x1 1) &&& 6148914691236517205)) &&& 3689348814741910323) + ((q_lushr (x1 - ((q_lushr x1 1) &&& 6148914691236517205)) 2) &&& 3689348814741910323)) + (q_lushr (((x1 - ((q_lushr x1 1) &&& 6148914691236517205)) &&& 3689348814741910323) + ((q_lushr (x1 - ((q_lushr x1 1) &&& 6148914691236517205)) 2) &&& 3689348814741910323)) 4)) &&& 1085102592571150095) + (q_lushr (((((x1 - ((q_lushr x1 1) &&& 6148914691236517205)) &&& 3689348814741910323) + ((q_lushr (x1 - ((q_lushr x1 1) &&& 6148914691236517205)) 2) &&& 3689348814741910323)) + (q_lushr (((x1 - ((q_lushr x1 1) &&& 6148914691236517205)) &&& 3689348814741910323) + ((q_lushr (x1 - ((q_lushr x1 1) &&& 6148914691236517205)) 2) &&& 3689348814741910323)) 4)) &&& 1085102592571150095) 8)))]) F.hx F.hb d_Long_bitCount_40 rfl hl (Nat.le_of_ble_eq_true rfl) rfl (fun ls hl => ?_)
  refine lv_lload_n F.hx F.hb d_Long_bitCount_41 rfl (lv_at hl 0 rfl) ?_
  refine lv_lload_n F.hx F.hb d_Long_bitCount_42 rfl (lv_at hl 0 rfl) ?_
  refine r_bipush F.hx F.hb d_Long_bitCount_43 rfl ?_
  refine r_lushr F.hx F.hb d_Long_bitCount_45 ?_
  refine lv_ladd F.hx F.hb d_Long_bitCount_46 ?_
  refine lv_lstore_n (lv' := [(0, .long (((((((x1 - ((q_lushr x1 1) &&& 6148914691236517205)) &&& 3689348814741910323) + ((q_lushr (x1 - ((q_lushr x1 1) &&& 6148914691236517205)) 2) &&& 3689348814741910323)) + (q_lushr (((x1 - ((q_lushr x1 1) &&& 6148914691236517205)) &&& 3689348814741910323) + ((q_lushr (x1 - ((q_lushr x1 1) &&& 6148914691236517205)) 2) &&& 3689348814741910323)) 4)) &&& 1085102592571150095) + (q_lushr (((((x1 - ((q_lushr x1 1) &&& 6148914691236517205)) &&& 3689348814741910323) + ((q_lushr (x1 - ((q_lushr x1 1) &&& 6148914691236517205)) 2) &&& 3689348814741910323)) + (q_lushr (((x1 - ((q_lushr x1 1) &&& 6148914691236517205)) &&& 3689348814741910323) + ((q_lushr (x1 - ((q_lushr x1 1) &&& 6148914691236517205)) 2) &&& 3689348814741910323)) 4)) &&& 1085102592571150095) 8)) + (q_lushr ((((((x1 - ((q_lushr x1 1) &&& 6148914691236517205)) &&& 3689348814741910323) + ((q_lushr (x1 - ((q_lushr x1 1) &&& 6148914691236517205)) 2) &&& 3689348814741910323)) + (q_lushr (((x1 - ((q_lushr x1 1) &&& 6148914691236517205)) &&& 3689348814741910323) + ((q_lushr (x1 - ((q_lushr x1 1) &&& 6148914691236517205)) 2) &&& 3689348814741910323)) 4)) &&& 1085102592571150095) + (q_lushr (((((x1 - ((q_lushr x1 1) &&& 6148914691236517205)) &&& 3689348814741910323) + ((q_lushr (x1 - ((q_lushr x1 1) &&& 6148914691236517205)) 2) &&& 3689348814741910323)) + (q_lushr (((x1 - ((q_lushr x1 1) &&& 6148914691236517205)) &&& 3689348814741910323) + ((q_lushr (x1 - ((q_lushr x1 1) &&& 6148914691236517205)) 2) &&& 3689348814741910323)) 4)) &&& 1085102592571150095) 8)) 16)))]) F.hx F.hb d_Long_bitCount_47 rfl hl (Nat.le_of_ble_eq_true rfl) rfl (fun ls hl => ?_)
  refine lv_lload_n F.hx F.hb d_Long_bitCount_48 rfl (lv_at hl 0 rfl) ?_
  refine lv_lload_n F.hx F.hb d_Long_bitCount_49 rfl (lv_at hl 0 rfl) ?_
  refine r_bipush F.hx F.hb d_Long_bitCount_50 rfl ?_
  refine r_lushr F.hx F.hb d_Long_bitCount_52 ?_
  refine lv_ladd F.hx F.hb d_Long_bitCount_53 ?_
  refine lv_lstore_n (lv' := [(0, .long ((((((((x1 - ((q_lushr x1 1) &&& 6148914691236517205)) &&& 3689348814741910323) + ((q_lushr (x1 - ((q_lushr x1 1) &&& 6148914691236517205)) 2) &&& 3689348814741910323)) + (q_lushr (((x1 - ((q_lushr x1 1) &&& 6148914691236517205)) &&& 3689348814741910323) + ((q_lushr (x1 - ((q_lushr x1 1) &&& 6148914691236517205)) 2) &&& 3689348814741910323)) 4)) &&& 1085102592571150095) + (q_lushr (((((x1 - ((q_lushr x1 1) &&& 6148914691236517205)) &&& 3689348814741910323) + ((q_lushr (x1 - ((q_lushr x1 1) &&& 6148914691236517205)) 2) &&& 3689348814741910323)) + (q_lushr (((x1 - ((q_lushr x1 1) &&& 6148914691236517205)) &&& 3689348814741910323) + ((q_lushr (x1 - ((q_lushr x1 1) &&& 6148914691236517205)) 2) &&& 3689348814741910323)) 4)) &&& 1085102592571150095) 8)) + (q_lushr ((((((x1 - ((q_lushr x1 1) &&& 6148914691236517205)) &&& 3689348814741910323) + ((q_lushr (x1 - ((q_lushr x1 1) &&& 6148914691236517205)) 2) &&& 3689348814741910323)) + (q_lushr (((x1 - ((q_lushr x1 1) &&& 6148914691236517205)) &&& 3689348814741910323) + ((q_lushr (x1 - ((q_lushr x1 1) &&& 6148914691236517205)) 2) &&& 3689348814741910323)) 4)) &&& 1085102592571150095) + (q_lushr (((((x1 - ((q_lushr x1 1) &&& 6148914691236517205)) &&& 3689348814741910323) + ((q_lushr (x1 - ((q_lushr x1 1) &&& 6148914691236517205)) 2) &&& 3689348814741910323)) + (q_lushr (((x1 - ((q_lushr x1 1) &&& 6148914691236517205)) &&& 3689348814741910323) + ((q_lushr (x1 - ((q_lushr x1 1) &&& 6148914691236517205)) 2) &&& 3689348814741910323)) 4)) &&& 1085102592571150095) 8)) 16)) + (q_lushr (((((((x1 - ((q_lushr x1 1) &&& 6148914691236517205)) &&& 3689348814741910323) + ((q_lushr (x1 - ((q_lushr x1 1) &&& 6148914691236517205)) 2) &&& 3689348814741910323)) + (q_lushr (((x1 - ((q_lushr x1 1) &&& 6148914691236517205)) &&& 3689348814741910323) + ((q_lushr (x1 - ((q_lushr x1 1) &&& 6148914691236517205)) 2) &&& 3689348814741910323)) 4)) &&& 1085102592571150095) + (q_lushr (((((x1 - ((q_lushr x1 1) &&& 6148914691236517205)) &&& 3689348814741910323) + ((q_lushr (x1 - ((q_lushr x1 1) &&& 6148914691236517205)) 2) &&& 3689348814741910323)) + (q_lushr (((x1 - ((q_lushr x1 1) &&& 6148914691236517205)) &&& 3689348814741910323) + ((q_lushr (x1 - ((q_lushr x1 1) &&& 6148914691236517205)) 2) &&& 3689348814741910323)) 4)) &&& 1085102592571150095) 8)) + (q_lushr ((((((x1 - ((q_lushr x1 1) &&& 6148914691236517205)) &&& 3689348814741910323) + ((q_lushr (x1 - ((q_lushr x1 1) &&& 6148914691236517205)) 2) &&& 3689348814741910323)) + (q_lushr (((x1 - ((q_lushr x1 1) &&& 6148914691236517205)) &&& 3689348814741910323) + ((q_lushr (x1 - ((q_lushr x1 1) &&& 6148914691236517205)) 2) &&& 3689348814741910323)) 4)) &&& 1085102592571150095) + (q_lushr (((((x1 - ((q_lushr x1 1) &&& 6148914691236517205)) &&& 3689348814741910323) + ((q_lushr (x1 - ((q_lushr x1 1) &&& 6148914691236517205)) 2) &&& 3689348814741910323)) + (q_lushr (((x1 - ((q_lushr x1 1) &&& 6148914691236517205)) &&& 3689348814741910323) + ((q_lushr (x1 - ((q_lushr x1 1) &&& 6148914691236517205)) 2) &&& 3689348814741910323)) 4)) &&& 1085102592571150095) 8)) 16)) 32)))]) F.hx F.hb d_Long_bitCount_54 rfl hl (Nat.le_of_ble_eq_true rfl) rfl (fun ls hl => ?_)
  refine lv_lload_n F.hx F.hb d_Long_bitCount_55 rfl (lv_at hl 0 rfl) ?_
  refine r_l2i F.hx F.hb d_Long_bitCount_56 ?_
  refine r_bipush F.hx F.hb d_Long_bitCount_57 rfl ?_
  refine r_iand F.hx F.hb d_Long_bitCount_59 ?_
  subst hT
  exact r_iret F hlk hr rfl hS (q_inr_toInt _) d_Long_bitCount_60
theorem d_Reader_takeCell_0 : decode b_Reader_takeCell 0 = .ok (.aload_n 0, 1) := dc_42 (by decide +kernel)
theorem d_Reader_takeCell_1 : decode b_Reader_takeCell 1 = .ok (.iconst 0, 1) := dc_3 (by decide +kernel)
theorem d_Reader_takeCell_2 : decode b_Reader_takeCell 2 = .ok (.aload_n 1, 1) := dc_43 (by decide +kernel)
theorem d_Reader_takeCell_3 : decode b_Reader_takeCell 3 = .ok (.getfield 101, 3) := dc_180 (by decide +kernel)
theorem d_Reader_takeCell_6 : decode b_Reader_takeCell 6 = .ok (.iconst 1, 1) := dc_4 (by decide +kernel)
theorem d_Reader_takeCell_7 : decode b_Reader_takeCell 7 = .ok (.isub, 1) := dc_100 (by decide +kernel)
theorem d_Reader_takeCell_8 : decode b_Reader_takeCell 8 = .ok (.invokevirtual 97, 3) := dc_182 (by decide +kernel)
theorem d_Reader_takeCell_11 : decode b_Reader_takeCell 11 = .ok (.istore_n 2, 1) := dc_61 (by decide +kernel)
theorem d_Reader_takeCell_12 : decode b_Reader_takeCell 12 = .ok (.iload_n 2, 1) := dc_28 (by decide +kernel)
theorem d_Reader_takeCell_13 : decode b_Reader_takeCell 13 = .ok (.ifCond .ge 7, 3) := dc_156 (by decide +kernel)
theorem d_Reader_takeCell_16 : decode b_Reader_takeCell 16 = .ok (.iconst (-1), 1) := dc_2 (by decide +kernel)
theorem d_Reader_takeCell_17 : decode b_Reader_takeCell 17 = .ok (.goto 14, 3) := dc_167 (by decide +kernel)
theorem d_Reader_takeCell_20 : decode b_Reader_takeCell 20 = .ok (.aload_n 0, 1) := dc_42 (by decide +kernel)
theorem d_Reader_takeCell_21 : decode b_Reader_takeCell 21 = .ok (.iconst 0, 1) := dc_3 (by decide +kernel)
theorem d_Reader_takeCell_22 : decode b_Reader_takeCell 22 = .ok (.aload_n 1, 1) := dc_43 (by decide +kernel)
theorem d_Reader_takeCell_23 : decode b_Reader_takeCell 23 = .ok (.getfield 104, 3) := dc_180 (by decide +kernel)
theorem d_Reader_takeCell_26 : decode b_Reader_takeCell 26 = .ok (.iconst 1, 1) := dc_4 (by decide +kernel)
theorem d_Reader_takeCell_27 : decode b_Reader_takeCell 27 = .ok (.isub, 1) := dc_100 (by decide +kernel)
theorem d_Reader_takeCell_28 : decode b_Reader_takeCell 28 = .ok (.invokevirtual 97, 3) := dc_182 (by decide +kernel)
theorem d_Reader_takeCell_31 : decode b_Reader_takeCell 31 = .ok (.istore_n 3, 1) := dc_62 (by decide +kernel)
theorem d_Reader_takeCell_32 : decode b_Reader_takeCell 32 = .ok (.iload_n 3, 1) := dc_29 (by decide +kernel)
theorem d_Reader_takeCell_33 : decode b_Reader_takeCell 33 = .ok (.ifCond .ge 7, 3) := dc_156 (by decide +kernel)
theorem d_Reader_takeCell_36 : decode b_Reader_takeCell 36 = .ok (.iconst (-1), 1) := dc_2 (by decide +kernel)
theorem d_Reader_takeCell_37 : decode b_Reader_takeCell 37 = .ok (.goto 11, 3) := dc_167 (by decide +kernel)
theorem d_Reader_takeCell_40 : decode b_Reader_takeCell 40 = .ok (.iload_n 3, 1) := dc_29 (by decide +kernel)
theorem d_Reader_takeCell_41 : decode b_Reader_takeCell 41 = .ok (.aload_n 1, 1) := dc_43 (by decide +kernel)
theorem d_Reader_takeCell_42 : decode b_Reader_takeCell 42 = .ok (.getfield 101, 3) := dc_180 (by decide +kernel)
theorem d_Reader_takeCell_45 : decode b_Reader_takeCell 45 = .ok (.imul, 1) := dc_104 (by decide +kernel)
theorem d_Reader_takeCell_46 : decode b_Reader_takeCell 46 = .ok (.iload_n 2, 1) := dc_28 (by decide +kernel)
theorem d_Reader_takeCell_47 : decode b_Reader_takeCell 47 = .ok (.iadd, 1) := dc_96 (by decide +kernel)
theorem d_Reader_takeCell_48 : decode b_Reader_takeCell 48 = .ok (.ireturn, 1) := dc_172 (by decide +kernel)
def t_Reader_takeCell_L31 (k1 : Nat)  (M : Mem) (v1_ : Int) (v2_ : Int) : Option (Mem × Int) := (if 0 ≤ v2_ then (some (M, (w32 ((w32 (v2_ * (M.1 k1 11))) + v1_)))) else (some (M, (-1))))
def t_Reader_takeCell (M : Mem) (k1 : Nat) : Option (Mem × Int) := (obind (t_Reader_takeNumber M 0 (w32 ((M.1 k1 11) - 1))) fun q2 => (if 0 ≤ (q2.2) then (obind (t_Reader_takeNumber (q2.1) 0 (w32 (((q2.1).1 k1 12) - 1))) fun q6 => (t_Reader_takeCell_L31 k1 (q6.1) (q2.2) (q6.2))) else (t_Reader_takeCell_L31 k1 (q2.1) (q2.2) (-1))))
set_option maxHeartbeats 4000000 in
set_option maxRecDepth 100000 in
theorem k_Reader_takeCell_L31 (l : Launch) {p : Program} {e : Env} {s : State} {m : MethodId} {below : List Frame} {meth : Method} {c : Code} {b n : Nat} {C : CT} (hlo : 191 ≤ n) (k1 : Nat) (hk1 : isTown k1) (F : Cx b p m c b_Reader_takeCell 4 s ([.ref (b + 46), .ref (b + k1)] : List Value).toArray "WardFalls$Reader" C n 191) (hlk : meth.locks = false) (hr : meth.sig.returnType = some .int) {res : Mem × Int} (M : Mem) (v1_ : Int) (hv1_ : InR v1_) (v2_ : Int) (hv2_ : InR v2_) (H : Heap) (locs : List Loc) (ls : Array Slot) (hS : St b C n M s H locs) (hl : lv_has ls 4 [(1, .ref (b + k1)), (2, vI v1_)]) (hT : t_Reader_takeCell_L31 k1 M v1_ v2_ = some res) : W p l e (headSpec (wsM y_Reader_takeCell b_Reader_takeCell 4 (some .int)) (rmD 4)).room s m ([.ref (b + 46), .ref (b + k1)] : List Value).toArray below meth c H locs 0 0 (MQ below (QI b C n res.1 res.2) ([.ref (b + 46), .ref (b + k1)] : List Value).toArray s 0 0 (frb b)) (F0 m 31 ls [vI v2_]) := by
  unfold t_Reader_takeCell_L31 at hT
  refine lv_istore_n (lv' := [(3, vI v2_), (1, .ref (b + k1)), (2, vI v1_)]) F.hx F.hb d_Reader_takeCell_31 rfl hl (Nat.le_of_ble_eq_true rfl) rfl (fun ls hl => ?_)
  refine lv_iload_n F.hx F.hb d_Reader_takeCell_32 rfl (lv_at hl 0 rfl) ?_
  refine r_if_ge (tgt := 40) F.hx F.hb hv2_ d_Reader_takeCell_33 (by decide) (fun c8 => ?_) (fun c8 => ?_)
  · replace hT := (if_pos c8).symm.trans hT
    refine lv_iload_n F.hx F.hb d_Reader_takeCell_40 rfl (lv_at hl 0 rfl) ?_
    refine lv_aload_n F.hx F.hb d_Reader_takeCell_41 rfl (lv_at hl 1 rfl) ?_
    refine r_get (v := vI (M.1 k1 11)) (N := 20) (T := T11) (j := 11) F hS (Town_lt hk1) (Town_sh hk1) (Town_N hk1) rfl (Nat.le_of_ble_eq_true rfl) ing11 mw_122 (fv_int rfl) d_Reader_takeCell_42 ?_
    have i9 := hS.rng k1 11
    refine r_imul F.hx F.hb d_Reader_takeCell_45 ?_
    refine lv_iload_n F.hx F.hb d_Reader_takeCell_46 rfl (lv_at hl 2 rfl) ?_
    refine r_iadd F.hx F.hb d_Reader_takeCell_47 ?_
    cases hT
    exact r_iret F hlk hr rfl hS (inr_w32 _) d_Reader_takeCell_48
  · replace hT := (if_neg c8).symm.trans hT
    refine r_iconst F.hx F.hb d_Reader_takeCell_36 ?_
    refine lv_goto (tgt := 48) F.hx F.hb d_Reader_takeCell_37 (by decide) ?_
    cases hT
    exact r_iret F hlk hr rfl hS (inr_c rfl) d_Reader_takeCell_48
set_option maxHeartbeats 4000000 in
set_option maxRecDepth 100000 in
theorem c_Reader_takeCell (l : Launch) {b n : Nat} {C : CT} (hlo : 191 ≤ n) (M : Mem) (k1 : Nat) (hk1 : isTown k1) (res : Mem × Int) (hT : t_Reader_takeCell M k1 = some res) : CM l b C n 4 y_Reader_takeCell b_Reader_takeCell 4 (some .int) [.ref (b + 46), .ref (b + k1)] M (QI b C n res.1 res.2) := by
  refine CM.of (lo := 191) (ow := "WardFalls$Reader") (by decide) rfl (Nat.le_of_ble_eq_true rfl) hlo (fun p e s m below meth c F hlk hr hS ls hl => ?_)
  have hl : lv_has ls 4 [(0, .ref (b + 46)), (1, .ref (b + k1))] := hl
  unfold t_Reader_takeCell at hT
  refine lv_aload_n F.hx F.hb d_Reader_takeCell_0 rfl (lv_at hl 0 rfl) ?_
  refine r_iconst F.hx F.hb d_Reader_takeCell_1 ?_
  refine lv_aload_n F.hx F.hb d_Reader_takeCell_2 rfl (lv_at hl 1 rfl) ?_
  refine r_get (v := vI (M.1 k1 11)) (N := 20) (T := T11) (j := 11) F hS (Town_lt hk1) (Town_sh hk1) (Town_N hk1) rfl (Nat.le_of_ble_eq_true rfl) ing11 mw_122 (fv_int rfl) d_Reader_takeCell_3 ?_
  have i1 := hS.rng k1 11
  refine r_iconst F.hx F.hb d_Reader_takeCell_6 ?_
  refine r_isub F.hx F.hb d_Reader_takeCell_7 ?_
  obtain ⟨q2, hq2, hT⟩ := q_obind hT
  refine r_backI F hS (r_runV (k := 46) (N := 11) (T := T8) (As := [vI 0, vI (w32 ((M.1 k1 11) - 1))]) F hS (show 46 < 191 by decide) (show shK 46 = 12 from rfl) rfl (c_Reader_takeNumber l F.2.2.1 M 0 (w32 ((M.1 k1 11) - 1)) (inr_c rfl) (inr_w32 _) _ hq2) gs_Reader_97 hd_Reader_takeNumber ⟨Nat.le_of_ble_eq_true rfl, Nat.le_of_ble_eq_true rfl⟩ rfl hl.1 (Nat.le_of_ble_eq_true rfl) ⟨Nat.zero_le _, Nat.zero_le _⟩ rfl d_Reader_takeCell_8) (fun H locs hS h3 => ?_)
  refine lv_istore_n (lv' := [(2, vI (q2.2)), (0, .ref (b + 46)), (1, .ref (b + k1))]) F.hx F.hb d_Reader_takeCell_11 rfl hl (Nat.le_of_ble_eq_true rfl) rfl (fun ls hl => ?_)
  refine lv_iload_n F.hx F.hb d_Reader_takeCell_12 rfl (lv_at hl 0 rfl) ?_
  refine r_if_ge (tgt := 20) F.hx F.hb h3 d_Reader_takeCell_13 (by decide) (fun c4 => ?_) (fun c4 => ?_)
  · replace hT := (if_pos c4).symm.trans hT
    refine lv_aload_n F.hx F.hb d_Reader_takeCell_20 rfl (lv_at hl 1 rfl) ?_
    refine r_iconst F.hx F.hb d_Reader_takeCell_21 ?_
    refine lv_aload_n F.hx F.hb d_Reader_takeCell_22 rfl (lv_at hl 2 rfl) ?_
    refine r_get (v := vI ((q2.1).1 k1 12)) (N := 20) (T := T11) (j := 12) F hS (Town_lt hk1) (Town_sh hk1) (Town_N hk1) rfl (Nat.le_of_ble_eq_true rfl) ing11 mw_125 (fv_int rfl) d_Reader_takeCell_23 ?_
    have i5 := hS.rng k1 12
    refine r_iconst F.hx F.hb d_Reader_takeCell_26 ?_
    refine r_isub F.hx F.hb d_Reader_takeCell_27 ?_
    obtain ⟨q6, hq6, hT⟩ := q_obind hT
    refine r_backI F hS (r_runV (k := 46) (N := 11) (T := T8) (As := [vI 0, vI (w32 (((q2.1).1 k1 12) - 1))]) F hS (show 46 < 191 by decide) (show shK 46 = 12 from rfl) rfl (c_Reader_takeNumber l F.2.2.1 (q2.1) 0 (w32 (((q2.1).1 k1 12) - 1)) (inr_c rfl) (inr_w32 _) _ hq6) gs_Reader_97 hd_Reader_takeNumber ⟨Nat.le_of_ble_eq_true rfl, Nat.le_of_ble_eq_true rfl⟩ rfl hl.1 (Nat.le_of_ble_eq_true rfl) ⟨Nat.zero_le _, Nat.zero_le _⟩ rfl d_Reader_takeCell_28) (fun H locs hS h7 => ?_)
    exact k_Reader_takeCell_L31 l hlo k1 hk1 F hlk hr (q6.1) (q2.2) h3 (q6.2) h7 _ _ _ hS (lv_sub hl [2, 0] rfl) hT
  · replace hT := (if_neg c4).symm.trans hT
    refine r_iconst F.hx F.hb d_Reader_takeCell_16 ?_
    refine lv_goto (tgt := 31) F.hx F.hb d_Reader_takeCell_17 (by decide) ?_
    exact k_Reader_takeCell_L31 l hlo k1 hk1 F hlk hr (q2.1) (q2.2) h3 (-1) (inr_c rfl) _ _ _ hS (lv_sub hl [2, 0] rfl) hT
theorem d_WF_bitOf_0 : decode b_WF_bitOf 0 = .ok (.lload_n 0, 1) := dc_30 (by decide +kernel)
theorem d_WF_bitOf_1 : decode b_WF_bitOf 1 = .ok (.iload_n 2, 1) := dc_28 (by decide +kernel)
theorem d_WF_bitOf_2 : decode b_WF_bitOf 2 = .ok (.lushr, 1) := dc_125 (by decide +kernel)
theorem d_WF_bitOf_3 : decode b_WF_bitOf 3 = .ok (.lconst 1, 1) := dc_10 (by decide +kernel)
theorem d_WF_bitOf_4 : decode b_WF_bitOf 4 = .ok (.land, 1) := dc_127 (by decide +kernel)
theorem d_WF_bitOf_5 : decode b_WF_bitOf 5 = .ok (.l2i, 1) := dc_136 (by decide +kernel)
theorem d_WF_bitOf_6 : decode b_WF_bitOf 6 = .ok (.ireturn, 1) := dc_172 (by decide +kernel)
def t_WF_bitOf (M : Mem) (x1 : Int64) (x2 : Int) : Int := (q_l2i ((q_lushr x1 x2) &&& 1))
set_option maxHeartbeats 4000000 in
set_option maxRecDepth 100000 in
theorem c_WF_bitOf (l : Launch) {b n : Nat} {C : CT} (hlo : 191 ≤ n) (M : Mem) (x1 : Int64) (x2 : Int) (hx2 : InR x2) (res : Int) (hT : t_WF_bitOf M x1 x2 = res) : CM l b C n 0 y_WF_bitOf b_WF_bitOf 3 (some .int) [.long x1, vI x2] M (QI b C n M res) := by
  refine CM.of (lo := 191) (ow := "WardFalls") (by decide) rfl (Nat.le_of_ble_eq_true rfl) hlo (fun p e s m below meth c F hlk hr hS ls hl => ?_)
  have hl : lv_has ls 3 [(0, .long x1), (2, vI x2)] := hl
  unfold t_WF_bitOf at hT
  refine lv_lload_n F.hx F.hb d_WF_bitOf_0 rfl (lv_at hl 0 rfl) ?_
  refine lv_iload_n F.hx F.hb d_WF_bitOf_1 rfl (lv_at hl 1 rfl) ?_
  refine r_lushr F.hx F.hb d_WF_bitOf_2 ?_
  refine lv_lconst (v := 1) F.hx F.hb d_WF_bitOf_3 rfl ?_
  refine lv_land F.hx F.hb d_WF_bitOf_4 ?_
  refine r_l2i F.hx F.hb d_WF_bitOf_5 ?_
  subst hT
  exact r_iret F hlk hr rfl hS (q_inr_toInt _) d_WF_bitOf_6
theorem d_Reader_readWall_0 : decode b_Reader_readWall 0 = .ok (.aload_n 1, 1) := dc_43 (by decide +kernel)
theorem d_Reader_readWall_1 : decode b_Reader_readWall 1 = .ok (.getfield 84, 3) := dc_180 (by decide +kernel)
theorem d_Reader_readWall_4 : decode b_Reader_readWall 4 = .ok (.invokestatic 144, 3) := dc_184 (by decide +kernel)
theorem d_Reader_readWall_7 : decode b_Reader_readWall 7 = .ok (.bipush 12, 2) := dc_16 (by decide +kernel)
theorem d_Reader_readWall_9 : decode b_Reader_readWall 9 = .ok (.if_icmp .lt 13, 3) := dc_161 (by decide +kernel)
theorem d_Reader_readWall_12 : decode b_Reader_readWall 12 = .ok (.aload_n 0, 1) := dc_42 (by decide +kernel)
theorem d_Reader_readWall_13 : decode b_Reader_readWall 13 = .ok (.iconst 2, 1) := dc_5 (by decide +kernel)
theorem d_Reader_readWall_14 : decode b_Reader_readWall 14 = .ok (.aload_n 0, 1) := dc_42 (by decide +kernel)
theorem d_Reader_readWall_15 : decode b_Reader_readWall 15 = .ok (.getfield 44, 3) := dc_180 (by decide +kernel)
theorem d_Reader_readWall_18 : decode b_Reader_readWall 18 = .ok (.invokevirtual 47, 3) := dc_182 (by decide +kernel)
theorem d_Reader_readWall_21 : decode b_Reader_readWall 21 = .ok (.ireturn, 1) := dc_172 (by decide +kernel)
theorem d_Reader_readWall_22 : decode b_Reader_readWall 22 = .ok (.aload_n 0, 1) := dc_42 (by decide +kernel)
theorem d_Reader_readWall_23 : decode b_Reader_readWall 23 = .ok (.aload_n 0, 1) := dc_42 (by decide +kernel)
theorem d_Reader_readWall_24 : decode b_Reader_readWall 24 = .ok (.getfield 94, 3) := dc_180 (by decide +kernel)
theorem d_Reader_readWall_27 : decode b_Reader_readWall 27 = .ok (.iconst 1, 1) := dc_4 (by decide +kernel)
theorem d_Reader_readWall_28 : decode b_Reader_readWall 28 = .ok (.iadd, 1) := dc_96 (by decide +kernel)
theorem d_Reader_readWall_29 : decode b_Reader_readWall 29 = .ok (.invokevirtual 80, 3) := dc_182 (by decide +kernel)
theorem d_Reader_readWall_32 : decode b_Reader_readWall 32 = .ok (.aload_n 0, 1) := dc_42 (by decide +kernel)
theorem d_Reader_readWall_33 : decode b_Reader_readWall 33 = .ok (.aload_n 1, 1) := dc_43 (by decide +kernel)
theorem d_Reader_readWall_34 : decode b_Reader_readWall 34 = .ok (.invokevirtual 150, 3) := dc_182 (by decide +kernel)
theorem d_Reader_readWall_37 : decode b_Reader_readWall 37 = .ok (.istore_n 2, 1) := dc_61 (by decide +kernel)
theorem d_Reader_readWall_38 : decode b_Reader_readWall 38 = .ok (.iload_n 2, 1) := dc_28 (by decide +kernel)
theorem d_Reader_readWall_39 : decode b_Reader_readWall 39 = .ok (.ifCond .ge 5, 3) := dc_156 (by decide +kernel)
theorem d_Reader_readWall_42 : decode b_Reader_readWall 42 = .ok (.iconst 0, 1) := dc_3 (by decide +kernel)
theorem d_Reader_readWall_43 : decode b_Reader_readWall 43 = .ok (.ireturn, 1) := dc_172 (by decide +kernel)
theorem d_Reader_readWall_44 : decode b_Reader_readWall 44 = .ok (.aload_n 1, 1) := dc_43 (by decide +kernel)
theorem d_Reader_readWall_45 : decode b_Reader_readWall 45 = .ok (.getfield 84, 3) := dc_180 (by decide +kernel)
theorem d_Reader_readWall_48 : decode b_Reader_readWall 48 = .ok (.iload_n 2, 1) := dc_28 (by decide +kernel)
theorem d_Reader_readWall_49 : decode b_Reader_readWall 49 = .ok (.invokestatic 154, 3) := dc_184 (by decide +kernel)
theorem d_Reader_readWall_52 : decode b_Reader_readWall 52 = .ok (.iconst 1, 1) := dc_4 (by decide +kernel)
theorem d_Reader_readWall_53 : decode b_Reader_readWall 53 = .ok (.if_icmp .ne 13, 3) := dc_160 (by decide +kernel)
theorem d_Reader_readWall_56 : decode b_Reader_readWall 56 = .ok (.aload_n 0, 1) := dc_42 (by decide +kernel)
theorem d_Reader_readWall_57 : decode b_Reader_readWall 57 = .ok (.iconst 3, 1) := dc_6 (by decide +kernel)
theorem d_Reader_readWall_58 : decode b_Reader_readWall 58 = .ok (.aload_n 0, 1) := dc_42 (by decide +kernel)
theorem d_Reader_readWall_59 : decode b_Reader_readWall 59 = .ok (.getfield 138, 3) := dc_180 (by decide +kernel)
theorem d_Reader_readWall_62 : decode b_Reader_readWall 62 = .ok (.invokevirtual 47, 3) := dc_182 (by decide +kernel)
theorem d_Reader_readWall_65 : decode b_Reader_readWall 65 = .ok (.ireturn, 1) := dc_172 (by decide +kernel)
theorem d_Reader_readWall_66 : decode b_Reader_readWall 66 = .ok (.aload_n 1, 1) := dc_43 (by decide +kernel)
theorem d_Reader_readWall_67 : decode b_Reader_readWall 67 = .ok (.getfield 88, 3) := dc_180 (by decide +kernel)
theorem d_Reader_readWall_70 : decode b_Reader_readWall 70 = .ok (.iload_n 2, 1) := dc_28 (by decide +kernel)
theorem d_Reader_readWall_71 : decode b_Reader_readWall 71 = .ok (.invokestatic 154, 3) := dc_184 (by decide +kernel)
theorem d_Reader_readWall_74 : decode b_Reader_readWall 74 = .ok (.iconst 1, 1) := dc_4 (by decide +kernel)
theorem d_Reader_readWall_75 : decode b_Reader_readWall 75 = .ok (.if_icmp .eq 18, 3) := dc_159 (by decide +kernel)
theorem d_Reader_readWall_78 : decode b_Reader_readWall 78 = .ok (.aload_n 1, 1) := dc_43 (by decide +kernel)
theorem d_Reader_readWall_79 : decode b_Reader_readWall 79 = .ok (.getfield 158, 3) := dc_180 (by decide +kernel)
theorem d_Reader_readWall_82 : decode b_Reader_readWall 82 = .ok (.aload_n 1, 1) := dc_43 (by decide +kernel)
theorem d_Reader_readWall_83 : decode b_Reader_readWall 83 = .ok (.getfield 91, 3) := dc_180 (by decide +kernel)
theorem d_Reader_readWall_86 : decode b_Reader_readWall 86 = .ok (.iload_n 2, 1) := dc_28 (by decide +kernel)
theorem d_Reader_readWall_87 : decode b_Reader_readWall 87 = .ok (.invokestatic 134, 3) := dc_184 (by decide +kernel)
theorem d_Reader_readWall_90 : decode b_Reader_readWall 90 = .ok (.ifCond .lt 13, 3) := dc_155 (by decide +kernel)
theorem d_Reader_readWall_93 : decode b_Reader_readWall 93 = .ok (.aload_n 0, 1) := dc_42 (by decide +kernel)
theorem d_Reader_readWall_94 : decode b_Reader_readWall 94 = .ok (.iconst 5, 1) := dc_8 (by decide +kernel)
theorem d_Reader_readWall_95 : decode b_Reader_readWall 95 = .ok (.aload_n 0, 1) := dc_42 (by decide +kernel)
theorem d_Reader_readWall_96 : decode b_Reader_readWall 96 = .ok (.getfield 138, 3) := dc_180 (by decide +kernel)
theorem d_Reader_readWall_99 : decode b_Reader_readWall 99 = .ok (.invokevirtual 47, 3) := dc_182 (by decide +kernel)
theorem d_Reader_readWall_102 : decode b_Reader_readWall 102 = .ok (.ireturn, 1) := dc_172 (by decide +kernel)
theorem d_Reader_readWall_103 : decode b_Reader_readWall 103 = .ok (.aload_n 1, 1) := dc_43 (by decide +kernel)
theorem d_Reader_readWall_104 : decode b_Reader_readWall 104 = .ok (.dup, 1) := dc_89 (by decide +kernel)
theorem d_Reader_readWall_105 : decode b_Reader_readWall 105 = .ok (.getfield 84, 3) := dc_180 (by decide +kernel)
theorem d_Reader_readWall_108 : decode b_Reader_readWall 108 = .ok (.lconst 1, 1) := dc_10 (by decide +kernel)
theorem d_Reader_readWall_109 : decode b_Reader_readWall 109 = .ok (.iload_n 2, 1) := dc_28 (by decide +kernel)
theorem d_Reader_readWall_110 : decode b_Reader_readWall 110 = .ok (.lshl, 1) := dc_121 (by decide +kernel)
theorem d_Reader_readWall_111 : decode b_Reader_readWall 111 = .ok (.lor, 1) := dc_129 (by decide +kernel)
theorem d_Reader_readWall_112 : decode b_Reader_readWall 112 = .ok (.putfield 84, 3) := dc_181 (by decide +kernel)
theorem d_Reader_readWall_115 : decode b_Reader_readWall 115 = .ok (.iconst 1, 1) := dc_4 (by decide +kernel)
theorem d_Reader_readWall_116 : decode b_Reader_readWall 116 = .ok (.ireturn, 1) := dc_172 (by decide +kernel)
def t_Reader_readWall_L93 (k1 : Nat)  (M : Mem)  : Option (Mem × Int) := (qlet (t_Reader_refuse M 5 (M.1 46 5)) fun q28 => (some ((q28.1), (q28.2))))
def t_Reader_readWall (M : Mem) (k1 : Nat) : Option (Mem × Int) := (qlet (t_Long_bitCount M (M.2 k1 18)) fun q1 => (if q1 < 12 then (obind (t_Reader_goTo M (w32 ((M.1 46 1) + 1))) fun q5 => (obind (t_Reader_takeCell q5 k1) fun q7 => (if 0 ≤ (q7.2) then (qlet (t_WF_bitOf (q7.1) ((q7.1).2 k1 18) (q7.2)) fun q10 => (if q10 = 1 then (qlet (t_Reader_refuse (q7.1) 3 ((q7.1).1 46 5)) fun q22 => (some ((q22.1), (q22.2)))) else (qlet (t_WF_bitOf (q7.1) ((q7.1).2 k1 19) (q7.2)) fun q13 => (if q13 = 1 then (t_Reader_readWall_L93 k1 (q7.1)) else (obind (t_WF_indexOf (q7.1) (k1 + 7) 8 ((q7.1).1 k1 15) (q7.2)) fun q17 => (if q17 < 0 then (qlet (setL (q7.1) k1 18 (((q7.1).2 k1 18) ||| (q_lshl 1 (q7.2)))) fun M20 => (some (M20, 1))) else (t_Reader_readWall_L93 k1 (q7.1)))))))) else (some ((q7.1), 0))))) else (qlet (t_Reader_refuse M 2 (M.1 46 4)) fun q25 => (some ((q25.1), (q25.2))))))
set_option maxHeartbeats 4000000 in
set_option maxRecDepth 100000 in
theorem k_Reader_readWall_L93 (l : Launch) {p : Program} {e : Env} {s : State} {m : MethodId} {below : List Frame} {meth : Method} {c : Code} {b n : Nat} {C : CT} (hlo : 191 ≤ n) (k1 : Nat) (hk1 : isTown k1) (F : Cx b p m c b_Reader_readWall 3 s ([.ref (b + 46), .ref (b + k1)] : List Value).toArray "WardFalls$Reader" C n 191) (hlk : meth.locks = false) (hr : meth.sig.returnType = some .boolean) {res : Mem × Int} (M : Mem)  (H : Heap) (locs : List Loc) (ls : Array Slot) (hS : St b C n M s H locs) (hl : lv_has ls 3 [(0, .ref (b + 46))]) (hT : t_Reader_readWall_L93 k1 M = some res) : W p l e (headSpec (wsM y_Reader_readWall b_Reader_readWall 3 (some .boolean)) (rmD 5)).room s m ([.ref (b + 46), .ref (b + k1)] : List Value).toArray below meth c H locs 0 0 (MQ below (QZ b C n res.1 res.2) ([.ref (b + 46), .ref (b + k1)] : List Value).toArray s 0 0 (frb b)) (F0 m 93 ls []) := by
  unfold t_Reader_readWall_L93 at hT
  refine lv_aload_n F.hx F.hb d_Reader_readWall_93 rfl (lv_at hl 0 rfl) ?_
  refine r_iconst F.hx F.hb d_Reader_readWall_94 ?_
  refine lv_aload_n F.hx F.hb d_Reader_readWall_95 rfl (lv_at hl 0 rfl) ?_
  refine r_get (v := vI (M.1 46 5)) (N := 11) (T := T8) (j := 5) F hS (show 46 < 191 by decide) (show shK 46 = 12 from rfl) (show shN 46 = 11 from rfl) rfl (Nat.le_of_ble_eq_true rfl) ing8 mw_235 (fv_int rfl) d_Reader_readWall_96 ?_
  have i27 := hS.rng 46 5
  obtain ⟨q28, hq28⟩ : ∃ q, q = (t_Reader_refuse M 5 (M.1 46 5)) := ⟨_, rfl⟩
  replace hT := qlet_eq hT hq28
  refine r_backZ F hS (r_runV (k := 46) (N := 11) (T := T8) (As := [vI 5, vI (M.1 46 5)]) F hS (show 46 < 191 by decide) (show shK 46 = 12 from rfl) rfl (c_Reader_refuse l F.2.2.1 M 5 (M.1 46 5) (inr_c rfl) i27 _ hq28.symm) gs_Reader_47 hd_Reader_refuse ⟨Nat.le_of_ble_eq_true rfl, Nat.le_of_ble_eq_true rfl⟩ rfl hl.1 (Nat.le_of_ble_eq_true rfl) ⟨Nat.zero_le _, Nat.zero_le _⟩ rfl d_Reader_readWall_99) (fun H locs hS h29 => ?_)
  cases hT
  exact r_zret F hlk hr hS h29 d_Reader_readWall_102
set_option maxHeartbeats 4000000 in
set_option maxRecDepth 100000 in
theorem c_Reader_readWall (l : Launch) {b n : Nat} {C : CT} (hlo : 191 ≤ n) (M : Mem) (k1 : Nat) (hk1 : isTown k1) (res : Mem × Int) (hT : t_Reader_readWall M k1 = some res) : CM l b C n 5 y_Reader_readWall b_Reader_readWall 3 (some .boolean) [.ref (b + 46), .ref (b + k1)] M (QZ b C n res.1 res.2) := by
  refine CM.of (lo := 191) (ow := "WardFalls$Reader") (by decide) rfl (Nat.le_of_ble_eq_true rfl) hlo (fun p e s m below meth c F hlk hr hS ls hl => ?_)
  have hl : lv_has ls 3 [(0, .ref (b + 46)), (1, .ref (b + k1))] := hl
  unfold t_Reader_readWall at hT
  refine lv_aload_n F.hx F.hb d_Reader_readWall_0 rfl (lv_at hl 1 rfl) ?_
  refine r_get (v := .long (M.2 k1 18)) (N := 20) (T := T11) (j := 18) F hS (Town_lt hk1) (Town_sh hk1) (Town_N hk1) rfl (Nat.le_of_ble_eq_true rfl) ing11 mw_153 (fv_long rfl) d_Reader_readWall_1 ?_
  obtain ⟨q1, hq1⟩ : ∃ q, q = (t_Long_bitCount M (M.2 k1 18)) := ⟨_, rfl⟩
  replace hT := qlet_eq hT hq1
  refine r_backI F hS (r_runS (As := [.long (M.2 k1 18)]) F hS (c_Long_bitCount l (Nat.zero_le _) M (M.2 k1 18) _ hq1.symm) gs_Reader_144 hd_Long_bitCount ⟨Nat.le_of_ble_eq_true rfl, Nat.le_of_ble_eq_true rfl⟩ rfl hl.1 (Nat.le_of_ble_eq_true rfl) ⟨Nat.zero_le _, Nat.zero_le _⟩ rfl d_Reader_readWall_4) (fun H locs hS h2 => ?_)
  refine r_bipush F.hx F.hb d_Reader_readWall_7 rfl ?_
  refine r_icmp_lt (tgt := 22) F.hx F.hb h2 (inr_c rfl) d_Reader_readWall_9 (by decide) (fun c3 => ?_) (fun c3 => ?_)
  · replace hT := (if_pos c3).symm.trans hT
    refine lv_aload_n F.hx F.hb d_Reader_readWall_22 rfl (lv_at hl 0 rfl) ?_
    refine lv_aload_n F.hx F.hb d_Reader_readWall_23 rfl (lv_at hl 0 rfl) ?_
    refine r_get (v := vI (M.1 46 1)) (N := 11) (T := T8) (j := 1) F hS (show 46 < 191 by decide) (show shK 46 = 12 from rfl) (show shN 46 = 11 from rfl) rfl (Nat.le_of_ble_eq_true rfl) ing8 mw_231 (fv_int rfl) d_Reader_readWall_24 ?_
    have i4 := hS.rng 46 1
    refine r_iconst F.hx F.hb d_Reader_readWall_27 ?_
    refine r_iadd F.hx F.hb d_Reader_readWall_28 ?_
    obtain ⟨q5, hq5, hT⟩ := q_obind hT
    refine r_backV F hS (r_runV (k := 46) (N := 11) (T := T8) (As := [vI (w32 ((M.1 46 1) + 1))]) F hS (show 46 < 191 by decide) (show shK 46 = 12 from rfl) rfl (c_Reader_goTo l F.2.2.1 M (w32 ((M.1 46 1) + 1)) (inr_w32 _) _ hq5) gs_Reader_80 hd_Reader_goTo ⟨Nat.le_of_ble_eq_true rfl, Nat.le_of_ble_eq_true rfl⟩ rfl hl.1 (Nat.le_of_ble_eq_true rfl) ⟨Nat.zero_le _, Nat.zero_le _⟩ rfl d_Reader_readWall_29) (fun H locs hS => ?_)
    refine lv_aload_n F.hx F.hb d_Reader_readWall_32 rfl (lv_at hl 0 rfl) ?_
    refine lv_aload_n F.hx F.hb d_Reader_readWall_33 rfl (lv_at hl 1 rfl) ?_
    obtain ⟨q7, hq7, hT⟩ := q_obind hT
    refine r_backI F hS (r_runV (k := 46) (N := 11) (T := T8) (As := [.ref (b + k1)]) F hS (show 46 < 191 by decide) (show shK 46 = 12 from rfl) rfl (c_Reader_takeCell l F.2.2.1 q5 k1 hk1 _ hq7) gs_Reader_150 hd_Reader_takeCell ⟨Nat.le_of_ble_eq_true rfl, Nat.le_of_ble_eq_true rfl⟩ rfl hl.1 (Nat.le_of_ble_eq_true rfl) ⟨Nat.zero_le _, Nat.zero_le _⟩ rfl d_Reader_readWall_34) (fun H locs hS h8 => ?_)
    refine lv_istore_n (lv' := [(2, vI (q7.2)), (0, .ref (b + 46)), (1, .ref (b + k1))]) F.hx F.hb d_Reader_readWall_37 rfl hl (Nat.le_of_ble_eq_true rfl) rfl (fun ls hl => ?_)
    refine lv_iload_n F.hx F.hb d_Reader_readWall_38 rfl (lv_at hl 0 rfl) ?_
    refine r_if_ge (tgt := 44) F.hx F.hb h8 d_Reader_readWall_39 (by decide) (fun c9 => ?_) (fun c9 => ?_)
    · replace hT := (if_pos c9).symm.trans hT
      refine lv_aload_n F.hx F.hb d_Reader_readWall_44 rfl (lv_at hl 2 rfl) ?_
      refine r_get (v := .long ((q7.1).2 k1 18)) (N := 20) (T := T11) (j := 18) F hS (Town_lt hk1) (Town_sh hk1) (Town_N hk1) rfl (Nat.le_of_ble_eq_true rfl) ing11 mw_153 (fv_long rfl) d_Reader_readWall_45 ?_
      refine lv_iload_n F.hx F.hb d_Reader_readWall_48 rfl (lv_at hl 0 rfl) ?_
      obtain ⟨q10, hq10⟩ : ∃ q, q = (t_WF_bitOf (q7.1) ((q7.1).2 k1 18) (q7.2)) := ⟨_, rfl⟩
      replace hT := qlet_eq hT hq10
      refine r_backI F hS (r_runSN (As := [.long ((q7.1).2 k1 18), vI (q7.2)]) F hS (c_WF_bitOf l F.2.2.1 (q7.1) ((q7.1).2 k1 18) (q7.2) h8 _ hq10.symm) mw_773 mw_772 mw_1 gs_Reader_154 hd_WF_bitOf ⟨Nat.le_of_ble_eq_true rfl, Nat.le_of_ble_eq_true rfl⟩ rfl hl.1 (Nat.le_of_ble_eq_true rfl) ⟨Nat.zero_le _, Nat.zero_le _⟩ rfl d_Reader_readWall_49) (fun H locs hS h11 => ?_)
      refine r_iconst F.hx F.hb d_Reader_readWall_52 ?_
      refine r_icmp_ne (tgt := 66) F.hx F.hb h11 (inr_c rfl) d_Reader_readWall_53 (by decide) (fun c12 => ?_) (fun c12 => ?_)
      · replace hT := (if_neg c12).symm.trans hT
        refine lv_aload_n F.hx F.hb d_Reader_readWall_66 rfl (lv_at hl 2 rfl) ?_
        refine r_get (v := .long ((q7.1).2 k1 19)) (N := 20) (T := T11) (j := 19) F hS (Town_lt hk1) (Town_sh hk1) (Town_N hk1) rfl (Nat.le_of_ble_eq_true rfl) ing11 mw_155 (fv_long rfl) d_Reader_readWall_67 ?_
        refine lv_iload_n F.hx F.hb d_Reader_readWall_70 rfl (lv_at hl 0 rfl) ?_
        obtain ⟨q13, hq13⟩ : ∃ q, q = (t_WF_bitOf (q7.1) ((q7.1).2 k1 19) (q7.2)) := ⟨_, rfl⟩
        replace hT := qlet_eq hT hq13
        refine r_backI F hS (r_runSN (As := [.long ((q7.1).2 k1 19), vI (q7.2)]) F hS (c_WF_bitOf l F.2.2.1 (q7.1) ((q7.1).2 k1 19) (q7.2) h8 _ hq13.symm) mw_773 mw_772 mw_1 gs_Reader_154 hd_WF_bitOf ⟨Nat.le_of_ble_eq_true rfl, Nat.le_of_ble_eq_true rfl⟩ rfl hl.1 (Nat.le_of_ble_eq_true rfl) ⟨Nat.zero_le _, Nat.zero_le _⟩ rfl d_Reader_readWall_71) (fun H locs hS h14 => ?_)
        refine r_iconst F.hx F.hb d_Reader_readWall_74 ?_
        refine r_icmp_eq (tgt := 93) F.hx F.hb h14 (inr_c rfl) d_Reader_readWall_75 (by decide) (fun c15 => ?_) (fun c15 => ?_)
        · replace hT := (if_pos c15).symm.trans hT
          exact k_Reader_readWall_L93 l hlo k1 hk1 F hlk hr (q7.1) _ _ _ hS (lv_sub hl [1] rfl) hT
        · replace hT := (if_neg c15).symm.trans hT
          refine lv_aload_n F.hx F.hb d_Reader_readWall_78 rfl (lv_at hl 2 rfl) ?_
          refine r_get (v := .ref (b + (k1 + 7))) (N := 20) (T := T11) (j := 6) F hS (Town_lt hk1) (Town_sh hk1) (Town_N hk1) rfl (Nat.le_of_ble_eq_true rfl) ing11 mw_110 (Town_g6 hk1 _) d_Reader_readWall_79 ?_
          refine lv_aload_n F.hx F.hb d_Reader_readWall_82 rfl (lv_at hl 2 rfl) ?_
          refine r_get (v := vI ((q7.1).1 k1 15)) (N := 20) (T := T11) (j := 15) F hS (Town_lt hk1) (Town_sh hk1) (Town_N hk1) rfl (Nat.le_of_ble_eq_true rfl) ing11 mw_142 (fv_int rfl) d_Reader_readWall_83 ?_
          have i16 := hS.rng k1 15
          refine lv_iload_n F.hx F.hb d_Reader_readWall_86 rfl (lv_at hl 0 rfl) ?_
          obtain ⟨q17, hq17, hT⟩ := q_obind hT
          refine r_backI F hS (r_runSN (As := [.ref (b + (k1 + 7)), vI ((q7.1).1 k1 15), vI (q7.2)]) F hS (c_WF_indexOf l F.2.2.1 (q7.1) (k1 + 7) 8 ((q7.1).1 k1 15) (q7.2) (Town_f6 hk1) i16 h8 _ hq17) mw_748 mw_747 mw_1 gs_Reader_134 hd_WF_indexOf ⟨Nat.le_of_ble_eq_true rfl, Nat.le_of_ble_eq_true rfl⟩ rfl hl.1 (Nat.le_of_ble_eq_true rfl) ⟨Nat.zero_le _, Nat.zero_le _⟩ rfl d_Reader_readWall_87) (fun H locs hS h18 => ?_)
          refine r_if_lt (tgt := 103) F.hx F.hb h18 d_Reader_readWall_90 (by decide) (fun c19 => ?_) (fun c19 => ?_)
          · replace hT := (if_pos c19).symm.trans hT
            refine lv_aload_n F.hx F.hb d_Reader_readWall_103 rfl (lv_at hl 2 rfl) ?_
            refine lv_dup F.hx F.hb d_Reader_readWall_104 rfl ?_
            refine r_get (v := .long ((q7.1).2 k1 18)) (N := 20) (T := T11) (j := 18) F hS (Town_lt hk1) (Town_sh hk1) (Town_N hk1) rfl (Nat.le_of_ble_eq_true rfl) ing11 mw_153 (fv_long rfl) d_Reader_readWall_105 ?_
            refine lv_lconst (v := 1) F.hx F.hb d_Reader_readWall_108 rfl ?_
            refine lv_iload_n F.hx F.hb d_Reader_readWall_109 rfl (lv_at hl 0 rfl) ?_
            refine r_lshl F.hx F.hb d_Reader_readWall_110 ?_
            refine lv_lor F.hx F.hb d_Reader_readWall_111 ?_
            refine r_putL (N := 20) (T := T11) (j := 18) F hS (Town_lt hk1) (Town_sh hk1) (Town_N hk1) rfl (Nat.le_of_ble_eq_true rfl) ing11 tyok11 nm11 rfl rfl rfl mw_153 d_Reader_readWall_112 (fun H locs hS => ?_)
            obtain ⟨M20, eM20⟩ : ∃ q, q = (setL (q7.1) k1 18 (((q7.1).2 k1 18) ||| (q_lshl 1 (q7.2)))) := ⟨_, rfl⟩
            replace hS : St b C n M20 s H locs := by rw [eM20]; exact hS
            replace hT := qlet_eq hT eM20
            refine r_iconst F.hx F.hb d_Reader_readWall_115 ?_
            cases hT
            exact r_zret F hlk hr hS (Or.inr rfl) d_Reader_readWall_116
          · replace hT := (if_neg c19).symm.trans hT
            exact k_Reader_readWall_L93 l hlo k1 hk1 F hlk hr (q7.1) _ _ _ hS (lv_sub hl [1] rfl) hT
      · replace hT := (if_pos c12).symm.trans hT
        refine lv_aload_n F.hx F.hb d_Reader_readWall_56 rfl (lv_at hl 1 rfl) ?_
        refine r_iconst F.hx F.hb d_Reader_readWall_57 ?_
        refine lv_aload_n F.hx F.hb d_Reader_readWall_58 rfl (lv_at hl 1 rfl) ?_
        refine r_get (v := vI ((q7.1).1 46 5)) (N := 11) (T := T8) (j := 5) F hS (show 46 < 191 by decide) (show shK 46 = 12 from rfl) (show shN 46 = 11 from rfl) rfl (Nat.le_of_ble_eq_true rfl) ing8 mw_235 (fv_int rfl) d_Reader_readWall_59 ?_
        have i21 := hS.rng 46 5
        obtain ⟨q22, hq22⟩ : ∃ q, q = (t_Reader_refuse (q7.1) 3 ((q7.1).1 46 5)) := ⟨_, rfl⟩
        replace hT := qlet_eq hT hq22
        refine r_backZ F hS (r_runV (k := 46) (N := 11) (T := T8) (As := [vI 3, vI ((q7.1).1 46 5)]) F hS (show 46 < 191 by decide) (show shK 46 = 12 from rfl) rfl (c_Reader_refuse l F.2.2.1 (q7.1) 3 ((q7.1).1 46 5) (inr_c rfl) i21 _ hq22.symm) gs_Reader_47 hd_Reader_refuse ⟨Nat.le_of_ble_eq_true rfl, Nat.le_of_ble_eq_true rfl⟩ rfl hl.1 (Nat.le_of_ble_eq_true rfl) ⟨Nat.zero_le _, Nat.zero_le _⟩ rfl d_Reader_readWall_62) (fun H locs hS h23 => ?_)
        cases hT
        exact r_zret F hlk hr hS h23 d_Reader_readWall_65
    · replace hT := (if_neg c9).symm.trans hT
      refine r_iconst F.hx F.hb d_Reader_readWall_42 ?_
      cases hT
      exact r_zret F hlk hr hS (Or.inl rfl) d_Reader_readWall_43
  · replace hT := (if_neg c3).symm.trans hT
    refine lv_aload_n F.hx F.hb d_Reader_readWall_12 rfl (lv_at hl 0 rfl) ?_
    refine r_iconst F.hx F.hb d_Reader_readWall_13 ?_
    refine lv_aload_n F.hx F.hb d_Reader_readWall_14 rfl (lv_at hl 0 rfl) ?_
    refine r_get (v := vI (M.1 46 4)) (N := 11) (T := T8) (j := 4) F hS (show 46 < 191 by decide) (show shK 46 = 12 from rfl) (show shN 46 = 11 from rfl) rfl (Nat.le_of_ble_eq_true rfl) ing8 mw_234 (fv_int rfl) d_Reader_readWall_15 ?_
    have i24 := hS.rng 46 4
    obtain ⟨q25, hq25⟩ : ∃ q, q = (t_Reader_refuse M 2 (M.1 46 4)) := ⟨_, rfl⟩
    replace hT := qlet_eq hT hq25
    refine r_backZ F hS (r_runV (k := 46) (N := 11) (T := T8) (As := [vI 2, vI (M.1 46 4)]) F hS (show 46 < 191 by decide) (show shK 46 = 12 from rfl) rfl (c_Reader_refuse l F.2.2.1 M 2 (M.1 46 4) (inr_c rfl) i24 _ hq25.symm) gs_Reader_47 hd_Reader_refuse ⟨Nat.le_of_ble_eq_true rfl, Nat.le_of_ble_eq_true rfl⟩ rfl hl.1 (Nat.le_of_ble_eq_true rfl) ⟨Nat.zero_le _, Nat.zero_le _⟩ rfl d_Reader_readWall_18) (fun H locs hS h26 => ?_)
    cases hT
    exact r_zret F hlk hr hS h26 d_Reader_readWall_21
theorem d_Reader_readStair_0 : decode b_Reader_readStair 0 = .ok (.aload_n 1, 1) := dc_43 (by decide +kernel)
theorem d_Reader_readStair_1 : decode b_Reader_readStair 1 = .ok (.getfield 88, 3) := dc_180 (by decide +kernel)
theorem d_Reader_readStair_4 : decode b_Reader_readStair 4 = .ok (.invokestatic 144, 3) := dc_184 (by decide +kernel)
theorem d_Reader_readStair_7 : decode b_Reader_readStair 7 = .ok (.bipush 8, 2) := dc_16 (by decide +kernel)
theorem d_Reader_readStair_9 : decode b_Reader_readStair 9 = .ok (.if_icmp .lt 13, 3) := dc_161 (by decide +kernel)
theorem d_Reader_readStair_12 : decode b_Reader_readStair 12 = .ok (.aload_n 0, 1) := dc_42 (by decide +kernel)
theorem d_Reader_readStair_13 : decode b_Reader_readStair 13 = .ok (.iconst 2, 1) := dc_5 (by decide +kernel)
theorem d_Reader_readStair_14 : decode b_Reader_readStair 14 = .ok (.aload_n 0, 1) := dc_42 (by decide +kernel)
theorem d_Reader_readStair_15 : decode b_Reader_readStair 15 = .ok (.getfield 44, 3) := dc_180 (by decide +kernel)
theorem d_Reader_readStair_18 : decode b_Reader_readStair 18 = .ok (.invokevirtual 47, 3) := dc_182 (by decide +kernel)
theorem d_Reader_readStair_21 : decode b_Reader_readStair 21 = .ok (.ireturn, 1) := dc_172 (by decide +kernel)
theorem d_Reader_readStair_22 : decode b_Reader_readStair 22 = .ok (.aload_n 0, 1) := dc_42 (by decide +kernel)
theorem d_Reader_readStair_23 : decode b_Reader_readStair 23 = .ok (.aload_n 0, 1) := dc_42 (by decide +kernel)
theorem d_Reader_readStair_24 : decode b_Reader_readStair 24 = .ok (.getfield 94, 3) := dc_180 (by decide +kernel)
theorem d_Reader_readStair_27 : decode b_Reader_readStair 27 = .ok (.iconst 1, 1) := dc_4 (by decide +kernel)
theorem d_Reader_readStair_28 : decode b_Reader_readStair 28 = .ok (.iadd, 1) := dc_96 (by decide +kernel)
theorem d_Reader_readStair_29 : decode b_Reader_readStair 29 = .ok (.invokevirtual 80, 3) := dc_182 (by decide +kernel)
theorem d_Reader_readStair_32 : decode b_Reader_readStair 32 = .ok (.aload_n 0, 1) := dc_42 (by decide +kernel)
theorem d_Reader_readStair_33 : decode b_Reader_readStair 33 = .ok (.aload_n 1, 1) := dc_43 (by decide +kernel)
theorem d_Reader_readStair_34 : decode b_Reader_readStair 34 = .ok (.invokevirtual 150, 3) := dc_182 (by decide +kernel)
theorem d_Reader_readStair_37 : decode b_Reader_readStair 37 = .ok (.istore_n 2, 1) := dc_61 (by decide +kernel)
theorem d_Reader_readStair_38 : decode b_Reader_readStair 38 = .ok (.iload_n 2, 1) := dc_28 (by decide +kernel)
theorem d_Reader_readStair_39 : decode b_Reader_readStair 39 = .ok (.ifCond .ge 5, 3) := dc_156 (by decide +kernel)
theorem d_Reader_readStair_42 : decode b_Reader_readStair 42 = .ok (.iconst 0, 1) := dc_3 (by decide +kernel)
theorem d_Reader_readStair_43 : decode b_Reader_readStair 43 = .ok (.ireturn, 1) := dc_172 (by decide +kernel)
theorem d_Reader_readStair_44 : decode b_Reader_readStair 44 = .ok (.aload_n 1, 1) := dc_43 (by decide +kernel)
theorem d_Reader_readStair_45 : decode b_Reader_readStair 45 = .ok (.getfield 88, 3) := dc_180 (by decide +kernel)
theorem d_Reader_readStair_48 : decode b_Reader_readStair 48 = .ok (.iload_n 2, 1) := dc_28 (by decide +kernel)
theorem d_Reader_readStair_49 : decode b_Reader_readStair 49 = .ok (.invokestatic 154, 3) := dc_184 (by decide +kernel)
theorem d_Reader_readStair_52 : decode b_Reader_readStair 52 = .ok (.iconst 1, 1) := dc_4 (by decide +kernel)
theorem d_Reader_readStair_53 : decode b_Reader_readStair 53 = .ok (.if_icmp .ne 13, 3) := dc_160 (by decide +kernel)
theorem d_Reader_readStair_56 : decode b_Reader_readStair 56 = .ok (.aload_n 0, 1) := dc_42 (by decide +kernel)
theorem d_Reader_readStair_57 : decode b_Reader_readStair 57 = .ok (.iconst 3, 1) := dc_6 (by decide +kernel)
theorem d_Reader_readStair_58 : decode b_Reader_readStair 58 = .ok (.aload_n 0, 1) := dc_42 (by decide +kernel)
theorem d_Reader_readStair_59 : decode b_Reader_readStair 59 = .ok (.getfield 138, 3) := dc_180 (by decide +kernel)
theorem d_Reader_readStair_62 : decode b_Reader_readStair 62 = .ok (.invokevirtual 47, 3) := dc_182 (by decide +kernel)
theorem d_Reader_readStair_65 : decode b_Reader_readStair 65 = .ok (.ireturn, 1) := dc_172 (by decide +kernel)
theorem d_Reader_readStair_66 : decode b_Reader_readStair 66 = .ok (.aload_n 1, 1) := dc_43 (by decide +kernel)
theorem d_Reader_readStair_67 : decode b_Reader_readStair 67 = .ok (.getfield 84, 3) := dc_180 (by decide +kernel)
theorem d_Reader_readStair_70 : decode b_Reader_readStair 70 = .ok (.iload_n 2, 1) := dc_28 (by decide +kernel)
theorem d_Reader_readStair_71 : decode b_Reader_readStair 71 = .ok (.invokestatic 154, 3) := dc_184 (by decide +kernel)
theorem d_Reader_readStair_74 : decode b_Reader_readStair 74 = .ok (.iconst 1, 1) := dc_4 (by decide +kernel)
theorem d_Reader_readStair_75 : decode b_Reader_readStair 75 = .ok (.if_icmp .ne 13, 3) := dc_160 (by decide +kernel)
theorem d_Reader_readStair_78 : decode b_Reader_readStair 78 = .ok (.aload_n 0, 1) := dc_42 (by decide +kernel)
theorem d_Reader_readStair_79 : decode b_Reader_readStair 79 = .ok (.iconst 5, 1) := dc_8 (by decide +kernel)
theorem d_Reader_readStair_80 : decode b_Reader_readStair 80 = .ok (.aload_n 0, 1) := dc_42 (by decide +kernel)
theorem d_Reader_readStair_81 : decode b_Reader_readStair 81 = .ok (.getfield 138, 3) := dc_180 (by decide +kernel)
theorem d_Reader_readStair_84 : decode b_Reader_readStair 84 = .ok (.invokevirtual 47, 3) := dc_182 (by decide +kernel)
theorem d_Reader_readStair_87 : decode b_Reader_readStair 87 = .ok (.ireturn, 1) := dc_172 (by decide +kernel)
theorem d_Reader_readStair_88 : decode b_Reader_readStair 88 = .ok (.aload_n 1, 1) := dc_43 (by decide +kernel)
theorem d_Reader_readStair_89 : decode b_Reader_readStair 89 = .ok (.dup, 1) := dc_89 (by decide +kernel)
theorem d_Reader_readStair_90 : decode b_Reader_readStair 90 = .ok (.getfield 88, 3) := dc_180 (by decide +kernel)
theorem d_Reader_readStair_93 : decode b_Reader_readStair 93 = .ok (.lconst 1, 1) := dc_10 (by decide +kernel)
theorem d_Reader_readStair_94 : decode b_Reader_readStair 94 = .ok (.iload_n 2, 1) := dc_28 (by decide +kernel)
theorem d_Reader_readStair_95 : decode b_Reader_readStair 95 = .ok (.lshl, 1) := dc_121 (by decide +kernel)
theorem d_Reader_readStair_96 : decode b_Reader_readStair 96 = .ok (.lor, 1) := dc_129 (by decide +kernel)
theorem d_Reader_readStair_97 : decode b_Reader_readStair 97 = .ok (.putfield 88, 3) := dc_181 (by decide +kernel)
theorem d_Reader_readStair_100 : decode b_Reader_readStair 100 = .ok (.iconst 1, 1) := dc_4 (by decide +kernel)
theorem d_Reader_readStair_101 : decode b_Reader_readStair 101 = .ok (.ireturn, 1) := dc_172 (by decide +kernel)
def t_Reader_readStair (M : Mem) (k1 : Nat) : Option (Mem × Int) := (qlet (t_Long_bitCount M (M.2 k1 19)) fun q1 => (if q1 < 8 then (obind (t_Reader_goTo M (w32 ((M.1 46 1) + 1))) fun q5 => (obind (t_Reader_takeCell q5 k1) fun q7 => (if 0 ≤ (q7.2) then (qlet (t_WF_bitOf (q7.1) ((q7.1).2 k1 19) (q7.2)) fun q10 => (if q10 = 1 then (qlet (t_Reader_refuse (q7.1) 3 ((q7.1).1 46 5)) fun q21 => (some ((q21.1), (q21.2)))) else (qlet (t_WF_bitOf (q7.1) ((q7.1).2 k1 18) (q7.2)) fun q13 => (if q13 = 1 then (qlet (t_Reader_refuse (q7.1) 5 ((q7.1).1 46 5)) fun q18 => (some ((q18.1), (q18.2)))) else (qlet (setL (q7.1) k1 19 (((q7.1).2 k1 19) ||| (q_lshl 1 (q7.2)))) fun M16 => (some (M16, 1))))))) else (some ((q7.1), 0))))) else (qlet (t_Reader_refuse M 2 (M.1 46 4)) fun q24 => (some ((q24.1), (q24.2))))))
set_option maxHeartbeats 4000000 in
set_option maxRecDepth 100000 in
theorem c_Reader_readStair (l : Launch) {b n : Nat} {C : CT} (hlo : 191 ≤ n) (M : Mem) (k1 : Nat) (hk1 : isTown k1) (res : Mem × Int) (hT : t_Reader_readStair M k1 = some res) : CM l b C n 5 y_Reader_readStair b_Reader_readStair 3 (some .boolean) [.ref (b + 46), .ref (b + k1)] M (QZ b C n res.1 res.2) := by
  refine CM.of (lo := 191) (ow := "WardFalls$Reader") (by decide) rfl (Nat.le_of_ble_eq_true rfl) hlo (fun p e s m below meth c F hlk hr hS ls hl => ?_)
  have hl : lv_has ls 3 [(0, .ref (b + 46)), (1, .ref (b + k1))] := hl
  unfold t_Reader_readStair at hT
  refine lv_aload_n F.hx F.hb d_Reader_readStair_0 rfl (lv_at hl 1 rfl) ?_
  refine r_get (v := .long (M.2 k1 19)) (N := 20) (T := T11) (j := 19) F hS (Town_lt hk1) (Town_sh hk1) (Town_N hk1) rfl (Nat.le_of_ble_eq_true rfl) ing11 mw_155 (fv_long rfl) d_Reader_readStair_1 ?_
  obtain ⟨q1, hq1⟩ : ∃ q, q = (t_Long_bitCount M (M.2 k1 19)) := ⟨_, rfl⟩
  replace hT := qlet_eq hT hq1
  refine r_backI F hS (r_runS (As := [.long (M.2 k1 19)]) F hS (c_Long_bitCount l (Nat.zero_le _) M (M.2 k1 19) _ hq1.symm) gs_Reader_144 hd_Long_bitCount ⟨Nat.le_of_ble_eq_true rfl, Nat.le_of_ble_eq_true rfl⟩ rfl hl.1 (Nat.le_of_ble_eq_true rfl) ⟨Nat.zero_le _, Nat.zero_le _⟩ rfl d_Reader_readStair_4) (fun H locs hS h2 => ?_)
  refine r_bipush F.hx F.hb d_Reader_readStair_7 rfl ?_
  refine r_icmp_lt (tgt := 22) F.hx F.hb h2 (inr_c rfl) d_Reader_readStair_9 (by decide) (fun c3 => ?_) (fun c3 => ?_)
  · replace hT := (if_pos c3).symm.trans hT
    refine lv_aload_n F.hx F.hb d_Reader_readStair_22 rfl (lv_at hl 0 rfl) ?_
    refine lv_aload_n F.hx F.hb d_Reader_readStair_23 rfl (lv_at hl 0 rfl) ?_
    refine r_get (v := vI (M.1 46 1)) (N := 11) (T := T8) (j := 1) F hS (show 46 < 191 by decide) (show shK 46 = 12 from rfl) (show shN 46 = 11 from rfl) rfl (Nat.le_of_ble_eq_true rfl) ing8 mw_231 (fv_int rfl) d_Reader_readStair_24 ?_
    have i4 := hS.rng 46 1
    refine r_iconst F.hx F.hb d_Reader_readStair_27 ?_
    refine r_iadd F.hx F.hb d_Reader_readStair_28 ?_
    obtain ⟨q5, hq5, hT⟩ := q_obind hT
    refine r_backV F hS (r_runV (k := 46) (N := 11) (T := T8) (As := [vI (w32 ((M.1 46 1) + 1))]) F hS (show 46 < 191 by decide) (show shK 46 = 12 from rfl) rfl (c_Reader_goTo l F.2.2.1 M (w32 ((M.1 46 1) + 1)) (inr_w32 _) _ hq5) gs_Reader_80 hd_Reader_goTo ⟨Nat.le_of_ble_eq_true rfl, Nat.le_of_ble_eq_true rfl⟩ rfl hl.1 (Nat.le_of_ble_eq_true rfl) ⟨Nat.zero_le _, Nat.zero_le _⟩ rfl d_Reader_readStair_29) (fun H locs hS => ?_)
    refine lv_aload_n F.hx F.hb d_Reader_readStair_32 rfl (lv_at hl 0 rfl) ?_
    refine lv_aload_n F.hx F.hb d_Reader_readStair_33 rfl (lv_at hl 1 rfl) ?_
    obtain ⟨q7, hq7, hT⟩ := q_obind hT
    refine r_backI F hS (r_runV (k := 46) (N := 11) (T := T8) (As := [.ref (b + k1)]) F hS (show 46 < 191 by decide) (show shK 46 = 12 from rfl) rfl (c_Reader_takeCell l F.2.2.1 q5 k1 hk1 _ hq7) gs_Reader_150 hd_Reader_takeCell ⟨Nat.le_of_ble_eq_true rfl, Nat.le_of_ble_eq_true rfl⟩ rfl hl.1 (Nat.le_of_ble_eq_true rfl) ⟨Nat.zero_le _, Nat.zero_le _⟩ rfl d_Reader_readStair_34) (fun H locs hS h8 => ?_)
    refine lv_istore_n (lv' := [(2, vI (q7.2)), (0, .ref (b + 46)), (1, .ref (b + k1))]) F.hx F.hb d_Reader_readStair_37 rfl hl (Nat.le_of_ble_eq_true rfl) rfl (fun ls hl => ?_)
    refine lv_iload_n F.hx F.hb d_Reader_readStair_38 rfl (lv_at hl 0 rfl) ?_
    refine r_if_ge (tgt := 44) F.hx F.hb h8 d_Reader_readStair_39 (by decide) (fun c9 => ?_) (fun c9 => ?_)
    · replace hT := (if_pos c9).symm.trans hT
      refine lv_aload_n F.hx F.hb d_Reader_readStair_44 rfl (lv_at hl 2 rfl) ?_
      refine r_get (v := .long ((q7.1).2 k1 19)) (N := 20) (T := T11) (j := 19) F hS (Town_lt hk1) (Town_sh hk1) (Town_N hk1) rfl (Nat.le_of_ble_eq_true rfl) ing11 mw_155 (fv_long rfl) d_Reader_readStair_45 ?_
      refine lv_iload_n F.hx F.hb d_Reader_readStair_48 rfl (lv_at hl 0 rfl) ?_
      obtain ⟨q10, hq10⟩ : ∃ q, q = (t_WF_bitOf (q7.1) ((q7.1).2 k1 19) (q7.2)) := ⟨_, rfl⟩
      replace hT := qlet_eq hT hq10
      refine r_backI F hS (r_runSN (As := [.long ((q7.1).2 k1 19), vI (q7.2)]) F hS (c_WF_bitOf l F.2.2.1 (q7.1) ((q7.1).2 k1 19) (q7.2) h8 _ hq10.symm) mw_773 mw_772 mw_1 gs_Reader_154 hd_WF_bitOf ⟨Nat.le_of_ble_eq_true rfl, Nat.le_of_ble_eq_true rfl⟩ rfl hl.1 (Nat.le_of_ble_eq_true rfl) ⟨Nat.zero_le _, Nat.zero_le _⟩ rfl d_Reader_readStair_49) (fun H locs hS h11 => ?_)
      refine r_iconst F.hx F.hb d_Reader_readStair_52 ?_
      refine r_icmp_ne (tgt := 66) F.hx F.hb h11 (inr_c rfl) d_Reader_readStair_53 (by decide) (fun c12 => ?_) (fun c12 => ?_)
      · replace hT := (if_neg c12).symm.trans hT
        refine lv_aload_n F.hx F.hb d_Reader_readStair_66 rfl (lv_at hl 2 rfl) ?_
        refine r_get (v := .long ((q7.1).2 k1 18)) (N := 20) (T := T11) (j := 18) F hS (Town_lt hk1) (Town_sh hk1) (Town_N hk1) rfl (Nat.le_of_ble_eq_true rfl) ing11 mw_153 (fv_long rfl) d_Reader_readStair_67 ?_
        refine lv_iload_n F.hx F.hb d_Reader_readStair_70 rfl (lv_at hl 0 rfl) ?_
        obtain ⟨q13, hq13⟩ : ∃ q, q = (t_WF_bitOf (q7.1) ((q7.1).2 k1 18) (q7.2)) := ⟨_, rfl⟩
        replace hT := qlet_eq hT hq13
        refine r_backI F hS (r_runSN (As := [.long ((q7.1).2 k1 18), vI (q7.2)]) F hS (c_WF_bitOf l F.2.2.1 (q7.1) ((q7.1).2 k1 18) (q7.2) h8 _ hq13.symm) mw_773 mw_772 mw_1 gs_Reader_154 hd_WF_bitOf ⟨Nat.le_of_ble_eq_true rfl, Nat.le_of_ble_eq_true rfl⟩ rfl hl.1 (Nat.le_of_ble_eq_true rfl) ⟨Nat.zero_le _, Nat.zero_le _⟩ rfl d_Reader_readStair_71) (fun H locs hS h14 => ?_)
        refine r_iconst F.hx F.hb d_Reader_readStair_74 ?_
        refine r_icmp_ne (tgt := 88) F.hx F.hb h14 (inr_c rfl) d_Reader_readStair_75 (by decide) (fun c15 => ?_) (fun c15 => ?_)
        · replace hT := (if_neg c15).symm.trans hT
          refine lv_aload_n F.hx F.hb d_Reader_readStair_88 rfl (lv_at hl 2 rfl) ?_
          refine lv_dup F.hx F.hb d_Reader_readStair_89 rfl ?_
          refine r_get (v := .long ((q7.1).2 k1 19)) (N := 20) (T := T11) (j := 19) F hS (Town_lt hk1) (Town_sh hk1) (Town_N hk1) rfl (Nat.le_of_ble_eq_true rfl) ing11 mw_155 (fv_long rfl) d_Reader_readStair_90 ?_
          refine lv_lconst (v := 1) F.hx F.hb d_Reader_readStair_93 rfl ?_
          refine lv_iload_n F.hx F.hb d_Reader_readStair_94 rfl (lv_at hl 0 rfl) ?_
          refine r_lshl F.hx F.hb d_Reader_readStair_95 ?_
          refine lv_lor F.hx F.hb d_Reader_readStair_96 ?_
          refine r_putL (N := 20) (T := T11) (j := 19) F hS (Town_lt hk1) (Town_sh hk1) (Town_N hk1) rfl (Nat.le_of_ble_eq_true rfl) ing11 tyok11 nm11 rfl rfl rfl mw_155 d_Reader_readStair_97 (fun H locs hS => ?_)
          obtain ⟨M16, eM16⟩ : ∃ q, q = (setL (q7.1) k1 19 (((q7.1).2 k1 19) ||| (q_lshl 1 (q7.2)))) := ⟨_, rfl⟩
          replace hS : St b C n M16 s H locs := by rw [eM16]; exact hS
          replace hT := qlet_eq hT eM16
          refine r_iconst F.hx F.hb d_Reader_readStair_100 ?_
          cases hT
          exact r_zret F hlk hr hS (Or.inr rfl) d_Reader_readStair_101
        · replace hT := (if_pos c15).symm.trans hT
          refine lv_aload_n F.hx F.hb d_Reader_readStair_78 rfl (lv_at hl 1 rfl) ?_
          refine r_iconst F.hx F.hb d_Reader_readStair_79 ?_
          refine lv_aload_n F.hx F.hb d_Reader_readStair_80 rfl (lv_at hl 1 rfl) ?_
          refine r_get (v := vI ((q7.1).1 46 5)) (N := 11) (T := T8) (j := 5) F hS (show 46 < 191 by decide) (show shK 46 = 12 from rfl) (show shN 46 = 11 from rfl) rfl (Nat.le_of_ble_eq_true rfl) ing8 mw_235 (fv_int rfl) d_Reader_readStair_81 ?_
          have i17 := hS.rng 46 5
          obtain ⟨q18, hq18⟩ : ∃ q, q = (t_Reader_refuse (q7.1) 5 ((q7.1).1 46 5)) := ⟨_, rfl⟩
          replace hT := qlet_eq hT hq18
          refine r_backZ F hS (r_runV (k := 46) (N := 11) (T := T8) (As := [vI 5, vI ((q7.1).1 46 5)]) F hS (show 46 < 191 by decide) (show shK 46 = 12 from rfl) rfl (c_Reader_refuse l F.2.2.1 (q7.1) 5 ((q7.1).1 46 5) (inr_c rfl) i17 _ hq18.symm) gs_Reader_47 hd_Reader_refuse ⟨Nat.le_of_ble_eq_true rfl, Nat.le_of_ble_eq_true rfl⟩ rfl hl.1 (Nat.le_of_ble_eq_true rfl) ⟨Nat.zero_le _, Nat.zero_le _⟩ rfl d_Reader_readStair_84) (fun H locs hS h19 => ?_)
          cases hT
          exact r_zret F hlk hr hS h19 d_Reader_readStair_87
      · replace hT := (if_pos c12).symm.trans hT
        refine lv_aload_n F.hx F.hb d_Reader_readStair_56 rfl (lv_at hl 1 rfl) ?_
        refine r_iconst F.hx F.hb d_Reader_readStair_57 ?_
        refine lv_aload_n F.hx F.hb d_Reader_readStair_58 rfl (lv_at hl 1 rfl) ?_
        refine r_get (v := vI ((q7.1).1 46 5)) (N := 11) (T := T8) (j := 5) F hS (show 46 < 191 by decide) (show shK 46 = 12 from rfl) (show shN 46 = 11 from rfl) rfl (Nat.le_of_ble_eq_true rfl) ing8 mw_235 (fv_int rfl) d_Reader_readStair_59 ?_
        have i20 := hS.rng 46 5
        obtain ⟨q21, hq21⟩ : ∃ q, q = (t_Reader_refuse (q7.1) 3 ((q7.1).1 46 5)) := ⟨_, rfl⟩
        replace hT := qlet_eq hT hq21
        refine r_backZ F hS (r_runV (k := 46) (N := 11) (T := T8) (As := [vI 3, vI ((q7.1).1 46 5)]) F hS (show 46 < 191 by decide) (show shK 46 = 12 from rfl) rfl (c_Reader_refuse l F.2.2.1 (q7.1) 3 ((q7.1).1 46 5) (inr_c rfl) i20 _ hq21.symm) gs_Reader_47 hd_Reader_refuse ⟨Nat.le_of_ble_eq_true rfl, Nat.le_of_ble_eq_true rfl⟩ rfl hl.1 (Nat.le_of_ble_eq_true rfl) ⟨Nat.zero_le _, Nat.zero_le _⟩ rfl d_Reader_readStair_62) (fun H locs hS h22 => ?_)
        cases hT
        exact r_zret F hlk hr hS h22 d_Reader_readStair_65
    · replace hT := (if_neg c9).symm.trans hT
      refine r_iconst F.hx F.hb d_Reader_readStair_42 ?_
      cases hT
      exact r_zret F hlk hr hS (Or.inl rfl) d_Reader_readStair_43
  · replace hT := (if_neg c3).symm.trans hT
    refine lv_aload_n F.hx F.hb d_Reader_readStair_12 rfl (lv_at hl 0 rfl) ?_
    refine r_iconst F.hx F.hb d_Reader_readStair_13 ?_
    refine lv_aload_n F.hx F.hb d_Reader_readStair_14 rfl (lv_at hl 0 rfl) ?_
    refine r_get (v := vI (M.1 46 4)) (N := 11) (T := T8) (j := 4) F hS (show 46 < 191 by decide) (show shK 46 = 12 from rfl) (show shN 46 = 11 from rfl) rfl (Nat.le_of_ble_eq_true rfl) ing8 mw_234 (fv_int rfl) d_Reader_readStair_15 ?_
    have i23 := hS.rng 46 4
    obtain ⟨q24, hq24⟩ : ∃ q, q = (t_Reader_refuse M 2 (M.1 46 4)) := ⟨_, rfl⟩
    replace hT := qlet_eq hT hq24
    refine r_backZ F hS (r_runV (k := 46) (N := 11) (T := T8) (As := [vI 2, vI (M.1 46 4)]) F hS (show 46 < 191 by decide) (show shK 46 = 12 from rfl) rfl (c_Reader_refuse l F.2.2.1 M 2 (M.1 46 4) (inr_c rfl) i23 _ hq24.symm) gs_Reader_47 hd_Reader_refuse ⟨Nat.le_of_ble_eq_true rfl, Nat.le_of_ble_eq_true rfl⟩ rfl hl.1 (Nat.le_of_ble_eq_true rfl) ⟨Nat.zero_le _, Nat.zero_le _⟩ rfl d_Reader_readStair_18) (fun H locs hS h25 => ?_)
    cases hT
    exact r_zret F hlk hr hS h25 d_Reader_readStair_21
theorem wn_Reader_readThing_0 : ∀ i, i < 94 → bA b_Reader_readThing (0 + i) = wB [43, 180, 0, 91, 16, 8, 161, 0, 13, 42, 5, 42, 180, 0, 44, 182, 0, 47, 172, 42, 42, 180, 0, 94, 4, 96, 182, 0, 80, 42, 43, 180, 0, 161, 43, 180, 0, 91, 182, 0, 114, 61, 28, 156, 0, 7, 2, 167, 0, 10, 42, 3, 16, 99, 182, 0, 97, 62, 29, 156, 0, 7, 2, 167, 0, 8, 42, 43, 182, 0, 150, 54, 4, 21, 4, 156, 0, 5, 3, 172, 43, 180, 0, 84, 21, 4, 184, 0, 154, 4, 159, 0, 19, 43] i := wB_of (by decide +kernel)
theorem d_Reader_readThing_0 : decode b_Reader_readThing 0 = .ok (.aload_n 1, 1) := dc_43 (q0_win (r := 0) wn_Reader_readThing_0 (by decide +kernel))
theorem d_Reader_readThing_1 : decode b_Reader_readThing 1 = .ok (.getfield 91, 3) := dc_180 (qU2_win (r := 1) wn_Reader_readThing_0 (by decide +kernel))
theorem d_Reader_readThing_4 : decode b_Reader_readThing 4 = .ok (.bipush 8, 2) := dc_16 (qS1_win (r := 4) wn_Reader_readThing_0 (by decide +kernel))
theorem d_Reader_readThing_6 : decode b_Reader_readThing 6 = .ok (.if_icmp .lt 13, 3) := dc_161 (qS2_win (r := 6) wn_Reader_readThing_0 (by decide +kernel))
theorem d_Reader_readThing_9 : decode b_Reader_readThing 9 = .ok (.aload_n 0, 1) := dc_42 (q0_win (r := 9) wn_Reader_readThing_0 (by decide +kernel))
theorem d_Reader_readThing_10 : decode b_Reader_readThing 10 = .ok (.iconst 2, 1) := dc_5 (q0_win (r := 10) wn_Reader_readThing_0 (by decide +kernel))
theorem d_Reader_readThing_11 : decode b_Reader_readThing 11 = .ok (.aload_n 0, 1) := dc_42 (q0_win (r := 11) wn_Reader_readThing_0 (by decide +kernel))
theorem d_Reader_readThing_12 : decode b_Reader_readThing 12 = .ok (.getfield 44, 3) := dc_180 (qU2_win (r := 12) wn_Reader_readThing_0 (by decide +kernel))
theorem d_Reader_readThing_15 : decode b_Reader_readThing 15 = .ok (.invokevirtual 47, 3) := dc_182 (qU2_win (r := 15) wn_Reader_readThing_0 (by decide +kernel))
theorem d_Reader_readThing_18 : decode b_Reader_readThing 18 = .ok (.ireturn, 1) := dc_172 (q0_win (r := 18) wn_Reader_readThing_0 (by decide +kernel))
theorem d_Reader_readThing_19 : decode b_Reader_readThing 19 = .ok (.aload_n 0, 1) := dc_42 (q0_win (r := 19) wn_Reader_readThing_0 (by decide +kernel))
theorem d_Reader_readThing_20 : decode b_Reader_readThing 20 = .ok (.aload_n 0, 1) := dc_42 (q0_win (r := 20) wn_Reader_readThing_0 (by decide +kernel))
theorem d_Reader_readThing_21 : decode b_Reader_readThing 21 = .ok (.getfield 94, 3) := dc_180 (qU2_win (r := 21) wn_Reader_readThing_0 (by decide +kernel))
theorem d_Reader_readThing_24 : decode b_Reader_readThing 24 = .ok (.iconst 1, 1) := dc_4 (q0_win (r := 24) wn_Reader_readThing_0 (by decide +kernel))
theorem d_Reader_readThing_25 : decode b_Reader_readThing 25 = .ok (.iadd, 1) := dc_96 (q0_win (r := 25) wn_Reader_readThing_0 (by decide +kernel))
theorem d_Reader_readThing_26 : decode b_Reader_readThing 26 = .ok (.invokevirtual 80, 3) := dc_182 (qU2_win (r := 26) wn_Reader_readThing_0 (by decide +kernel))
theorem d_Reader_readThing_29 : decode b_Reader_readThing 29 = .ok (.aload_n 0, 1) := dc_42 (q0_win (r := 29) wn_Reader_readThing_0 (by decide +kernel))
theorem d_Reader_readThing_30 : decode b_Reader_readThing 30 = .ok (.aload_n 1, 1) := dc_43 (q0_win (r := 30) wn_Reader_readThing_0 (by decide +kernel))
theorem d_Reader_readThing_31 : decode b_Reader_readThing 31 = .ok (.getfield 161, 3) := dc_180 (qU2_win (r := 31) wn_Reader_readThing_0 (by decide +kernel))
theorem d_Reader_readThing_34 : decode b_Reader_readThing 34 = .ok (.aload_n 1, 1) := dc_43 (q0_win (r := 34) wn_Reader_readThing_0 (by decide +kernel))
theorem d_Reader_readThing_35 : decode b_Reader_readThing 35 = .ok (.getfield 91, 3) := dc_180 (qU2_win (r := 35) wn_Reader_readThing_0 (by decide +kernel))
theorem d_Reader_readThing_38 : decode b_Reader_readThing 38 = .ok (.invokevirtual 114, 3) := dc_182 (qU2_win (r := 38) wn_Reader_readThing_0 (by decide +kernel))
theorem d_Reader_readThing_41 : decode b_Reader_readThing 41 = .ok (.istore_n 2, 1) := dc_61 (q0_win (r := 41) wn_Reader_readThing_0 (by decide +kernel))
theorem d_Reader_readThing_42 : decode b_Reader_readThing 42 = .ok (.iload_n 2, 1) := dc_28 (q0_win (r := 42) wn_Reader_readThing_0 (by decide +kernel))
theorem d_Reader_readThing_43 : decode b_Reader_readThing 43 = .ok (.ifCond .ge 7, 3) := dc_156 (qS2_win (r := 43) wn_Reader_readThing_0 (by decide +kernel))
theorem d_Reader_readThing_46 : decode b_Reader_readThing 46 = .ok (.iconst (-1), 1) := dc_2 (q0_win (r := 46) wn_Reader_readThing_0 (by decide +kernel))
theorem d_Reader_readThing_47 : decode b_Reader_readThing 47 = .ok (.goto 10, 3) := dc_167 (qS2_win (r := 47) wn_Reader_readThing_0 (by decide +kernel))
theorem d_Reader_readThing_50 : decode b_Reader_readThing 50 = .ok (.aload_n 0, 1) := dc_42 (q0_win (r := 50) wn_Reader_readThing_0 (by decide +kernel))
theorem d_Reader_readThing_51 : decode b_Reader_readThing 51 = .ok (.iconst 0, 1) := dc_3 (q0_win (r := 51) wn_Reader_readThing_0 (by decide +kernel))
theorem d_Reader_readThing_52 : decode b_Reader_readThing 52 = .ok (.bipush 99, 2) := dc_16 (qS1_win (r := 52) wn_Reader_readThing_0 (by decide +kernel))
theorem d_Reader_readThing_54 : decode b_Reader_readThing 54 = .ok (.invokevirtual 97, 3) := dc_182 (qU2_win (r := 54) wn_Reader_readThing_0 (by decide +kernel))
theorem d_Reader_readThing_57 : decode b_Reader_readThing 57 = .ok (.istore_n 3, 1) := dc_62 (q0_win (r := 57) wn_Reader_readThing_0 (by decide +kernel))
theorem d_Reader_readThing_58 : decode b_Reader_readThing 58 = .ok (.iload_n 3, 1) := dc_29 (q0_win (r := 58) wn_Reader_readThing_0 (by decide +kernel))
theorem d_Reader_readThing_59 : decode b_Reader_readThing 59 = .ok (.ifCond .ge 7, 3) := dc_156 (qS2_win (r := 59) wn_Reader_readThing_0 (by decide +kernel))
theorem d_Reader_readThing_62 : decode b_Reader_readThing 62 = .ok (.iconst (-1), 1) := dc_2 (q0_win (r := 62) wn_Reader_readThing_0 (by decide +kernel))
theorem d_Reader_readThing_63 : decode b_Reader_readThing 63 = .ok (.goto 8, 3) := dc_167 (qS2_win (r := 63) wn_Reader_readThing_0 (by decide +kernel))
theorem d_Reader_readThing_66 : decode b_Reader_readThing 66 = .ok (.aload_n 0, 1) := dc_42 (q0_win (r := 66) wn_Reader_readThing_0 (by decide +kernel))
theorem d_Reader_readThing_67 : decode b_Reader_readThing 67 = .ok (.aload_n 1, 1) := dc_43 (q0_win (r := 67) wn_Reader_readThing_0 (by decide +kernel))
theorem d_Reader_readThing_68 : decode b_Reader_readThing 68 = .ok (.invokevirtual 150, 3) := dc_182 (qU2_win (r := 68) wn_Reader_readThing_0 (by decide +kernel))
theorem d_Reader_readThing_71 : decode b_Reader_readThing 71 = .ok (.istore 4, 2) := dc_54 (qU1_win (r := 71) wn_Reader_readThing_0 (by decide +kernel))
theorem d_Reader_readThing_73 : decode b_Reader_readThing 73 = .ok (.iload 4, 2) := dc_21 (qU1_win (r := 73) wn_Reader_readThing_0 (by decide +kernel))
theorem d_Reader_readThing_75 : decode b_Reader_readThing 75 = .ok (.ifCond .ge 5, 3) := dc_156 (qS2_win (r := 75) wn_Reader_readThing_0 (by decide +kernel))
theorem d_Reader_readThing_78 : decode b_Reader_readThing 78 = .ok (.iconst 0, 1) := dc_3 (q0_win (r := 78) wn_Reader_readThing_0 (by decide +kernel))
theorem d_Reader_readThing_79 : decode b_Reader_readThing 79 = .ok (.ireturn, 1) := dc_172 (q0_win (r := 79) wn_Reader_readThing_0 (by decide +kernel))
theorem d_Reader_readThing_80 : decode b_Reader_readThing 80 = .ok (.aload_n 1, 1) := dc_43 (q0_win (r := 80) wn_Reader_readThing_0 (by decide +kernel))
theorem d_Reader_readThing_81 : decode b_Reader_readThing 81 = .ok (.getfield 84, 3) := dc_180 (qU2_win (r := 81) wn_Reader_readThing_0 (by decide +kernel))
theorem d_Reader_readThing_84 : decode b_Reader_readThing 84 = .ok (.iload 4, 2) := dc_21 (qU1_win (r := 84) wn_Reader_readThing_0 (by decide +kernel))
theorem d_Reader_readThing_86 : decode b_Reader_readThing 86 = .ok (.invokestatic 154, 3) := dc_184 (qU2_win (r := 86) wn_Reader_readThing_0 (by decide +kernel))
theorem d_Reader_readThing_89 : decode b_Reader_readThing 89 = .ok (.iconst 1, 1) := dc_4 (q0_win (r := 89) wn_Reader_readThing_0 (by decide +kernel))
theorem d_Reader_readThing_90 : decode b_Reader_readThing 90 = .ok (.if_icmp .eq 19, 3) := dc_159 (qS2_win (r := 90) wn_Reader_readThing_0 (by decide +kernel))
theorem d_Reader_readThing_93 : decode b_Reader_readThing 93 = .ok (.aload_n 1, 1) := dc_43 (q0_win (r := 93) wn_Reader_readThing_0 (by decide +kernel))
theorem wn_Reader_readThing_94 : ∀ i, i < 74 → bA b_Reader_readThing (94 + i) = wB [180, 0, 158, 43, 180, 0, 91, 21, 4, 184, 0, 134, 155, 0, 13, 42, 8, 42, 180, 0, 138, 182, 0, 47, 172, 43, 180, 0, 161, 43, 180, 0, 91, 28, 184, 0, 121, 43, 180, 0, 164, 43, 180, 0, 91, 29, 184, 0, 121, 43, 180, 0, 158, 43, 180, 0, 91, 21, 4, 184, 0, 121, 43, 89, 180, 0, 91, 4, 96, 181, 0, 91, 4, 172] i := wB_of (by decide +kernel)
theorem d_Reader_readThing_94 : decode b_Reader_readThing 94 = .ok (.getfield 158, 3) := dc_180 (qU2_win (r := 0) wn_Reader_readThing_94 (by decide +kernel))
theorem d_Reader_readThing_97 : decode b_Reader_readThing 97 = .ok (.aload_n 1, 1) := dc_43 (q0_win (r := 3) wn_Reader_readThing_94 (by decide +kernel))
theorem d_Reader_readThing_98 : decode b_Reader_readThing 98 = .ok (.getfield 91, 3) := dc_180 (qU2_win (r := 4) wn_Reader_readThing_94 (by decide +kernel))
theorem d_Reader_readThing_101 : decode b_Reader_readThing 101 = .ok (.iload 4, 2) := dc_21 (qU1_win (r := 7) wn_Reader_readThing_94 (by decide +kernel))
theorem d_Reader_readThing_103 : decode b_Reader_readThing 103 = .ok (.invokestatic 134, 3) := dc_184 (qU2_win (r := 9) wn_Reader_readThing_94 (by decide +kernel))
theorem d_Reader_readThing_106 : decode b_Reader_readThing 106 = .ok (.ifCond .lt 13, 3) := dc_155 (qS2_win (r := 12) wn_Reader_readThing_94 (by decide +kernel))
theorem d_Reader_readThing_109 : decode b_Reader_readThing 109 = .ok (.aload_n 0, 1) := dc_42 (q0_win (r := 15) wn_Reader_readThing_94 (by decide +kernel))
theorem d_Reader_readThing_110 : decode b_Reader_readThing 110 = .ok (.iconst 5, 1) := dc_8 (q0_win (r := 16) wn_Reader_readThing_94 (by decide +kernel))
theorem d_Reader_readThing_111 : decode b_Reader_readThing 111 = .ok (.aload_n 0, 1) := dc_42 (q0_win (r := 17) wn_Reader_readThing_94 (by decide +kernel))
theorem d_Reader_readThing_112 : decode b_Reader_readThing 112 = .ok (.getfield 138, 3) := dc_180 (qU2_win (r := 18) wn_Reader_readThing_94 (by decide +kernel))
theorem d_Reader_readThing_115 : decode b_Reader_readThing 115 = .ok (.invokevirtual 47, 3) := dc_182 (qU2_win (r := 21) wn_Reader_readThing_94 (by decide +kernel))
theorem d_Reader_readThing_118 : decode b_Reader_readThing 118 = .ok (.ireturn, 1) := dc_172 (q0_win (r := 24) wn_Reader_readThing_94 (by decide +kernel))
theorem d_Reader_readThing_119 : decode b_Reader_readThing 119 = .ok (.aload_n 1, 1) := dc_43 (q0_win (r := 25) wn_Reader_readThing_94 (by decide +kernel))
theorem d_Reader_readThing_120 : decode b_Reader_readThing 120 = .ok (.getfield 161, 3) := dc_180 (qU2_win (r := 26) wn_Reader_readThing_94 (by decide +kernel))
theorem d_Reader_readThing_123 : decode b_Reader_readThing 123 = .ok (.aload_n 1, 1) := dc_43 (q0_win (r := 29) wn_Reader_readThing_94 (by decide +kernel))
theorem d_Reader_readThing_124 : decode b_Reader_readThing 124 = .ok (.getfield 91, 3) := dc_180 (qU2_win (r := 30) wn_Reader_readThing_94 (by decide +kernel))
theorem d_Reader_readThing_127 : decode b_Reader_readThing 127 = .ok (.iload_n 2, 1) := dc_28 (q0_win (r := 33) wn_Reader_readThing_94 (by decide +kernel))
theorem d_Reader_readThing_128 : decode b_Reader_readThing 128 = .ok (.invokestatic 121, 3) := dc_184 (qU2_win (r := 34) wn_Reader_readThing_94 (by decide +kernel))
theorem d_Reader_readThing_131 : decode b_Reader_readThing 131 = .ok (.aload_n 1, 1) := dc_43 (q0_win (r := 37) wn_Reader_readThing_94 (by decide +kernel))
theorem d_Reader_readThing_132 : decode b_Reader_readThing 132 = .ok (.getfield 164, 3) := dc_180 (qU2_win (r := 38) wn_Reader_readThing_94 (by decide +kernel))
theorem d_Reader_readThing_135 : decode b_Reader_readThing 135 = .ok (.aload_n 1, 1) := dc_43 (q0_win (r := 41) wn_Reader_readThing_94 (by decide +kernel))
theorem d_Reader_readThing_136 : decode b_Reader_readThing 136 = .ok (.getfield 91, 3) := dc_180 (qU2_win (r := 42) wn_Reader_readThing_94 (by decide +kernel))
theorem d_Reader_readThing_139 : decode b_Reader_readThing 139 = .ok (.iload_n 3, 1) := dc_29 (q0_win (r := 45) wn_Reader_readThing_94 (by decide +kernel))
theorem d_Reader_readThing_140 : decode b_Reader_readThing 140 = .ok (.invokestatic 121, 3) := dc_184 (qU2_win (r := 46) wn_Reader_readThing_94 (by decide +kernel))
theorem d_Reader_readThing_143 : decode b_Reader_readThing 143 = .ok (.aload_n 1, 1) := dc_43 (q0_win (r := 49) wn_Reader_readThing_94 (by decide +kernel))
theorem d_Reader_readThing_144 : decode b_Reader_readThing 144 = .ok (.getfield 158, 3) := dc_180 (qU2_win (r := 50) wn_Reader_readThing_94 (by decide +kernel))
theorem d_Reader_readThing_147 : decode b_Reader_readThing 147 = .ok (.aload_n 1, 1) := dc_43 (q0_win (r := 53) wn_Reader_readThing_94 (by decide +kernel))
theorem d_Reader_readThing_148 : decode b_Reader_readThing 148 = .ok (.getfield 91, 3) := dc_180 (qU2_win (r := 54) wn_Reader_readThing_94 (by decide +kernel))
theorem d_Reader_readThing_151 : decode b_Reader_readThing 151 = .ok (.iload 4, 2) := dc_21 (qU1_win (r := 57) wn_Reader_readThing_94 (by decide +kernel))
theorem d_Reader_readThing_153 : decode b_Reader_readThing 153 = .ok (.invokestatic 121, 3) := dc_184 (qU2_win (r := 59) wn_Reader_readThing_94 (by decide +kernel))
theorem d_Reader_readThing_156 : decode b_Reader_readThing 156 = .ok (.aload_n 1, 1) := dc_43 (q0_win (r := 62) wn_Reader_readThing_94 (by decide +kernel))
theorem d_Reader_readThing_157 : decode b_Reader_readThing 157 = .ok (.dup, 1) := dc_89 (q0_win (r := 63) wn_Reader_readThing_94 (by decide +kernel))
theorem d_Reader_readThing_158 : decode b_Reader_readThing 158 = .ok (.getfield 91, 3) := dc_180 (qU2_win (r := 64) wn_Reader_readThing_94 (by decide +kernel))
theorem d_Reader_readThing_161 : decode b_Reader_readThing 161 = .ok (.iconst 1, 1) := dc_4 (q0_win (r := 67) wn_Reader_readThing_94 (by decide +kernel))
theorem d_Reader_readThing_162 : decode b_Reader_readThing 162 = .ok (.iadd, 1) := dc_96 (q0_win (r := 68) wn_Reader_readThing_94 (by decide +kernel))
theorem d_Reader_readThing_163 : decode b_Reader_readThing 163 = .ok (.putfield 91, 3) := dc_181 (qU2_win (r := 69) wn_Reader_readThing_94 (by decide +kernel))
theorem d_Reader_readThing_166 : decode b_Reader_readThing 166 = .ok (.iconst 1, 1) := dc_4 (q0_win (r := 72) wn_Reader_readThing_94 (by decide +kernel))
theorem d_Reader_readThing_167 : decode b_Reader_readThing 167 = .ok (.ireturn, 1) := dc_172 (q0_win (r := 73) wn_Reader_readThing_94 (by decide +kernel))
def t_Reader_readThing_L109 (k1 : Nat)  (M : Mem)  : Option (Mem × Int) := (qlet (t_Reader_refuse M 5 (M.1 46 5)) fun q38 => (some ((q38.1), (q38.2))))
def t_Reader_readThing_L71 (k1 : Nat)  (M : Mem) (v2_ : Int) (v3_ : Int) (v4_ : Int) : Option (Mem × Int) := (if 0 ≤ v4_ then (qlet (t_WF_bitOf M (M.2 k1 18) v4_) fun q19 => (if q19 = 1 then (t_Reader_readThing_L109 k1 M) else (obind (t_WF_indexOf M (k1 + 7) 8 (M.1 k1 15) v4_) fun q23 => (if q23 < 0 then (qlet (t_WF_put M (k1 + 5) 8 (M.1 k1 15) v2_) fun q27 => (qlet (t_WF_put q27 (k1 + 6) 8 (q27.1 k1 15) v3_) fun q30 => (qlet (t_WF_put q30 (k1 + 7) 8 (q30.1 k1 15) v4_) fun q33 => (qlet (setI q33 k1 15 (w32 ((q33.1 k1 15) + 1))) fun M36 => (some (M36, 1)))))) else (t_Reader_readThing_L109 k1 M))))) else (some (M, 0)))
def t_Reader_readThing_L57 (k1 : Nat)  (M : Mem) (v2_ : Int) (v3_ : Int) : Option (Mem × Int) := (if 0 ≤ v3_ then (obind (t_Reader_takeCell M k1) fun q16 => (t_Reader_readThing_L71 k1 (q16.1) v2_ v3_ (q16.2))) else (t_Reader_readThing_L71 k1 M v2_ v3_ (-1)))
def t_Reader_readThing (M : Mem) (k1 : Nat) : Option (Mem × Int) := (if (M.1 k1 15) < 8 then (obind (t_Reader_goTo M (w32 ((M.1 46 1) + 1))) fun q4 => (obind (t_Reader_takeNewName q4 (k1 + 5) 8 (q4.1 k1 15)) fun q7 => (if 0 ≤ (q7.2) then (obind (t_Reader_takeNumber (q7.1) 0 99) fun q10 => (t_Reader_readThing_L57 k1 (q10.1) (q7.2) (q10.2))) else (t_Reader_readThing_L57 k1 (q7.1) (q7.2) (-1))))) else (qlet (t_Reader_refuse M 2 (M.1 46 4)) fun q13 => (some ((q13.1), (q13.2)))))
set_option maxHeartbeats 4000000 in
set_option maxRecDepth 100000 in
theorem k_Reader_readThing_L109 (l : Launch) {p : Program} {e : Env} {s : State} {m : MethodId} {below : List Frame} {meth : Method} {c : Code} {b n : Nat} {C : CT} (hlo : 191 ≤ n) (k1 : Nat) (hk1 : isTown k1) (F : Cx b p m c b_Reader_readThing 5 s ([.ref (b + 46), .ref (b + k1)] : List Value).toArray "WardFalls$Reader" C n 191) (hlk : meth.locks = false) (hr : meth.sig.returnType = some .boolean) {res : Mem × Int} (M : Mem)  (H : Heap) (locs : List Loc) (ls : Array Slot) (hS : St b C n M s H locs) (hl : lv_has ls 5 [(0, .ref (b + 46))]) (hT : t_Reader_readThing_L109 k1 M = some res) : W p l e (headSpec (wsM y_Reader_readThing b_Reader_readThing 5 (some .boolean)) (rmD 5)).room s m ([.ref (b + 46), .ref (b + k1)] : List Value).toArray below meth c H locs 0 0 (MQ below (QZ b C n res.1 res.2) ([.ref (b + 46), .ref (b + k1)] : List Value).toArray s 0 0 (frb b)) (F0 m 109 ls []) := by
  unfold t_Reader_readThing_L109 at hT
  refine lv_aload_n F.hx F.hb d_Reader_readThing_109 rfl (lv_at hl 0 rfl) ?_
  refine r_iconst F.hx F.hb d_Reader_readThing_110 ?_
  refine lv_aload_n F.hx F.hb d_Reader_readThing_111 rfl (lv_at hl 0 rfl) ?_
  refine r_get (v := vI (M.1 46 5)) (N := 11) (T := T8) (j := 5) F hS (show 46 < 191 by decide) (show shK 46 = 12 from rfl) (show shN 46 = 11 from rfl) rfl (Nat.le_of_ble_eq_true rfl) ing8 mw_235 (fv_int rfl) d_Reader_readThing_112 ?_
  have i37 := hS.rng 46 5
  obtain ⟨q38, hq38⟩ : ∃ q, q = (t_Reader_refuse M 5 (M.1 46 5)) := ⟨_, rfl⟩
  replace hT := qlet_eq hT hq38
  refine r_backZ F hS (r_runV (k := 46) (N := 11) (T := T8) (As := [vI 5, vI (M.1 46 5)]) F hS (show 46 < 191 by decide) (show shK 46 = 12 from rfl) rfl (c_Reader_refuse l F.2.2.1 M 5 (M.1 46 5) (inr_c rfl) i37 _ hq38.symm) gs_Reader_47 hd_Reader_refuse ⟨Nat.le_of_ble_eq_true rfl, Nat.le_of_ble_eq_true rfl⟩ rfl hl.1 (Nat.le_of_ble_eq_true rfl) ⟨Nat.zero_le _, Nat.zero_le _⟩ rfl d_Reader_readThing_115) (fun H locs hS h39 => ?_)
  cases hT
  exact r_zret F hlk hr hS h39 d_Reader_readThing_118
set_option maxHeartbeats 4000000 in
set_option maxRecDepth 100000 in
theorem k_Reader_readThing_L71 (l : Launch) {p : Program} {e : Env} {s : State} {m : MethodId} {below : List Frame} {meth : Method} {c : Code} {b n : Nat} {C : CT} (hlo : 191 ≤ n) (k1 : Nat) (hk1 : isTown k1) (F : Cx b p m c b_Reader_readThing 5 s ([.ref (b + 46), .ref (b + k1)] : List Value).toArray "WardFalls$Reader" C n 191) (hlk : meth.locks = false) (hr : meth.sig.returnType = some .boolean) {res : Mem × Int} (M : Mem) (v2_ : Int) (hv2_ : InR v2_) (v3_ : Int) (hv3_ : InR v3_) (v4_ : Int) (hv4_ : InR v4_) (H : Heap) (locs : List Loc) (ls : Array Slot) (hS : St b C n M s H locs) (hl : lv_has ls 5 [(0, .ref (b + 46)), (1, .ref (b + k1)), (2, vI v2_), (3, vI v3_)]) (hT : t_Reader_readThing_L71 k1 M v2_ v3_ v4_ = some res) : W p l e (headSpec (wsM y_Reader_readThing b_Reader_readThing 5 (some .boolean)) (rmD 5)).room s m ([.ref (b + 46), .ref (b + k1)] : List Value).toArray below meth c H locs 0 0 (MQ below (QZ b C n res.1 res.2) ([.ref (b + 46), .ref (b + k1)] : List Value).toArray s 0 0 (frb b)) (F0 m 71 ls [vI v4_]) := by
  unfold t_Reader_readThing_L71 at hT
  refine lv_istore (lv' := [(4, vI v4_), (0, .ref (b + 46)), (1, .ref (b + k1)), (2, vI v2_), (3, vI v3_)]) F.hx F.hb d_Reader_readThing_71 hl (Nat.le_of_ble_eq_true rfl) rfl (fun ls hl => ?_)
  refine lv_iload F.hx F.hb d_Reader_readThing_73 (lv_at hl 0 rfl) ?_
  refine r_if_ge (tgt := 80) F.hx F.hb hv4_ d_Reader_readThing_75 (by decide) (fun c18 => ?_) (fun c18 => ?_)
  · replace hT := (if_pos c18).symm.trans hT
    refine lv_aload_n F.hx F.hb d_Reader_readThing_80 rfl (lv_at hl 2 rfl) ?_
    refine r_get (v := .long (M.2 k1 18)) (N := 20) (T := T11) (j := 18) F hS (Town_lt hk1) (Town_sh hk1) (Town_N hk1) rfl (Nat.le_of_ble_eq_true rfl) ing11 mw_153 (fv_long rfl) d_Reader_readThing_81 ?_
    refine lv_iload F.hx F.hb d_Reader_readThing_84 (lv_at hl 0 rfl) ?_
    obtain ⟨q19, hq19⟩ : ∃ q, q = (t_WF_bitOf M (M.2 k1 18) v4_) := ⟨_, rfl⟩
    replace hT := qlet_eq hT hq19
    refine r_backI F hS (r_runSN (As := [.long (M.2 k1 18), vI v4_]) F hS (c_WF_bitOf l F.2.2.1 M (M.2 k1 18) v4_ hv4_ _ hq19.symm) mw_773 mw_772 mw_1 gs_Reader_154 hd_WF_bitOf ⟨Nat.le_of_ble_eq_true rfl, Nat.le_of_ble_eq_true rfl⟩ rfl hl.1 (Nat.le_of_ble_eq_true rfl) ⟨Nat.zero_le _, Nat.zero_le _⟩ rfl d_Reader_readThing_86) (fun H locs hS h20 => ?_)
    refine r_iconst F.hx F.hb d_Reader_readThing_89 ?_
    refine r_icmp_eq (tgt := 109) F.hx F.hb h20 (inr_c rfl) d_Reader_readThing_90 (by decide) (fun c21 => ?_) (fun c21 => ?_)
    · replace hT := (if_pos c21).symm.trans hT
      exact k_Reader_readThing_L109 l hlo k1 hk1 F hlk hr M _ _ _ hS (lv_sub hl [1] rfl) hT
    · replace hT := (if_neg c21).symm.trans hT
      refine lv_aload_n F.hx F.hb d_Reader_readThing_93 rfl (lv_at hl 2 rfl) ?_
      refine r_get (v := .ref (b + (k1 + 7))) (N := 20) (T := T11) (j := 6) F hS (Town_lt hk1) (Town_sh hk1) (Town_N hk1) rfl (Nat.le_of_ble_eq_true rfl) ing11 mw_110 (Town_g6 hk1 _) d_Reader_readThing_94 ?_
      refine lv_aload_n F.hx F.hb d_Reader_readThing_97 rfl (lv_at hl 2 rfl) ?_
      refine r_get (v := vI (M.1 k1 15)) (N := 20) (T := T11) (j := 15) F hS (Town_lt hk1) (Town_sh hk1) (Town_N hk1) rfl (Nat.le_of_ble_eq_true rfl) ing11 mw_142 (fv_int rfl) d_Reader_readThing_98 ?_
      have i22 := hS.rng k1 15
      refine lv_iload F.hx F.hb d_Reader_readThing_101 (lv_at hl 0 rfl) ?_
      obtain ⟨q23, hq23, hT⟩ := q_obind hT
      refine r_backI F hS (r_runSN (As := [.ref (b + (k1 + 7)), vI (M.1 k1 15), vI v4_]) F hS (c_WF_indexOf l F.2.2.1 M (k1 + 7) 8 (M.1 k1 15) v4_ (Town_f6 hk1) i22 hv4_ _ hq23) mw_748 mw_747 mw_1 gs_Reader_134 hd_WF_indexOf ⟨Nat.le_of_ble_eq_true rfl, Nat.le_of_ble_eq_true rfl⟩ rfl hl.1 (Nat.le_of_ble_eq_true rfl) ⟨Nat.zero_le _, Nat.zero_le _⟩ rfl d_Reader_readThing_103) (fun H locs hS h24 => ?_)
      refine r_if_lt (tgt := 119) F.hx F.hb h24 d_Reader_readThing_106 (by decide) (fun c25 => ?_) (fun c25 => ?_)
      · replace hT := (if_pos c25).symm.trans hT
        refine lv_aload_n F.hx F.hb d_Reader_readThing_119 rfl (lv_at hl 2 rfl) ?_
        refine r_get (v := .ref (b + (k1 + 5))) (N := 20) (T := T11) (j := 4) F hS (Town_lt hk1) (Town_sh hk1) (Town_N hk1) rfl (Nat.le_of_ble_eq_true rfl) ing11 mw_103 (Town_g4 hk1 _) d_Reader_readThing_120 ?_
        refine lv_aload_n F.hx F.hb d_Reader_readThing_123 rfl (lv_at hl 2 rfl) ?_
        refine r_get (v := vI (M.1 k1 15)) (N := 20) (T := T11) (j := 15) F hS (Town_lt hk1) (Town_sh hk1) (Town_N hk1) rfl (Nat.le_of_ble_eq_true rfl) ing11 mw_142 (fv_int rfl) d_Reader_readThing_124 ?_
        have i26 := hS.rng k1 15
        refine lv_iload_n F.hx F.hb d_Reader_readThing_127 rfl (lv_at hl 3 rfl) ?_
        obtain ⟨q27, hq27⟩ : ∃ q, q = (t_WF_put M (k1 + 5) 8 (M.1 k1 15) v2_) := ⟨_, rfl⟩
        replace hT := qlet_eq hT hq27
        refine r_backV F hS (r_runSN (As := [.ref (b + (k1 + 5)), vI (M.1 k1 15), vI v2_]) F hS (c_WF_put l F.2.2.1 M (k1 + 5) 8 (M.1 k1 15) v2_ (Town_f4 hk1) i26 hv2_ _ hq27.symm) mw_512 mw_511 mw_1 gs_Reader_121 hd_WF_put ⟨Nat.le_of_ble_eq_true rfl, Nat.le_of_ble_eq_true rfl⟩ rfl hl.1 (Nat.le_of_ble_eq_true rfl) ⟨Nat.zero_le _, Nat.zero_le _⟩ rfl d_Reader_readThing_128) (fun H locs hS => ?_)
        refine lv_aload_n F.hx F.hb d_Reader_readThing_131 rfl (lv_at hl 2 rfl) ?_
        refine r_get (v := .ref (b + (k1 + 6))) (N := 20) (T := T11) (j := 5) F hS (Town_lt hk1) (Town_sh hk1) (Town_N hk1) rfl (Nat.le_of_ble_eq_true rfl) ing11 mw_107 (Town_g5 hk1 _) d_Reader_readThing_132 ?_
        refine lv_aload_n F.hx F.hb d_Reader_readThing_135 rfl (lv_at hl 2 rfl) ?_
        refine r_get (v := vI (q27.1 k1 15)) (N := 20) (T := T11) (j := 15) F hS (Town_lt hk1) (Town_sh hk1) (Town_N hk1) rfl (Nat.le_of_ble_eq_true rfl) ing11 mw_142 (fv_int rfl) d_Reader_readThing_136 ?_
        have i29 := hS.rng k1 15
        refine lv_iload_n F.hx F.hb d_Reader_readThing_139 rfl (lv_at hl 4 rfl) ?_
        obtain ⟨q30, hq30⟩ : ∃ q, q = (t_WF_put q27 (k1 + 6) 8 (q27.1 k1 15) v3_) := ⟨_, rfl⟩
        replace hT := qlet_eq hT hq30
        refine r_backV F hS (r_runSN (As := [.ref (b + (k1 + 6)), vI (q27.1 k1 15), vI v3_]) F hS (c_WF_put l F.2.2.1 q27 (k1 + 6) 8 (q27.1 k1 15) v3_ (Town_f5 hk1) i29 hv3_ _ hq30.symm) mw_512 mw_511 mw_1 gs_Reader_121 hd_WF_put ⟨Nat.le_of_ble_eq_true rfl, Nat.le_of_ble_eq_true rfl⟩ rfl hl.1 (Nat.le_of_ble_eq_true rfl) ⟨Nat.zero_le _, Nat.zero_le _⟩ rfl d_Reader_readThing_140) (fun H locs hS => ?_)
        refine lv_aload_n F.hx F.hb d_Reader_readThing_143 rfl (lv_at hl 2 rfl) ?_
        refine r_get (v := .ref (b + (k1 + 7))) (N := 20) (T := T11) (j := 6) F hS (Town_lt hk1) (Town_sh hk1) (Town_N hk1) rfl (Nat.le_of_ble_eq_true rfl) ing11 mw_110 (Town_g6 hk1 _) d_Reader_readThing_144 ?_
        refine lv_aload_n F.hx F.hb d_Reader_readThing_147 rfl (lv_at hl 2 rfl) ?_
        refine r_get (v := vI (q30.1 k1 15)) (N := 20) (T := T11) (j := 15) F hS (Town_lt hk1) (Town_sh hk1) (Town_N hk1) rfl (Nat.le_of_ble_eq_true rfl) ing11 mw_142 (fv_int rfl) d_Reader_readThing_148 ?_
        have i32 := hS.rng k1 15
        refine lv_iload F.hx F.hb d_Reader_readThing_151 (lv_at hl 0 rfl) ?_
        obtain ⟨q33, hq33⟩ : ∃ q, q = (t_WF_put q30 (k1 + 7) 8 (q30.1 k1 15) v4_) := ⟨_, rfl⟩
        replace hT := qlet_eq hT hq33
        refine r_backV F hS (r_runSN (As := [.ref (b + (k1 + 7)), vI (q30.1 k1 15), vI v4_]) F hS (c_WF_put l F.2.2.1 q30 (k1 + 7) 8 (q30.1 k1 15) v4_ (Town_f6 hk1) i32 hv4_ _ hq33.symm) mw_512 mw_511 mw_1 gs_Reader_121 hd_WF_put ⟨Nat.le_of_ble_eq_true rfl, Nat.le_of_ble_eq_true rfl⟩ rfl hl.1 (Nat.le_of_ble_eq_true rfl) ⟨Nat.zero_le _, Nat.zero_le _⟩ rfl d_Reader_readThing_153) (fun H locs hS => ?_)
        refine lv_aload_n F.hx F.hb d_Reader_readThing_156 rfl (lv_at hl 2 rfl) ?_
        refine lv_dup F.hx F.hb d_Reader_readThing_157 rfl ?_
        refine r_get (v := vI (q33.1 k1 15)) (N := 20) (T := T11) (j := 15) F hS (Town_lt hk1) (Town_sh hk1) (Town_N hk1) rfl (Nat.le_of_ble_eq_true rfl) ing11 mw_142 (fv_int rfl) d_Reader_readThing_158 ?_
        have i35 := hS.rng k1 15
        refine r_iconst F.hx F.hb d_Reader_readThing_161 ?_
        refine r_iadd F.hx F.hb d_Reader_readThing_162 ?_
        refine r_putI (N := 20) (T := T11) (j := 15) F hS (Town_lt hk1) (Town_sh hk1) (Town_N hk1) rfl (Nat.le_of_ble_eq_true rfl) ing11 tyok11 nm11 rfl rfl rfl rfl rfl (Town_dyn hk1 _) mw_142 (inr_w32 _) d_Reader_readThing_163 (fun H locs hS => ?_)
        obtain ⟨M36, eM36⟩ : ∃ q, q = (setI q33 k1 15 (w32 ((q33.1 k1 15) + 1))) := ⟨_, rfl⟩
        replace hS : St b C n M36 s H locs := by rw [eM36]; exact hS
        replace hT := qlet_eq hT eM36
        refine r_iconst F.hx F.hb d_Reader_readThing_166 ?_
        cases hT
        exact r_zret F hlk hr hS (Or.inr rfl) d_Reader_readThing_167
      · replace hT := (if_neg c25).symm.trans hT
        exact k_Reader_readThing_L109 l hlo k1 hk1 F hlk hr M _ _ _ hS (lv_sub hl [1] rfl) hT
  · replace hT := (if_neg c18).symm.trans hT
    refine r_iconst F.hx F.hb d_Reader_readThing_78 ?_
    cases hT
    exact r_zret F hlk hr hS (Or.inl rfl) d_Reader_readThing_79
set_option maxHeartbeats 4000000 in
set_option maxRecDepth 100000 in
theorem k_Reader_readThing_L57 (l : Launch) {p : Program} {e : Env} {s : State} {m : MethodId} {below : List Frame} {meth : Method} {c : Code} {b n : Nat} {C : CT} (hlo : 191 ≤ n) (k1 : Nat) (hk1 : isTown k1) (F : Cx b p m c b_Reader_readThing 5 s ([.ref (b + 46), .ref (b + k1)] : List Value).toArray "WardFalls$Reader" C n 191) (hlk : meth.locks = false) (hr : meth.sig.returnType = some .boolean) {res : Mem × Int} (M : Mem) (v2_ : Int) (hv2_ : InR v2_) (v3_ : Int) (hv3_ : InR v3_) (H : Heap) (locs : List Loc) (ls : Array Slot) (hS : St b C n M s H locs) (hl : lv_has ls 5 [(0, .ref (b + 46)), (1, .ref (b + k1)), (2, vI v2_)]) (hT : t_Reader_readThing_L57 k1 M v2_ v3_ = some res) : W p l e (headSpec (wsM y_Reader_readThing b_Reader_readThing 5 (some .boolean)) (rmD 5)).room s m ([.ref (b + 46), .ref (b + k1)] : List Value).toArray below meth c H locs 0 0 (MQ below (QZ b C n res.1 res.2) ([.ref (b + 46), .ref (b + k1)] : List Value).toArray s 0 0 (frb b)) (F0 m 57 ls [vI v3_]) := by
  unfold t_Reader_readThing_L57 at hT
  refine lv_istore_n (lv' := [(3, vI v3_), (0, .ref (b + 46)), (1, .ref (b + k1)), (2, vI v2_)]) F.hx F.hb d_Reader_readThing_57 rfl hl (Nat.le_of_ble_eq_true rfl) rfl (fun ls hl => ?_)
  refine lv_iload_n F.hx F.hb d_Reader_readThing_58 rfl (lv_at hl 0 rfl) ?_
  refine r_if_ge (tgt := 66) F.hx F.hb hv3_ d_Reader_readThing_59 (by decide) (fun c15 => ?_) (fun c15 => ?_)
  · replace hT := (if_pos c15).symm.trans hT
    refine lv_aload_n F.hx F.hb d_Reader_readThing_66 rfl (lv_at hl 1 rfl) ?_
    refine lv_aload_n F.hx F.hb d_Reader_readThing_67 rfl (lv_at hl 2 rfl) ?_
    obtain ⟨q16, hq16, hT⟩ := q_obind hT
    refine r_backI F hS (r_runV (k := 46) (N := 11) (T := T8) (As := [.ref (b + k1)]) F hS (show 46 < 191 by decide) (show shK 46 = 12 from rfl) rfl (c_Reader_takeCell l F.2.2.1 M k1 hk1 _ hq16) gs_Reader_150 hd_Reader_takeCell ⟨Nat.le_of_ble_eq_true rfl, Nat.le_of_ble_eq_true rfl⟩ rfl hl.1 (Nat.le_of_ble_eq_true rfl) ⟨Nat.zero_le _, Nat.zero_le _⟩ rfl d_Reader_readThing_68) (fun H locs hS h17 => ?_)
    exact k_Reader_readThing_L71 l hlo k1 hk1 F hlk hr (q16.1) v2_ hv2_ v3_ hv3_ (q16.2) h17 _ _ _ hS (lv_sub hl [1, 2, 3, 0] rfl) hT
  · replace hT := (if_neg c15).symm.trans hT
    refine r_iconst F.hx F.hb d_Reader_readThing_62 ?_
    refine lv_goto (tgt := 71) F.hx F.hb d_Reader_readThing_63 (by decide) ?_
    exact k_Reader_readThing_L71 l hlo k1 hk1 F hlk hr M v2_ hv2_ v3_ hv3_ (-1) (inr_c rfl) _ _ _ hS (lv_sub hl [1, 2, 3, 0] rfl) hT
set_option maxHeartbeats 4000000 in
set_option maxRecDepth 100000 in
theorem c_Reader_readThing (l : Launch) {b n : Nat} {C : CT} (hlo : 191 ≤ n) (M : Mem) (k1 : Nat) (hk1 : isTown k1) (res : Mem × Int) (hT : t_Reader_readThing M k1 = some res) : CM l b C n 5 y_Reader_readThing b_Reader_readThing 5 (some .boolean) [.ref (b + 46), .ref (b + k1)] M (QZ b C n res.1 res.2) := by
  refine CM.of (lo := 191) (ow := "WardFalls$Reader") (by decide) rfl (Nat.le_of_ble_eq_true rfl) hlo (fun p e s m below meth c F hlk hr hS ls hl => ?_)
  have hl : lv_has ls 5 [(0, .ref (b + 46)), (1, .ref (b + k1))] := hl
  unfold t_Reader_readThing at hT
  refine lv_aload_n F.hx F.hb d_Reader_readThing_0 rfl (lv_at hl 1 rfl) ?_
  refine r_get (v := vI (M.1 k1 15)) (N := 20) (T := T11) (j := 15) F hS (Town_lt hk1) (Town_sh hk1) (Town_N hk1) rfl (Nat.le_of_ble_eq_true rfl) ing11 mw_142 (fv_int rfl) d_Reader_readThing_1 ?_
  have i1 := hS.rng k1 15
  refine r_bipush F.hx F.hb d_Reader_readThing_4 rfl ?_
  refine r_icmp_lt (tgt := 19) F.hx F.hb i1 (inr_c rfl) d_Reader_readThing_6 (by decide) (fun c2 => ?_) (fun c2 => ?_)
  · replace hT := (if_pos c2).symm.trans hT
    refine lv_aload_n F.hx F.hb d_Reader_readThing_19 rfl (lv_at hl 0 rfl) ?_
    refine lv_aload_n F.hx F.hb d_Reader_readThing_20 rfl (lv_at hl 0 rfl) ?_
    refine r_get (v := vI (M.1 46 1)) (N := 11) (T := T8) (j := 1) F hS (show 46 < 191 by decide) (show shK 46 = 12 from rfl) (show shN 46 = 11 from rfl) rfl (Nat.le_of_ble_eq_true rfl) ing8 mw_231 (fv_int rfl) d_Reader_readThing_21 ?_
    have i3 := hS.rng 46 1
    refine r_iconst F.hx F.hb d_Reader_readThing_24 ?_
    refine r_iadd F.hx F.hb d_Reader_readThing_25 ?_
    obtain ⟨q4, hq4, hT⟩ := q_obind hT
    refine r_backV F hS (r_runV (k := 46) (N := 11) (T := T8) (As := [vI (w32 ((M.1 46 1) + 1))]) F hS (show 46 < 191 by decide) (show shK 46 = 12 from rfl) rfl (c_Reader_goTo l F.2.2.1 M (w32 ((M.1 46 1) + 1)) (inr_w32 _) _ hq4) gs_Reader_80 hd_Reader_goTo ⟨Nat.le_of_ble_eq_true rfl, Nat.le_of_ble_eq_true rfl⟩ rfl hl.1 (Nat.le_of_ble_eq_true rfl) ⟨Nat.zero_le _, Nat.zero_le _⟩ rfl d_Reader_readThing_26) (fun H locs hS => ?_)
    refine lv_aload_n F.hx F.hb d_Reader_readThing_29 rfl (lv_at hl 0 rfl) ?_
    refine lv_aload_n F.hx F.hb d_Reader_readThing_30 rfl (lv_at hl 1 rfl) ?_
    refine r_get (v := .ref (b + (k1 + 5))) (N := 20) (T := T11) (j := 4) F hS (Town_lt hk1) (Town_sh hk1) (Town_N hk1) rfl (Nat.le_of_ble_eq_true rfl) ing11 mw_103 (Town_g4 hk1 _) d_Reader_readThing_31 ?_
    refine lv_aload_n F.hx F.hb d_Reader_readThing_34 rfl (lv_at hl 1 rfl) ?_
    refine r_get (v := vI (q4.1 k1 15)) (N := 20) (T := T11) (j := 15) F hS (Town_lt hk1) (Town_sh hk1) (Town_N hk1) rfl (Nat.le_of_ble_eq_true rfl) ing11 mw_142 (fv_int rfl) d_Reader_readThing_35 ?_
    have i6 := hS.rng k1 15
    obtain ⟨q7, hq7, hT⟩ := q_obind hT
    refine r_backI F hS (r_runV (k := 46) (N := 11) (T := T8) (As := [.ref (b + (k1 + 5)), vI (q4.1 k1 15)]) F hS (show 46 < 191 by decide) (show shK 46 = 12 from rfl) rfl (c_Reader_takeNewName l F.2.2.1 q4 (k1 + 5) 8 (q4.1 k1 15) (Town_f4 hk1) i6 _ hq7) gs_Reader_114 hd_Reader_takeNewName ⟨Nat.le_of_ble_eq_true rfl, Nat.le_of_ble_eq_true rfl⟩ rfl hl.1 (Nat.le_of_ble_eq_true rfl) ⟨Nat.zero_le _, Nat.zero_le _⟩ rfl d_Reader_readThing_38) (fun H locs hS h8 => ?_)
    refine lv_istore_n (lv' := [(2, vI (q7.2)), (0, .ref (b + 46)), (1, .ref (b + k1))]) F.hx F.hb d_Reader_readThing_41 rfl hl (Nat.le_of_ble_eq_true rfl) rfl (fun ls hl => ?_)
    refine lv_iload_n F.hx F.hb d_Reader_readThing_42 rfl (lv_at hl 0 rfl) ?_
    refine r_if_ge (tgt := 50) F.hx F.hb h8 d_Reader_readThing_43 (by decide) (fun c9 => ?_) (fun c9 => ?_)
    · replace hT := (if_pos c9).symm.trans hT
      refine lv_aload_n F.hx F.hb d_Reader_readThing_50 rfl (lv_at hl 1 rfl) ?_
      refine r_iconst F.hx F.hb d_Reader_readThing_51 ?_
      refine r_bipush F.hx F.hb d_Reader_readThing_52 rfl ?_
      obtain ⟨q10, hq10, hT⟩ := q_obind hT
      refine r_backI F hS (r_runV (k := 46) (N := 11) (T := T8) (As := [vI 0, vI 99]) F hS (show 46 < 191 by decide) (show shK 46 = 12 from rfl) rfl (c_Reader_takeNumber l F.2.2.1 (q7.1) 0 99 (inr_c rfl) (inr_c rfl) _ hq10) gs_Reader_97 hd_Reader_takeNumber ⟨Nat.le_of_ble_eq_true rfl, Nat.le_of_ble_eq_true rfl⟩ rfl hl.1 (Nat.le_of_ble_eq_true rfl) ⟨Nat.zero_le _, Nat.zero_le _⟩ rfl d_Reader_readThing_54) (fun H locs hS h11 => ?_)
      exact k_Reader_readThing_L57 l hlo k1 hk1 F hlk hr (q10.1) (q7.2) h8 (q10.2) h11 _ _ _ hS (lv_sub hl [1, 2, 0] rfl) hT
    · replace hT := (if_neg c9).symm.trans hT
      refine r_iconst F.hx F.hb d_Reader_readThing_46 ?_
      refine lv_goto (tgt := 57) F.hx F.hb d_Reader_readThing_47 (by decide) ?_
      exact k_Reader_readThing_L57 l hlo k1 hk1 F hlk hr (q7.1) (q7.2) h8 (-1) (inr_c rfl) _ _ _ hS (lv_sub hl [1, 2, 0] rfl) hT
  · replace hT := (if_neg c2).symm.trans hT
    refine lv_aload_n F.hx F.hb d_Reader_readThing_9 rfl (lv_at hl 0 rfl) ?_
    refine r_iconst F.hx F.hb d_Reader_readThing_10 ?_
    refine lv_aload_n F.hx F.hb d_Reader_readThing_11 rfl (lv_at hl 0 rfl) ?_
    refine r_get (v := vI (M.1 46 4)) (N := 11) (T := T8) (j := 4) F hS (show 46 < 191 by decide) (show shK 46 = 12 from rfl) (show shN 46 = 11 from rfl) rfl (Nat.le_of_ble_eq_true rfl) ing8 mw_234 (fv_int rfl) d_Reader_readThing_12 ?_
    have i12 := hS.rng 46 4
    obtain ⟨q13, hq13⟩ : ∃ q, q = (t_Reader_refuse M 2 (M.1 46 4)) := ⟨_, rfl⟩
    replace hT := qlet_eq hT hq13
    refine r_backZ F hS (r_runV (k := 46) (N := 11) (T := T8) (As := [vI 2, vI (M.1 46 4)]) F hS (show 46 < 191 by decide) (show shK 46 = 12 from rfl) rfl (c_Reader_refuse l F.2.2.1 M 2 (M.1 46 4) (inr_c rfl) i12 _ hq13.symm) gs_Reader_47 hd_Reader_refuse ⟨Nat.le_of_ble_eq_true rfl, Nat.le_of_ble_eq_true rfl⟩ rfl hl.1 (Nat.le_of_ble_eq_true rfl) ⟨Nat.zero_le _, Nat.zero_le _⟩ rfl d_Reader_readThing_15) (fun H locs hS h14 => ?_)
    cases hT
    exact r_zret F hlk hr hS h14 d_Reader_readThing_18
theorem d_Reader_readSeed_0 : decode b_Reader_readSeed 0 = .ok (.aload_n 0, 1) := dc_42 (by decide +kernel)
theorem d_Reader_readSeed_1 : decode b_Reader_readSeed 1 = .ok (.getfield 71, 3) := dc_180 (by decide +kernel)
theorem d_Reader_readSeed_4 : decode b_Reader_readSeed 4 = .ok (.ifCond .eq 13, 3) := dc_153 (by decide +kernel)
theorem d_Reader_readSeed_7 : decode b_Reader_readSeed 7 = .ok (.aload_n 0, 1) := dc_42 (by decide +kernel)
theorem d_Reader_readSeed_8 : decode b_Reader_readSeed 8 = .ok (.iconst 3, 1) := dc_6 (by decide +kernel)
theorem d_Reader_readSeed_9 : decode b_Reader_readSeed 9 = .ok (.aload_n 0, 1) := dc_42 (by decide +kernel)
theorem d_Reader_readSeed_10 : decode b_Reader_readSeed 10 = .ok (.getfield 44, 3) := dc_180 (by decide +kernel)
theorem d_Reader_readSeed_13 : decode b_Reader_readSeed 13 = .ok (.invokevirtual 47, 3) := dc_182 (by decide +kernel)
theorem d_Reader_readSeed_16 : decode b_Reader_readSeed 16 = .ok (.ireturn, 1) := dc_172 (by decide +kernel)
theorem d_Reader_readSeed_17 : decode b_Reader_readSeed 17 = .ok (.aload_n 0, 1) := dc_42 (by decide +kernel)
theorem d_Reader_readSeed_18 : decode b_Reader_readSeed 18 = .ok (.iconst 1, 1) := dc_4 (by decide +kernel)
theorem d_Reader_readSeed_19 : decode b_Reader_readSeed 19 = .ok (.putfield 71, 3) := dc_181 (by decide +kernel)
theorem d_Reader_readSeed_22 : decode b_Reader_readSeed 22 = .ok (.aload_n 0, 1) := dc_42 (by decide +kernel)
theorem d_Reader_readSeed_23 : decode b_Reader_readSeed 23 = .ok (.aload_n 0, 1) := dc_42 (by decide +kernel)
theorem d_Reader_readSeed_24 : decode b_Reader_readSeed 24 = .ok (.getfield 94, 3) := dc_180 (by decide +kernel)
theorem d_Reader_readSeed_27 : decode b_Reader_readSeed 27 = .ok (.iconst 1, 1) := dc_4 (by decide +kernel)
theorem d_Reader_readSeed_28 : decode b_Reader_readSeed 28 = .ok (.iadd, 1) := dc_96 (by decide +kernel)
theorem d_Reader_readSeed_29 : decode b_Reader_readSeed 29 = .ok (.invokevirtual 80, 3) := dc_182 (by decide +kernel)
theorem d_Reader_readSeed_32 : decode b_Reader_readSeed 32 = .ok (.aload_n 0, 1) := dc_42 (by decide +kernel)
theorem d_Reader_readSeed_33 : decode b_Reader_readSeed 33 = .ok (.iconst 0, 1) := dc_3 (by decide +kernel)
theorem d_Reader_readSeed_34 : decode b_Reader_readSeed 34 = .ok (.ldc 167, 2) := dc_18 (by decide +kernel)
theorem d_Reader_readSeed_36 : decode b_Reader_readSeed 36 = .ok (.invokevirtual 97, 3) := dc_182 (by decide +kernel)
theorem d_Reader_readSeed_39 : decode b_Reader_readSeed 39 = .ok (.istore_n 2, 1) := dc_61 (by decide +kernel)
theorem d_Reader_readSeed_40 : decode b_Reader_readSeed 40 = .ok (.aload_n 1, 1) := dc_43 (by decide +kernel)
theorem d_Reader_readSeed_41 : decode b_Reader_readSeed 41 = .ok (.iload_n 2, 1) := dc_28 (by decide +kernel)
theorem d_Reader_readSeed_42 : decode b_Reader_readSeed 42 = .ok (.putfield 168, 3) := dc_181 (by decide +kernel)
theorem d_Reader_readSeed_45 : decode b_Reader_readSeed 45 = .ok (.iload_n 2, 1) := dc_28 (by decide +kernel)
theorem d_Reader_readSeed_46 : decode b_Reader_readSeed 46 = .ok (.ifCond .lt 7, 3) := dc_155 (by decide +kernel)
theorem d_Reader_readSeed_49 : decode b_Reader_readSeed 49 = .ok (.iconst 1, 1) := dc_4 (by decide +kernel)
theorem d_Reader_readSeed_50 : decode b_Reader_readSeed 50 = .ok (.goto 4, 3) := dc_167 (by decide +kernel)
theorem d_Reader_readSeed_53 : decode b_Reader_readSeed 53 = .ok (.iconst 0, 1) := dc_3 (by decide +kernel)
theorem d_Reader_readSeed_54 : decode b_Reader_readSeed 54 = .ok (.ireturn, 1) := dc_172 (by decide +kernel)
def t_Reader_readSeed (M : Mem) (k1 : Nat) : Option (Mem × Int) := (if (M.1 46 8) = 0 then (qlet (setI M 46 8 1) fun M3 => (obind (t_Reader_goTo M3 (w32 ((M3.1 46 1) + 1))) fun q5 => (obind (t_Reader_takeNumber q5 0 99999) fun q7 => (qlet (setI (q7.1) k1 17 (q7.2)) fun M9 => (if (q7.2) < 0 then (some (M9, 0)) else (some (M9, 1))))))) else (qlet (t_Reader_refuse M 3 (M.1 46 4)) fun q12 => (some ((q12.1), (q12.2)))))
set_option maxHeartbeats 4000000 in
set_option maxRecDepth 100000 in
theorem c_Reader_readSeed (l : Launch) {b n : Nat} {C : CT} (hlo : 191 ≤ n) (M : Mem) (k1 : Nat) (hk1 : isTown k1) (res : Mem × Int) (hT : t_Reader_readSeed M k1 = some res) : CM l b C n 4 y_Reader_readSeed b_Reader_readSeed 3 (some .boolean) [.ref (b + 46), .ref (b + k1)] M (QZ b C n res.1 res.2) := by
  refine CM.of (lo := 191) (ow := "WardFalls$Reader") (by decide) rfl (Nat.le_of_ble_eq_true rfl) hlo (fun p e s m below meth c F hlk hr hS ls hl => ?_)
  have hl : lv_has ls 3 [(0, .ref (b + 46)), (1, .ref (b + k1))] := hl
  unfold t_Reader_readSeed at hT
  refine lv_aload_n F.hx F.hb d_Reader_readSeed_0 rfl (lv_at hl 0 rfl) ?_
  refine r_get (v := vI (M.1 46 8)) (N := 11) (T := T8) (j := 8) F hS (show 46 < 191 by decide) (show shK 46 = 12 from rfl) (show shN 46 = 11 from rfl) rfl (Nat.le_of_ble_eq_true rfl) ing8 mw_238 (fv_int rfl) d_Reader_readSeed_1 ?_
  have i1 := hS.rng 46 8
  refine r_if_eq (tgt := 17) F.hx F.hb i1 d_Reader_readSeed_4 (by decide) (fun c2 => ?_) (fun c2 => ?_)
  · replace hT := (if_pos c2).symm.trans hT
    refine lv_aload_n F.hx F.hb d_Reader_readSeed_17 rfl (lv_at hl 0 rfl) ?_
    refine r_iconst F.hx F.hb d_Reader_readSeed_18 ?_
    refine r_putI (N := 11) (T := T8) (j := 8) F hS (show 46 < 191 by decide) (show shK 46 = 12 from rfl) (show shN 46 = 11 from rfl) rfl (Nat.le_of_ble_eq_true rfl) ing8 tyok8 nm8 rfl rfl (nar_z (Or.inr rfl)) (fit_z (Or.inr rfl)) rfl rfl mw_238 (inr_c rfl) d_Reader_readSeed_19 (fun H locs hS => ?_)
    obtain ⟨M3, eM3⟩ : ∃ q, q = (setI M 46 8 1) := ⟨_, rfl⟩
    replace hS : St b C n M3 s H locs := by rw [eM3]; exact hS
    replace hT := qlet_eq hT eM3
    refine lv_aload_n F.hx F.hb d_Reader_readSeed_22 rfl (lv_at hl 0 rfl) ?_
    refine lv_aload_n F.hx F.hb d_Reader_readSeed_23 rfl (lv_at hl 0 rfl) ?_
    refine r_get (v := vI (M3.1 46 1)) (N := 11) (T := T8) (j := 1) F hS (show 46 < 191 by decide) (show shK 46 = 12 from rfl) (show shN 46 = 11 from rfl) rfl (Nat.le_of_ble_eq_true rfl) ing8 mw_231 (fv_int rfl) d_Reader_readSeed_24 ?_
    have i4 := hS.rng 46 1
    refine r_iconst F.hx F.hb d_Reader_readSeed_27 ?_
    refine r_iadd F.hx F.hb d_Reader_readSeed_28 ?_
    obtain ⟨q5, hq5, hT⟩ := q_obind hT
    refine r_backV F hS (r_runV (k := 46) (N := 11) (T := T8) (As := [vI (w32 ((M3.1 46 1) + 1))]) F hS (show 46 < 191 by decide) (show shK 46 = 12 from rfl) rfl (c_Reader_goTo l F.2.2.1 M3 (w32 ((M3.1 46 1) + 1)) (inr_w32 _) _ hq5) gs_Reader_80 hd_Reader_goTo ⟨Nat.le_of_ble_eq_true rfl, Nat.le_of_ble_eq_true rfl⟩ rfl hl.1 (Nat.le_of_ble_eq_true rfl) ⟨Nat.zero_le _, Nat.zero_le _⟩ rfl d_Reader_readSeed_29) (fun H locs hS => ?_)
    refine lv_aload_n F.hx F.hb d_Reader_readSeed_32 rfl (lv_at hl 0 rfl) ?_
    refine r_iconst F.hx F.hb d_Reader_readSeed_33 ?_
    refine lv_ldc (v := Int32.ofInt 99999) F.hx F.hb F.hown (F.hts mw_786) d_Reader_readSeed_34 ?_
    obtain ⟨q7, hq7, hT⟩ := q_obind hT
    refine r_backI F hS (r_runV (k := 46) (N := 11) (T := T8) (As := [vI 0, vI 99999]) F hS (show 46 < 191 by decide) (show shK 46 = 12 from rfl) rfl (c_Reader_takeNumber l F.2.2.1 q5 0 99999 (inr_c rfl) (inr_c rfl) _ hq7) gs_Reader_97 hd_Reader_takeNumber ⟨Nat.le_of_ble_eq_true rfl, Nat.le_of_ble_eq_true rfl⟩ rfl hl.1 (Nat.le_of_ble_eq_true rfl) ⟨Nat.zero_le _, Nat.zero_le _⟩ rfl d_Reader_readSeed_36) (fun H locs hS h8 => ?_)
    refine lv_istore_n (lv' := [(2, vI (q7.2)), (0, .ref (b + 46)), (1, .ref (b + k1))]) F.hx F.hb d_Reader_readSeed_39 rfl hl (Nat.le_of_ble_eq_true rfl) rfl (fun ls hl => ?_)
    refine lv_aload_n F.hx F.hb d_Reader_readSeed_40 rfl (lv_at hl 2 rfl) ?_
    refine lv_iload_n F.hx F.hb d_Reader_readSeed_41 rfl (lv_at hl 0 rfl) ?_
    refine r_putI (N := 20) (T := T11) (j := 17) F hS (Town_lt hk1) (Town_sh hk1) (Town_N hk1) rfl (Nat.le_of_ble_eq_true rfl) ing11 tyok11 nm11 rfl rfl rfl rfl rfl (Town_dyn hk1 _) mw_150 h8 d_Reader_readSeed_42 (fun H locs hS => ?_)
    obtain ⟨M9, eM9⟩ : ∃ q, q = (setI (q7.1) k1 17 (q7.2)) := ⟨_, rfl⟩
    replace hS : St b C n M9 s H locs := by rw [eM9]; exact hS
    replace hT := qlet_eq hT eM9
    refine lv_iload_n F.hx F.hb d_Reader_readSeed_45 rfl (lv_at hl 0 rfl) ?_
    refine r_if_lt (tgt := 53) F.hx F.hb h8 d_Reader_readSeed_46 (by decide) (fun c10 => ?_) (fun c10 => ?_)
    · replace hT := (if_pos c10).symm.trans hT
      refine r_iconst F.hx F.hb d_Reader_readSeed_53 ?_
      cases hT
      exact r_zret F hlk hr hS (Or.inl rfl) d_Reader_readSeed_54
    · replace hT := (if_neg c10).symm.trans hT
      refine r_iconst F.hx F.hb d_Reader_readSeed_49 ?_
      refine lv_goto (tgt := 54) F.hx F.hb d_Reader_readSeed_50 (by decide) ?_
      cases hT
      exact r_zret F hlk hr hS (Or.inr rfl) d_Reader_readSeed_54
  · replace hT := (if_neg c2).symm.trans hT
    refine lv_aload_n F.hx F.hb d_Reader_readSeed_7 rfl (lv_at hl 0 rfl) ?_
    refine r_iconst F.hx F.hb d_Reader_readSeed_8 ?_
    refine lv_aload_n F.hx F.hb d_Reader_readSeed_9 rfl (lv_at hl 0 rfl) ?_
    refine r_get (v := vI (M.1 46 4)) (N := 11) (T := T8) (j := 4) F hS (show 46 < 191 by decide) (show shK 46 = 12 from rfl) (show shN 46 = 11 from rfl) rfl (Nat.le_of_ble_eq_true rfl) ing8 mw_234 (fv_int rfl) d_Reader_readSeed_10 ?_
    have i11 := hS.rng 46 4
    obtain ⟨q12, hq12⟩ : ∃ q, q = (t_Reader_refuse M 3 (M.1 46 4)) := ⟨_, rfl⟩
    replace hT := qlet_eq hT hq12
    refine r_backZ F hS (r_runV (k := 46) (N := 11) (T := T8) (As := [vI 3, vI (M.1 46 4)]) F hS (show 46 < 191 by decide) (show shK 46 = 12 from rfl) rfl (c_Reader_refuse l F.2.2.1 M 3 (M.1 46 4) (inr_c rfl) i11 _ hq12.symm) gs_Reader_47 hd_Reader_refuse ⟨Nat.le_of_ble_eq_true rfl, Nat.le_of_ble_eq_true rfl⟩ rfl hl.1 (Nat.le_of_ble_eq_true rfl) ⟨Nat.zero_le _, Nat.zero_le _⟩ rfl d_Reader_readSeed_13) (fun H locs hS h13 => ?_)
    cases hT
    exact r_zret F hlk hr hS h13 d_Reader_readSeed_16
theorem wn_Formula_strengthOf_0 : ∀ i, i < 1 → bA b_Formula_strengthOf (0 + i) = wB [26] i := wB_of (by decide +kernel)
theorem d_Formula_strengthOf_0 : decode b_Formula_strengthOf 0 = .ok (.iload_n 0, 1) := dc_26 (q0_win (r := 0) wn_Formula_strengthOf_0 (by decide +kernel))
theorem d_Formula_strengthOf_1 : decode b_Formula_strengthOf 1 = .ok (.tableswitch 178 15 52 #[167, 169, 178, 178, 178, 178, 178, 178, 178, 178, 178, 178, 178, 178, 178, 178, 178, 178, 178, 178, 178, 178, 178, 178, 178, 178, 178, 178, 173, 173, 175, 175, 171, 171, 171, 171, 171, 171], 167) := by decide +kernel
theorem wn_Formula_strengthOf_168 : ∀ i, i < 13 → bA b_Formula_strengthOf (168 + i) = wB [4, 172, 5, 172, 7, 172, 8, 172, 16, 6, 172, 3, 172] i := wB_of (by decide +kernel)
theorem d_Formula_strengthOf_168 : decode b_Formula_strengthOf 168 = .ok (.iconst 1, 1) := dc_4 (q0_win (r := 0) wn_Formula_strengthOf_168 (by decide +kernel))
theorem d_Formula_strengthOf_169 : decode b_Formula_strengthOf 169 = .ok (.ireturn, 1) := dc_172 (q0_win (r := 1) wn_Formula_strengthOf_168 (by decide +kernel))
theorem d_Formula_strengthOf_170 : decode b_Formula_strengthOf 170 = .ok (.iconst 2, 1) := dc_5 (q0_win (r := 2) wn_Formula_strengthOf_168 (by decide +kernel))
theorem d_Formula_strengthOf_171 : decode b_Formula_strengthOf 171 = .ok (.ireturn, 1) := dc_172 (q0_win (r := 3) wn_Formula_strengthOf_168 (by decide +kernel))
theorem d_Formula_strengthOf_172 : decode b_Formula_strengthOf 172 = .ok (.iconst 4, 1) := dc_7 (q0_win (r := 4) wn_Formula_strengthOf_168 (by decide +kernel))
theorem d_Formula_strengthOf_173 : decode b_Formula_strengthOf 173 = .ok (.ireturn, 1) := dc_172 (q0_win (r := 5) wn_Formula_strengthOf_168 (by decide +kernel))
theorem d_Formula_strengthOf_174 : decode b_Formula_strengthOf 174 = .ok (.iconst 5, 1) := dc_8 (q0_win (r := 6) wn_Formula_strengthOf_168 (by decide +kernel))
theorem d_Formula_strengthOf_175 : decode b_Formula_strengthOf 175 = .ok (.ireturn, 1) := dc_172 (q0_win (r := 7) wn_Formula_strengthOf_168 (by decide +kernel))
theorem d_Formula_strengthOf_176 : decode b_Formula_strengthOf 176 = .ok (.bipush 6, 2) := dc_16 (qS1_win (r := 8) wn_Formula_strengthOf_168 (by decide +kernel))
theorem d_Formula_strengthOf_178 : decode b_Formula_strengthOf 178 = .ok (.ireturn, 1) := dc_172 (q0_win (r := 10) wn_Formula_strengthOf_168 (by decide +kernel))
theorem d_Formula_strengthOf_179 : decode b_Formula_strengthOf 179 = .ok (.iconst 0, 1) := dc_3 (q0_win (r := 11) wn_Formula_strengthOf_168 (by decide +kernel))
theorem d_Formula_strengthOf_180 : decode b_Formula_strengthOf 180 = .ok (.ireturn, 1) := dc_172 (q0_win (r := 12) wn_Formula_strengthOf_168 (by decide +kernel))
def t_Formula_strengthOf (M : Mem) (x1 : Int) : Int := (if x1 = 15 then 1 else (if x1 = 16 then 2 else (if x1 = 17 then 0 else (if x1 = 18 then 0 else (if x1 = 19 then 0 else (if x1 = 20 then 0 else (if x1 = 21 then 0 else (if x1 = 22 then 0 else (if x1 = 23 then 0 else (if x1 = 24 then 0 else (if x1 = 25 then 0 else (if x1 = 26 then 0 else (if x1 = 27 then 0 else (if x1 = 28 then 0 else (if x1 = 29 then 0 else (if x1 = 30 then 0 else (if x1 = 31 then 0 else (if x1 = 32 then 0 else (if x1 = 33 then 0 else (if x1 = 34 then 0 else (if x1 = 35 then 0 else (if x1 = 36 then 0 else (if x1 = 37 then 0 else (if x1 = 38 then 0 else (if x1 = 39 then 0 else (if x1 = 40 then 0 else (if x1 = 41 then 0 else (if x1 = 42 then 0 else (if x1 = 43 then 5 else (if x1 = 44 then 5 else (if x1 = 45 then 6 else (if x1 = 46 then 6 else (if x1 = 47 then 4 else (if x1 = 48 then 4 else (if x1 = 49 then 4 else (if x1 = 50 then 4 else (if x1 = 51 then 4 else (if x1 = 52 then 4 else 0))))))))))))))))))))))))))))))))))))))
set_option maxHeartbeats 4000000 in
set_option maxRecDepth 100000 in
theorem c_Formula_strengthOf (l : Launch) {b n : Nat} {C : CT} (hlo : 191 ≤ n) (M : Mem) (x1 : Int) (hx1 : InR x1) (res : Int) (hT : t_Formula_strengthOf M x1 = res) : CM l b C n 0 y_Formula_strengthOf b_Formula_strengthOf 1 (some .int) [vI x1] M (QI b C n M res) := by
  refine CM.of (lo := 191) (ow := "WardFalls$Formula") (by decide) rfl (Nat.le_of_ble_eq_true rfl) hlo (fun p e s m below meth c F hlk hr hS ls hl => ?_)
  have hl : lv_has ls 1 [(0, vI x1)] := hl
  unfold t_Formula_strengthOf at hT
  refine lv_iload_n F.hx F.hb d_Formula_strengthOf_0 rfl (lv_at hl 0 rfl) ?_
  rcases q_ite hT with ⟨c1, hT⟩ | ⟨c1, hT⟩
  · refine r_tableIn (i := 15) (tgt := 168) F.hx F.hb hx1 c1 d_Formula_strengthOf_1 (by decide) (by decide) rfl (by decide) ?_
    refine r_iconst F.hx F.hb d_Formula_strengthOf_168 ?_
    subst hT
    exact r_iret F hlk hr rfl hS (inr_c rfl) d_Formula_strengthOf_169
  ·
    rcases q_ite hT with ⟨c2, hT⟩ | ⟨c2, hT⟩
    · refine r_tableIn (i := 16) (tgt := 170) F.hx F.hb hx1 c2 d_Formula_strengthOf_1 (by decide) (by decide) rfl (by decide) ?_
      refine r_iconst F.hx F.hb d_Formula_strengthOf_170 ?_
      subst hT
      exact r_iret F hlk hr rfl hS (inr_c rfl) d_Formula_strengthOf_171
    ·
      rcases q_ite hT with ⟨c3, hT⟩ | ⟨c3, hT⟩
      · refine r_tableIn (i := 17) (tgt := 179) F.hx F.hb hx1 c3 d_Formula_strengthOf_1 (by decide) (by decide) rfl (by decide) ?_
        refine r_iconst F.hx F.hb d_Formula_strengthOf_179 ?_
        subst hT
        exact r_iret F hlk hr rfl hS (inr_c rfl) d_Formula_strengthOf_180
      ·
        rcases q_ite hT with ⟨c4, hT⟩ | ⟨c4, hT⟩
        · refine r_tableIn (i := 18) (tgt := 179) F.hx F.hb hx1 c4 d_Formula_strengthOf_1 (by decide) (by decide) rfl (by decide) ?_
          refine r_iconst F.hx F.hb d_Formula_strengthOf_179 ?_
          subst hT
          exact r_iret F hlk hr rfl hS (inr_c rfl) d_Formula_strengthOf_180
        ·
          rcases q_ite hT with ⟨c5, hT⟩ | ⟨c5, hT⟩
          · refine r_tableIn (i := 19) (tgt := 179) F.hx F.hb hx1 c5 d_Formula_strengthOf_1 (by decide) (by decide) rfl (by decide) ?_
            refine r_iconst F.hx F.hb d_Formula_strengthOf_179 ?_
            subst hT
            exact r_iret F hlk hr rfl hS (inr_c rfl) d_Formula_strengthOf_180
          ·
            rcases q_ite hT with ⟨c6, hT⟩ | ⟨c6, hT⟩
            · refine r_tableIn (i := 20) (tgt := 179) F.hx F.hb hx1 c6 d_Formula_strengthOf_1 (by decide) (by decide) rfl (by decide) ?_
              refine r_iconst F.hx F.hb d_Formula_strengthOf_179 ?_
              subst hT
              exact r_iret F hlk hr rfl hS (inr_c rfl) d_Formula_strengthOf_180
            ·
              rcases q_ite hT with ⟨c7, hT⟩ | ⟨c7, hT⟩
              · refine r_tableIn (i := 21) (tgt := 179) F.hx F.hb hx1 c7 d_Formula_strengthOf_1 (by decide) (by decide) rfl (by decide) ?_
                refine r_iconst F.hx F.hb d_Formula_strengthOf_179 ?_
                subst hT
                exact r_iret F hlk hr rfl hS (inr_c rfl) d_Formula_strengthOf_180
              ·
                rcases q_ite hT with ⟨c8, hT⟩ | ⟨c8, hT⟩
                · refine r_tableIn (i := 22) (tgt := 179) F.hx F.hb hx1 c8 d_Formula_strengthOf_1 (by decide) (by decide) rfl (by decide) ?_
                  refine r_iconst F.hx F.hb d_Formula_strengthOf_179 ?_
                  subst hT
                  exact r_iret F hlk hr rfl hS (inr_c rfl) d_Formula_strengthOf_180
                ·
                  rcases q_ite hT with ⟨c9, hT⟩ | ⟨c9, hT⟩
                  · refine r_tableIn (i := 23) (tgt := 179) F.hx F.hb hx1 c9 d_Formula_strengthOf_1 (by decide) (by decide) rfl (by decide) ?_
                    refine r_iconst F.hx F.hb d_Formula_strengthOf_179 ?_
                    subst hT
                    exact r_iret F hlk hr rfl hS (inr_c rfl) d_Formula_strengthOf_180
                  ·
                    rcases q_ite hT with ⟨c10, hT⟩ | ⟨c10, hT⟩
                    · refine r_tableIn (i := 24) (tgt := 179) F.hx F.hb hx1 c10 d_Formula_strengthOf_1 (by decide) (by decide) rfl (by decide) ?_
                      refine r_iconst F.hx F.hb d_Formula_strengthOf_179 ?_
                      subst hT
                      exact r_iret F hlk hr rfl hS (inr_c rfl) d_Formula_strengthOf_180
                    ·
                      rcases q_ite hT with ⟨c11, hT⟩ | ⟨c11, hT⟩
                      · refine r_tableIn (i := 25) (tgt := 179) F.hx F.hb hx1 c11 d_Formula_strengthOf_1 (by decide) (by decide) rfl (by decide) ?_
                        refine r_iconst F.hx F.hb d_Formula_strengthOf_179 ?_
                        subst hT
                        exact r_iret F hlk hr rfl hS (inr_c rfl) d_Formula_strengthOf_180
                      ·
                        rcases q_ite hT with ⟨c12, hT⟩ | ⟨c12, hT⟩
                        · refine r_tableIn (i := 26) (tgt := 179) F.hx F.hb hx1 c12 d_Formula_strengthOf_1 (by decide) (by decide) rfl (by decide) ?_
                          refine r_iconst F.hx F.hb d_Formula_strengthOf_179 ?_
                          subst hT
                          exact r_iret F hlk hr rfl hS (inr_c rfl) d_Formula_strengthOf_180
                        ·
                          rcases q_ite hT with ⟨c13, hT⟩ | ⟨c13, hT⟩
                          · refine r_tableIn (i := 27) (tgt := 179) F.hx F.hb hx1 c13 d_Formula_strengthOf_1 (by decide) (by decide) rfl (by decide) ?_
                            refine r_iconst F.hx F.hb d_Formula_strengthOf_179 ?_
                            subst hT
                            exact r_iret F hlk hr rfl hS (inr_c rfl) d_Formula_strengthOf_180
                          ·
                            rcases q_ite hT with ⟨c14, hT⟩ | ⟨c14, hT⟩
                            · refine r_tableIn (i := 28) (tgt := 179) F.hx F.hb hx1 c14 d_Formula_strengthOf_1 (by decide) (by decide) rfl (by decide) ?_
                              refine r_iconst F.hx F.hb d_Formula_strengthOf_179 ?_
                              subst hT
                              exact r_iret F hlk hr rfl hS (inr_c rfl) d_Formula_strengthOf_180
                            ·
                              rcases q_ite hT with ⟨c15, hT⟩ | ⟨c15, hT⟩
                              · refine r_tableIn (i := 29) (tgt := 179) F.hx F.hb hx1 c15 d_Formula_strengthOf_1 (by decide) (by decide) rfl (by decide) ?_
                                refine r_iconst F.hx F.hb d_Formula_strengthOf_179 ?_
                                subst hT
                                exact r_iret F hlk hr rfl hS (inr_c rfl) d_Formula_strengthOf_180
                              ·
                                rcases q_ite hT with ⟨c16, hT⟩ | ⟨c16, hT⟩
                                · refine r_tableIn (i := 30) (tgt := 179) F.hx F.hb hx1 c16 d_Formula_strengthOf_1 (by decide) (by decide) rfl (by decide) ?_
                                  refine r_iconst F.hx F.hb d_Formula_strengthOf_179 ?_
                                  subst hT
                                  exact r_iret F hlk hr rfl hS (inr_c rfl) d_Formula_strengthOf_180
                                ·
                                  rcases q_ite hT with ⟨c17, hT⟩ | ⟨c17, hT⟩
                                  · refine r_tableIn (i := 31) (tgt := 179) F.hx F.hb hx1 c17 d_Formula_strengthOf_1 (by decide) (by decide) rfl (by decide) ?_
                                    refine r_iconst F.hx F.hb d_Formula_strengthOf_179 ?_
                                    subst hT
                                    exact r_iret F hlk hr rfl hS (inr_c rfl) d_Formula_strengthOf_180
                                  ·
                                    rcases q_ite hT with ⟨c18, hT⟩ | ⟨c18, hT⟩
                                    · refine r_tableIn (i := 32) (tgt := 179) F.hx F.hb hx1 c18 d_Formula_strengthOf_1 (by decide) (by decide) rfl (by decide) ?_
                                      refine r_iconst F.hx F.hb d_Formula_strengthOf_179 ?_
                                      subst hT
                                      exact r_iret F hlk hr rfl hS (inr_c rfl) d_Formula_strengthOf_180
                                    ·
                                      rcases q_ite hT with ⟨c19, hT⟩ | ⟨c19, hT⟩
                                      · refine r_tableIn (i := 33) (tgt := 179) F.hx F.hb hx1 c19 d_Formula_strengthOf_1 (by decide) (by decide) rfl (by decide) ?_
                                        refine r_iconst F.hx F.hb d_Formula_strengthOf_179 ?_
                                        subst hT
                                        exact r_iret F hlk hr rfl hS (inr_c rfl) d_Formula_strengthOf_180
                                      ·
                                        rcases q_ite hT with ⟨c20, hT⟩ | ⟨c20, hT⟩
                                        · refine r_tableIn (i := 34) (tgt := 179) F.hx F.hb hx1 c20 d_Formula_strengthOf_1 (by decide) (by decide) rfl (by decide) ?_
                                          refine r_iconst F.hx F.hb d_Formula_strengthOf_179 ?_
                                          subst hT
                                          exact r_iret F hlk hr rfl hS (inr_c rfl) d_Formula_strengthOf_180
                                        ·
                                          rcases q_ite hT with ⟨c21, hT⟩ | ⟨c21, hT⟩
                                          · refine r_tableIn (i := 35) (tgt := 179) F.hx F.hb hx1 c21 d_Formula_strengthOf_1 (by decide) (by decide) rfl (by decide) ?_
                                            refine r_iconst F.hx F.hb d_Formula_strengthOf_179 ?_
                                            subst hT
                                            exact r_iret F hlk hr rfl hS (inr_c rfl) d_Formula_strengthOf_180
                                          ·
                                            rcases q_ite hT with ⟨c22, hT⟩ | ⟨c22, hT⟩
                                            · refine r_tableIn (i := 36) (tgt := 179) F.hx F.hb hx1 c22 d_Formula_strengthOf_1 (by decide) (by decide) rfl (by decide) ?_
                                              refine r_iconst F.hx F.hb d_Formula_strengthOf_179 ?_
                                              subst hT
                                              exact r_iret F hlk hr rfl hS (inr_c rfl) d_Formula_strengthOf_180
                                            ·
                                              rcases q_ite hT with ⟨c23, hT⟩ | ⟨c23, hT⟩
                                              · refine r_tableIn (i := 37) (tgt := 179) F.hx F.hb hx1 c23 d_Formula_strengthOf_1 (by decide) (by decide) rfl (by decide) ?_
                                                refine r_iconst F.hx F.hb d_Formula_strengthOf_179 ?_
                                                subst hT
                                                exact r_iret F hlk hr rfl hS (inr_c rfl) d_Formula_strengthOf_180
                                              ·
                                                rcases q_ite hT with ⟨c24, hT⟩ | ⟨c24, hT⟩
                                                · refine r_tableIn (i := 38) (tgt := 179) F.hx F.hb hx1 c24 d_Formula_strengthOf_1 (by decide) (by decide) rfl (by decide) ?_
                                                  refine r_iconst F.hx F.hb d_Formula_strengthOf_179 ?_
                                                  subst hT
                                                  exact r_iret F hlk hr rfl hS (inr_c rfl) d_Formula_strengthOf_180
                                                ·
                                                  rcases q_ite hT with ⟨c25, hT⟩ | ⟨c25, hT⟩
                                                  · refine r_tableIn (i := 39) (tgt := 179) F.hx F.hb hx1 c25 d_Formula_strengthOf_1 (by decide) (by decide) rfl (by decide) ?_
                                                    refine r_iconst F.hx F.hb d_Formula_strengthOf_179 ?_
                                                    subst hT
                                                    exact r_iret F hlk hr rfl hS (inr_c rfl) d_Formula_strengthOf_180
                                                  ·
                                                    rcases q_ite hT with ⟨c26, hT⟩ | ⟨c26, hT⟩
                                                    · refine r_tableIn (i := 40) (tgt := 179) F.hx F.hb hx1 c26 d_Formula_strengthOf_1 (by decide) (by decide) rfl (by decide) ?_
                                                      refine r_iconst F.hx F.hb d_Formula_strengthOf_179 ?_
                                                      subst hT
                                                      exact r_iret F hlk hr rfl hS (inr_c rfl) d_Formula_strengthOf_180
                                                    ·
                                                      rcases q_ite hT with ⟨c27, hT⟩ | ⟨c27, hT⟩
                                                      · refine r_tableIn (i := 41) (tgt := 179) F.hx F.hb hx1 c27 d_Formula_strengthOf_1 (by decide) (by decide) rfl (by decide) ?_
                                                        refine r_iconst F.hx F.hb d_Formula_strengthOf_179 ?_
                                                        subst hT
                                                        exact r_iret F hlk hr rfl hS (inr_c rfl) d_Formula_strengthOf_180
                                                      ·
                                                        rcases q_ite hT with ⟨c28, hT⟩ | ⟨c28, hT⟩
                                                        · refine r_tableIn (i := 42) (tgt := 179) F.hx F.hb hx1 c28 d_Formula_strengthOf_1 (by decide) (by decide) rfl (by decide) ?_
                                                          refine r_iconst F.hx F.hb d_Formula_strengthOf_179 ?_
                                                          subst hT
                                                          exact r_iret F hlk hr rfl hS (inr_c rfl) d_Formula_strengthOf_180
                                                        ·
                                                          rcases q_ite hT with ⟨c29, hT⟩ | ⟨c29, hT⟩
                                                          · refine r_tableIn (i := 43) (tgt := 174) F.hx F.hb hx1 c29 d_Formula_strengthOf_1 (by decide) (by decide) rfl (by decide) ?_
                                                            refine r_iconst F.hx F.hb d_Formula_strengthOf_174 ?_
                                                            subst hT
                                                            exact r_iret F hlk hr rfl hS (inr_c rfl) d_Formula_strengthOf_175
                                                          ·
                                                            rcases q_ite hT with ⟨c30, hT⟩ | ⟨c30, hT⟩
                                                            · refine r_tableIn (i := 44) (tgt := 174) F.hx F.hb hx1 c30 d_Formula_strengthOf_1 (by decide) (by decide) rfl (by decide) ?_
                                                              refine r_iconst F.hx F.hb d_Formula_strengthOf_174 ?_
                                                              subst hT
                                                              exact r_iret F hlk hr rfl hS (inr_c rfl) d_Formula_strengthOf_175
                                                            ·
                                                              rcases q_ite hT with ⟨c31, hT⟩ | ⟨c31, hT⟩
                                                              · refine r_tableIn (i := 45) (tgt := 176) F.hx F.hb hx1 c31 d_Formula_strengthOf_1 (by decide) (by decide) rfl (by decide) ?_
                                                                refine r_bipush F.hx F.hb d_Formula_strengthOf_176 rfl ?_
                                                                subst hT
                                                                exact r_iret F hlk hr rfl hS (inr_c rfl) d_Formula_strengthOf_178
                                                              ·
                                                                rcases q_ite hT with ⟨c32, hT⟩ | ⟨c32, hT⟩
                                                                · refine r_tableIn (i := 46) (tgt := 176) F.hx F.hb hx1 c32 d_Formula_strengthOf_1 (by decide) (by decide) rfl (by decide) ?_
                                                                  refine r_bipush F.hx F.hb d_Formula_strengthOf_176 rfl ?_
                                                                  subst hT
                                                                  exact r_iret F hlk hr rfl hS (inr_c rfl) d_Formula_strengthOf_178
                                                                ·
                                                                  rcases q_ite hT with ⟨c33, hT⟩ | ⟨c33, hT⟩
                                                                  · refine r_tableIn (i := 47) (tgt := 172) F.hx F.hb hx1 c33 d_Formula_strengthOf_1 (by decide) (by decide) rfl (by decide) ?_
                                                                    refine r_iconst F.hx F.hb d_Formula_strengthOf_172 ?_
                                                                    subst hT
                                                                    exact r_iret F hlk hr rfl hS (inr_c rfl) d_Formula_strengthOf_173
                                                                  ·
                                                                    rcases q_ite hT with ⟨c34, hT⟩ | ⟨c34, hT⟩
                                                                    · refine r_tableIn (i := 48) (tgt := 172) F.hx F.hb hx1 c34 d_Formula_strengthOf_1 (by decide) (by decide) rfl (by decide) ?_
                                                                      refine r_iconst F.hx F.hb d_Formula_strengthOf_172 ?_
                                                                      subst hT
                                                                      exact r_iret F hlk hr rfl hS (inr_c rfl) d_Formula_strengthOf_173
                                                                    ·
                                                                      rcases q_ite hT with ⟨c35, hT⟩ | ⟨c35, hT⟩
                                                                      · refine r_tableIn (i := 49) (tgt := 172) F.hx F.hb hx1 c35 d_Formula_strengthOf_1 (by decide) (by decide) rfl (by decide) ?_
                                                                        refine r_iconst F.hx F.hb d_Formula_strengthOf_172 ?_
                                                                        subst hT
                                                                        exact r_iret F hlk hr rfl hS (inr_c rfl) d_Formula_strengthOf_173
                                                                      ·
                                                                        rcases q_ite hT with ⟨c36, hT⟩ | ⟨c36, hT⟩
                                                                        · refine r_tableIn (i := 50) (tgt := 172) F.hx F.hb hx1 c36 d_Formula_strengthOf_1 (by decide) (by decide) rfl (by decide) ?_
                                                                          refine r_iconst F.hx F.hb d_Formula_strengthOf_172 ?_
                                                                          subst hT
                                                                          exact r_iret F hlk hr rfl hS (inr_c rfl) d_Formula_strengthOf_173
                                                                        ·
                                                                          rcases q_ite hT with ⟨c37, hT⟩ | ⟨c37, hT⟩
                                                                          · refine r_tableIn (i := 51) (tgt := 172) F.hx F.hb hx1 c37 d_Formula_strengthOf_1 (by decide) (by decide) rfl (by decide) ?_
                                                                            refine r_iconst F.hx F.hb d_Formula_strengthOf_172 ?_
                                                                            subst hT
                                                                            exact r_iret F hlk hr rfl hS (inr_c rfl) d_Formula_strengthOf_173
                                                                          ·
                                                                            rcases q_ite hT with ⟨c38, hT⟩ | ⟨c38, hT⟩
                                                                            · refine r_tableIn (i := 52) (tgt := 172) F.hx F.hb hx1 c38 d_Formula_strengthOf_1 (by decide) (by decide) rfl (by decide) ?_
                                                                              refine r_iconst F.hx F.hb d_Formula_strengthOf_172 ?_
                                                                              subst hT
                                                                              exact r_iret F hlk hr rfl hS (inr_c rfl) d_Formula_strengthOf_173
                                                                            ·
                                                                              refine r_tableOut (tgt := 179) F.hx F.hb hx1 (by omega) d_Formula_strengthOf_1 (by decide) ?_
                                                                              refine r_iconst F.hx F.hb d_Formula_strengthOf_179 ?_
                                                                              subst hT
                                                                              exact r_iret F hlk hr rfl hS (inr_c rfl) d_Formula_strengthOf_180
theorem d_Formula_add_0 : decode b_Formula_add 0 = .ok (.aload_n 0, 1) := dc_42 (by decide +kernel)
theorem d_Formula_add_1 : decode b_Formula_add 1 = .ok (.getfield 9, 3) := dc_180 (by decide +kernel)
theorem d_Formula_add_4 : decode b_Formula_add 4 = .ok (.aload_n 0, 1) := dc_42 (by decide +kernel)
theorem d_Formula_add_5 : decode b_Formula_add 5 = .ok (.getfield 25, 3) := dc_180 (by decide +kernel)
theorem d_Formula_add_8 : decode b_Formula_add 8 = .ok (.iload_n 1, 1) := dc_27 (by decide +kernel)
theorem d_Formula_add_9 : decode b_Formula_add 9 = .ok (.invokestatic 97, 3) := dc_184 (by decide +kernel)
theorem d_Formula_add_12 : decode b_Formula_add 12 = .ok (.aload_n 0, 1) := dc_42 (by decide +kernel)
theorem d_Formula_add_13 : decode b_Formula_add 13 = .ok (.getfield 15, 3) := dc_180 (by decide +kernel)
theorem d_Formula_add_16 : decode b_Formula_add 16 = .ok (.aload_n 0, 1) := dc_42 (by decide +kernel)
theorem d_Formula_add_17 : decode b_Formula_add 17 = .ok (.getfield 25, 3) := dc_180 (by decide +kernel)
theorem d_Formula_add_20 : decode b_Formula_add 20 = .ok (.iload_n 2, 1) := dc_28 (by decide +kernel)
theorem d_Formula_add_21 : decode b_Formula_add 21 = .ok (.invokestatic 97, 3) := dc_184 (by decide +kernel)
theorem d_Formula_add_24 : decode b_Formula_add 24 = .ok (.aload_n 0, 1) := dc_42 (by decide +kernel)
theorem d_Formula_add_25 : decode b_Formula_add 25 = .ok (.dup, 1) := dc_89 (by decide +kernel)
theorem d_Formula_add_26 : decode b_Formula_add 26 = .ok (.getfield 25, 3) := dc_180 (by decide +kernel)
theorem d_Formula_add_29 : decode b_Formula_add 29 = .ok (.iconst 1, 1) := dc_4 (by decide +kernel)
theorem d_Formula_add_30 : decode b_Formula_add 30 = .ok (.iadd, 1) := dc_96 (by decide +kernel)
theorem d_Formula_add_31 : decode b_Formula_add 31 = .ok (.putfield 25, 3) := dc_181 (by decide +kernel)
theorem d_Formula_add_34 : decode b_Formula_add 34 = .ok (.return_, 1) := dc_177 (by decide +kernel)
def t_Formula_add (M : Mem) (k0 : Nat) (x1 : Int) (x2 : Int) : Mem := (qlet (t_WF_put M (k0 + 1) 64 (M.1 k0 3) x1) fun q2 => (qlet (t_WF_put q2 (k0 + 2) 64 (q2.1 k0 3) x2) fun q5 => (qlet (setI q5 k0 3 (w32 ((q5.1 k0 3) + 1))) fun M8 => M8)))
set_option maxHeartbeats 4000000 in
set_option maxRecDepth 100000 in
theorem c_Formula_add (l : Launch) {b n : Nat} {C : CT} (hlo : 191 ≤ n) (M : Mem) (k0 : Nat) (x1 : Int) (x2 : Int) (hk0 : isFormula k0) (hx1 : InR x1) (hx2 : InR x2) (res : Mem) (hT : t_Formula_add M k0 x1 x2 = res) : CM l b C n 1 y_Formula_add b_Formula_add 3 (none) [.ref (b + k0), vI x1, vI x2] M (QV b C n res) := by
  refine CM.of (lo := 191) (ow := "WardFalls$Formula") (by decide) rfl (Nat.le_of_ble_eq_true rfl) hlo (fun p e s m below meth c F hlk hr hS ls hl => ?_)
  have hl : lv_has ls 3 [(0, .ref (b + k0)), (1, vI x1), (2, vI x2)] := hl
  unfold t_Formula_add at hT
  refine lv_aload_n F.hx F.hb d_Formula_add_0 rfl (lv_at hl 0 rfl) ?_
  refine r_get (v := .ref (b + (k0 + 1))) (N := 12) (T := T3) (j := 0) F hS (Formula_lt hk0) (Formula_sh hk0) (Formula_N hk0) rfl (Nat.le_of_ble_eq_true rfl) ing3 mw_47 (Formula_g0 hk0 _) d_Formula_add_1 ?_
  refine lv_aload_n F.hx F.hb d_Formula_add_4 rfl (lv_at hl 0 rfl) ?_
  refine r_get (v := vI (M.1 k0 3)) (N := 12) (T := T3) (j := 3) F hS (Formula_lt hk0) (Formula_sh hk0) (Formula_N hk0) rfl (Nat.le_of_ble_eq_true rfl) ing3 mw_50 (fv_int rfl) d_Formula_add_5 ?_
  have i1 := hS.rng k0 3
  refine lv_iload_n F.hx F.hb d_Formula_add_8 rfl (lv_at hl 1 rfl) ?_
  obtain ⟨q2, hq2⟩ : ∃ q, q = (t_WF_put M (k0 + 1) 64 (M.1 k0 3) x1) := ⟨_, rfl⟩
  replace hT := qlet_eq hT hq2
  refine r_backV F hS (r_runSN (As := [.ref (b + (k0 + 1)), vI (M.1 k0 3), vI x1]) F hS (c_WF_put l F.2.2.1 M (k0 + 1) 64 (M.1 k0 3) x1 (Formula_f0 hk0) i1 hx1 _ hq2.symm) mw_512 mw_511 mw_1 gs_Formula_97 hd_WF_put ⟨Nat.le_of_ble_eq_true rfl, Nat.le_of_ble_eq_true rfl⟩ rfl hl.1 (Nat.le_of_ble_eq_true rfl) ⟨Nat.zero_le _, Nat.zero_le _⟩ rfl d_Formula_add_9) (fun H locs hS => ?_)
  refine lv_aload_n F.hx F.hb d_Formula_add_12 rfl (lv_at hl 0 rfl) ?_
  refine r_get (v := .ref (b + (k0 + 2))) (N := 12) (T := T3) (j := 1) F hS (Formula_lt hk0) (Formula_sh hk0) (Formula_N hk0) rfl (Nat.le_of_ble_eq_true rfl) ing3 mw_48 (Formula_g1 hk0 _) d_Formula_add_13 ?_
  refine lv_aload_n F.hx F.hb d_Formula_add_16 rfl (lv_at hl 0 rfl) ?_
  refine r_get (v := vI (q2.1 k0 3)) (N := 12) (T := T3) (j := 3) F hS (Formula_lt hk0) (Formula_sh hk0) (Formula_N hk0) rfl (Nat.le_of_ble_eq_true rfl) ing3 mw_50 (fv_int rfl) d_Formula_add_17 ?_
  have i4 := hS.rng k0 3
  refine lv_iload_n F.hx F.hb d_Formula_add_20 rfl (lv_at hl 2 rfl) ?_
  obtain ⟨q5, hq5⟩ : ∃ q, q = (t_WF_put q2 (k0 + 2) 64 (q2.1 k0 3) x2) := ⟨_, rfl⟩
  replace hT := qlet_eq hT hq5
  refine r_backV F hS (r_runSN (As := [.ref (b + (k0 + 2)), vI (q2.1 k0 3), vI x2]) F hS (c_WF_put l F.2.2.1 q2 (k0 + 2) 64 (q2.1 k0 3) x2 (Formula_f1 hk0) i4 hx2 _ hq5.symm) mw_512 mw_511 mw_1 gs_Formula_97 hd_WF_put ⟨Nat.le_of_ble_eq_true rfl, Nat.le_of_ble_eq_true rfl⟩ rfl hl.1 (Nat.le_of_ble_eq_true rfl) ⟨Nat.zero_le _, Nat.zero_le _⟩ rfl d_Formula_add_21) (fun H locs hS => ?_)
  refine lv_aload_n F.hx F.hb d_Formula_add_24 rfl (lv_at hl 0 rfl) ?_
  refine lv_dup F.hx F.hb d_Formula_add_25 rfl ?_
  refine r_get (v := vI (q5.1 k0 3)) (N := 12) (T := T3) (j := 3) F hS (Formula_lt hk0) (Formula_sh hk0) (Formula_N hk0) rfl (Nat.le_of_ble_eq_true rfl) ing3 mw_50 (fv_int rfl) d_Formula_add_26 ?_
  have i7 := hS.rng k0 3
  refine r_iconst F.hx F.hb d_Formula_add_29 ?_
  refine r_iadd F.hx F.hb d_Formula_add_30 ?_
  refine r_putI (N := 12) (T := T3) (j := 3) F hS (Formula_lt hk0) (Formula_sh hk0) (Formula_N hk0) rfl (Nat.le_of_ble_eq_true rfl) ing3 tyok3 nm3 rfl rfl rfl rfl rfl (Formula_dyn hk0 _) mw_50 (inr_w32 _) d_Formula_add_31 (fun H locs hS => ?_)
  obtain ⟨M8, eM8⟩ : ∃ q, q = (setI q5 k0 3 (w32 ((q5.1 k0 3) + 1))) := ⟨_, rfl⟩
  replace hS : St b C n M8 s H locs := by rw [eM8]; exact hS
  replace hT := qlet_eq hT eM8
  subst hT
  exact r_vret F hlk hr hS d_Formula_add_34
