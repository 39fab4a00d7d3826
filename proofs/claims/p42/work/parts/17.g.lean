section
theorem d_Long_bitCount_0 : decode b_Long_bitCount 0 = .ok (.lload_n 0, 1) := dc_30 (by decide +kernel)
theorem d_Long_bitCount_1 : decode b_Long_bitCount 1 = .ok (.lload_n 0, 1) := dc_30 (by decide +kernel)
theorem d_Long_bitCount_2 : decode b_Long_bitCount 2 = .ok (.iconst 1, 1) := dc_4 (by decide +kernel)
theorem d_Long_bitCount_3 : decode b_Long_bitCount 3 = .ok (.lushr, 1) := dc_125 (by decide +kernel)
theorem d_Long_bitCount_4 : decode b_Long_bitCount 4 = .ok (.ldc2_w 314, 3) := dc_20 (by decide +kernel)
theorem d_Long_bitCount_7 : decode b_Long_bitCount 7 = .ok (.land, 1) := dc_127 (by decide +kernel)
theorem d_Long_bitCount_8 : decode b_Long_bitCount 8 = .ok (.lsub, 1) := dc_101 (by decide +kernel)
theorem d_Long_bitCount_9 : decode b_Long_bitCount 9 = .ok (.lstore_n 0, 1) := dc_63 (by decide +kernel)
theorem d_Long_bitCount_10 : decode b_Long_bitCount 10 = .ok (.lload_n 0, 1) := dc_30 (by decide +kernel)
theorem d_Long_bitCount_11 : decode b_Long_bitCount 11 = .ok (.ldc2_w 316, 3) := dc_20 (by decide +kernel)
theorem d_Long_bitCount_14 : decode b_Long_bitCount 14 = .ok (.land, 1) := dc_127 (by decide +kernel)
theorem d_Long_bitCount_15 : decode b_Long_bitCount 15 = .ok (.lload_n 0, 1) := dc_30 (by decide +kernel)
theorem d_Long_bitCount_16 : decode b_Long_bitCount 16 = .ok (.iconst 2, 1) := dc_5 (by decide +kernel)
theorem d_Long_bitCount_17 : decode b_Long_bitCount 17 = .ok (.lushr, 1) := dc_125 (by decide +kernel)
theorem d_Long_bitCount_18 : decode b_Long_bitCount 18 = .ok (.ldc2_w 316, 3) := dc_20 (by decide +kernel)
theorem d_Long_bitCount_21 : decode b_Long_bitCount 21 = .ok (.land, 1) := dc_127 (by decide +kernel)
theorem d_Long_bitCount_22 : decode b_Long_bitCount 22 = .ok (.ladd, 1) := dc_97 (by decide +kernel)
theorem d_Long_bitCount_23 : decode b_Long_bitCount 23 = .ok (.lstore_n 0, 1) := dc_63 (by decide +kernel)
theorem d_Long_bitCount_24 : decode b_Long_bitCount 24 = .ok (.lload_n 0, 1) := dc_30 (by decide +kernel)
theorem d_Long_bitCount_25 : decode b_Long_bitCount 25 = .ok (.lload_n 0, 1) := dc_30 (by decide +kernel)
theorem d_Long_bitCount_26 : decode b_Long_bitCount 26 = .ok (.iconst 4, 1) := dc_7 (by decide +kernel)
theorem d_Long_bitCount_27 : decode b_Long_bitCount 27 = .ok (.lushr, 1) := dc_125 (by decide +kernel)
theorem d_Long_bitCount_28 : decode b_Long_bitCount 28 = .ok (.ladd, 1) := dc_97 (by decide +kernel)
theorem d_Long_bitCount_29 : decode b_Long_bitCount 29 = .ok (.ldc2_w 318, 3) := dc_20 (by decide +kernel)
theorem d_Long_bitCount_32 : decode b_Long_bitCount 32 = .ok (.land, 1) := dc_127 (by decide +kernel)
theorem d_Long_bitCount_33 : decode b_Long_bitCount 33 = .ok (.lstore_n 0, 1) := dc_63 (by decide +kernel)
theorem d_Long_bitCount_34 : decode b_Long_bitCount 34 = .ok (.lload_n 0, 1) := dc_30 (by decide +kernel)
theorem d_Long_bitCount_35 : decode b_Long_bitCount 35 = .ok (.lload_n 0, 1) := dc_30 (by decide +kernel)
theorem d_Long_bitCount_36 : decode b_Long_bitCount 36 = .ok (.bipush 8, 2) := dc_16 (by decide +kernel)
theorem d_Long_bitCount_38 : decode b_Long_bitCount 38 = .ok (.lushr, 1) := dc_125 (by decide +kernel)
theorem d_Long_bitCount_39 : decode b_Long_bitCount 39 = .ok (.ladd, 1) := dc_97 (by decide +kernel)
theorem d_Long_bitCount_40 : decode b_Long_bitCount 40 = .ok (.lstore_n 0, 1) := dc_63 (by decide +kernel)
theorem d_Long_bitCount_41 : decode b_Long_bitCount 41 = .ok (.lload_n 0, 1) := dc_30 (by decide +kernel)
theorem d_Long_bitCount_42 : decode b_Long_bitCount 42 = .ok (.lload_n 0, 1) := dc_30 (by decide +kernel)
theorem d_Long_bitCount_43 : decode b_Long_bitCount 43 = .ok (.bipush 16, 2) := dc_16 (by decide +kernel)
theorem d_Long_bitCount_45 : decode b_Long_bitCount 45 = .ok (.lushr, 1) := dc_125 (by decide +kernel)
theorem d_Long_bitCount_46 : decode b_Long_bitCount 46 = .ok (.ladd, 1) := dc_97 (by decide +kernel)
theorem d_Long_bitCount_47 : decode b_Long_bitCount 47 = .ok (.lstore_n 0, 1) := dc_63 (by decide +kernel)
theorem d_Long_bitCount_48 : decode b_Long_bitCount 48 = .ok (.lload_n 0, 1) := dc_30 (by decide +kernel)
theorem d_Long_bitCount_49 : decode b_Long_bitCount 49 = .ok (.lload_n 0, 1) := dc_30 (by decide +kernel)
theorem d_Long_bitCount_50 : decode b_Long_bitCount 50 = .ok (.bipush 32, 2) := dc_16 (by decide +kernel)
theorem d_Long_bitCount_52 : decode b_Long_bitCount 52 = .ok (.lushr, 1) := dc_125 (by decide +kernel)
theorem d_Long_bitCount_53 : decode b_Long_bitCount 53 = .ok (.ladd, 1) := dc_97 (by decide +kernel)
theorem d_Long_bitCount_54 : decode b_Long_bitCount 54 = .ok (.lstore_n 0, 1) := dc_63 (by decide +kernel)
theorem d_Long_bitCount_55 : decode b_Long_bitCount 55 = .ok (.lload_n 0, 1) := dc_30 (by decide +kernel)
theorem d_Long_bitCount_56 : decode b_Long_bitCount 56 = .ok (.l2i, 1) := dc_136 (by decide +kernel)
theorem d_Long_bitCount_57 : decode b_Long_bitCount 57 = .ok (.bipush 127, 2) := dc_16 (by decide +kernel)
theorem d_Long_bitCount_59 : decode b_Long_bitCount 59 = .ok (.iand, 1) := dc_126 (by decide +kernel)
theorem d_Long_bitCount_60 : decode b_Long_bitCount 60 = .ok (.ireturn, 1) := dc_172 (by decide +kernel)
def t_Long_bitCount (M : Mem) (x1 : Int64) : Int := (q_and (q_l2i ((((((((x1 - ((q_lushr x1 1) &&& 6148914691236517205)) &&& 3689348814741910323) + ((q_lushr (x1 - ((q_lushr x1 1) &&& 6148914691236517205)) 2) &&& 3689348814741910323)) + (q_lushr (((x1 - ((q_lushr x1 1) &&& 6148914691236517205)) &&& 3689348814741910323) + ((q_lushr (x1 - ((q_lushr x1 1) &&& 6148914691236517205)) 2) &&& 3689348814741910323)) 4)) &&& 1085102592571150095) + (q_lushr (((((x1 - ((q_lushr x1 1) &&& 6148914691236517205)) &&& 3689348814741910323) + ((q_lushr (x1 - ((q_lushr x1 1) &&& 6148914691236517205)) 2) &&& 3689348814741910323)) + (q_lushr (((x1 - ((q_lushr x1 1) &&& 6148914691236517205)) &&& 3689348814741910323) + ((q_lushr (x1 - ((q_lushr x1 1) &&& 6148914691236517205)) 2) &&& 3689348814741910323)) 4)) &&& 1085102592571150095) 8)) + (q_lushr ((((((x1 - ((q_lushr x1 1) &&& 6148914691236517205)) &&& 3689348814741910323) + ((q_lushr (x1 - ((q_lushr x1 1) &&& 6148914691236517205)) 2) &&& 3689348814741910323)) + (q_lushr (((x1 - ((q_lushr x1 1) &&& 6148914691236517205)) &&& 3689348814741910323) + ((q_lushr (x1 - ((q_lushr x1 1) &&& 6148914691236517205)) 2) &&& 3689348814741910323)) 4)) &&& 1085102592571150095) + (q_lushr (((((x1 - ((q_lushr x1 1) &&& 6148914691236517205)) &&& 3689348814741910323) + ((q_lushr (x1 - ((q_lushr x1 1) &&& 6148914691236517205)) 2) &&& 3689348814741910323)) + (q_lushr (((x1 - ((q_lushr x1 1) &&& 6148914691236517205)) &&& 3689348814741910323) + ((q_lushr (x1 - ((q_lushr x1 1) &&& 6148914691236517205)) 2) &&& 3689348814741910323)) 4)) &&& 1085102592571150095) 8)) 16)) + (q_lushr (((((((x1 - ((q_lushr x1 1) &&& 6148914691236517205)) &&& 3689348814741910323) + ((q_lushr (x1 - ((q_lushr x1 1) &&& 6148914691236517205)) 2) &&& 3689348814741910323)) + (q_lushr (((x1 - ((q_lushr x1 1) &&& 6148914691236517205)) &&& 3689348814741910323) + ((q_lushr (x1 - ((q_lushr x1 1) &&& 6148914691236517205)) 2) &&& 3689348814741910323)) 4)) &&& 1085102592571150095) + (q_lushr (((((x1 - ((q_lushr x1 1) &&& 6148914691236517205)) &&& 3689348814741910323) + ((q_lushr (x1 - ((q_lushr x1 1) &&& 6148914691236517205)) 2) &&& 3689348814741910323)) + (q_lushr (((x1 - ((q_lushr x1 1) &&& 6148914691236517205)) &&& 3689348814741910323) + ((q_lushr (x1 - ((q_lushr x1 1) &&& 6148914691236517205)) 2) &&& 3689348814741910323)) 4)) &&& 1085102592571150095) 8)) + (q_lushr ((((((x1 - ((q_lushr x1 1) &&& 6148914691236517205)) &&& 3689348814741910323) + ((q_lushr (x1 - ((q_lushr x1 1) &&& 6148914691236517205)) 2) &&& 3689348814741910323)) + (q_lushr (((x1 - ((q_lushr x1 1) &&& 6148914691236517205)) &&& 3689348814741910323) + ((q_lushr (x1 - ((q_lushr x1 1) &&& 6148914691236517205)) 2) &&& 3689348814741910323)) 4)) &&& 1085102592571150095) + (q_lushr (((((x1 - ((q_lushr x1 1) &&& 6148914691236517205)) &&& 3689348814741910323) + ((q_lushr (x1 - ((q_lushr x1 1) &&& 6148914691236517205)) 2) &&& 3689348814741910323)) + (q_lushr (((x1 - ((q_lushr x1 1) &&& 6148914691236517205)) &&& 3689348814741910323) + ((q_lushr (x1 - ((q_lushr x1 1) &&& 6148914691236517205)) 2) &&& 3689348814741910323)) 4)) &&& 1085102592571150095) 8)) 16)) 32))) 127)
set_option maxHeartbeats 4000000 in
set_option maxRecDepth 100000 in
theorem c_Long_bitCount (l : Launch) {b n : Nat} {C : CT} (hlo : 0 ≤ n) (M : Mem) (x1 : Int64)  (res : Int) (hT : t_Long_bitCount M x1 = res) : CM l b C n 0 y_Long_bitCount b_Long_bitCount 2 (some .int) [.long x1] M (QI b C n M res) := by
  refine CM.of (lo := 0) (ow := "java/lang/Long") (by decide) rfl (Nat.le_of_ble_eq_true rfl) hlo (fun p e s m below meth c F hlk hr hS ls hl => ?_)
  have hl : lv_has ls 2 [(0, .long x1)] := hl
  unfold t_Long_bitCount at hT
  refine lv_lload_n F.hx F.hb d_Long_bitCount_0 rfl (lv_at hl 0 rfl) ?_
  refine lv_lload_n F.hx F.hb d_Long_bitCount_1 rfl (lv_at hl 0 rfl) ?_
  refine r_iconst F.hx F.hb d_Long_bitCount_2 ?_
  refine r_lushr F.hx F.hb d_Long_bitCount_3 ?_
  refine lv_ldc2 (v := 6148914691236517205) F.hx F.hb F.hown (F.hts mw_764) d_Long_bitCount_4 ?_
  refine lv_land F.hx F.hb d_Long_bitCount_7 ?_
  refine lv_lsub F.hx F.hb d_Long_bitCount_8 ?_
  refine lv_lstore_n (lv' := [(0, .long (x1 - ((q_lushr x1 1) &&& 6148914691236517205)))]) F.hx F.hb d_Long_bitCount_9 rfl hl (Nat.le_of_ble_eq_true rfl) rfl (fun ls hl => ?_)
  refine lv_lload_n F.hx F.hb d_Long_bitCount_10 rfl (lv_at hl 0 rfl) ?_
  refine lv_ldc2 (v := 3689348814741910323) F.hx F.hb F.hown (F.hts mw_765) d_Long_bitCount_11 ?_
  refine lv_land F.hx F.hb d_Long_bitCount_14 ?_
  refine lv_lload_n F.hx F.hb d_Long_bitCount_15 rfl (lv_at hl 0 rfl) ?_
  refine r_iconst F.hx F.hb d_Long_bitCount_16 ?_
  refine r_lushr F.hx F.hb d_Long_bitCount_17 ?_
  refine lv_ldc2 (v := 3689348814741910323) F.hx F.hb F.hown (F.hts mw_765) d_Long_bitCount_18 ?_
  refine lv_land F.hx F.hb d_Long_bitCount_21 ?_
  refine lv_ladd F.hx F.hb d_Long_bitCount_22 ?_
  refine lv_lstore_n (lv' := [(0, .long (((x1 - ((q_lushr x1 1) &&& 6148914691236517205)) &&& 3689348814741910323) + ((q_lushr (x1 - ((q_lushr x1 1) &&& 6148914691236517205)) 2) &&& 3689348814741910323)))]) F.hx F.hb d_Long_bitCount_23 rfl hl (Nat.le_of_ble_eq_true rfl) rfl (fun ls hl => ?_)
  refine lv_lload_n F.hx F.hb d_Long_bitCount_24 rfl (lv_at hl 0 rfl) ?_
  refine lv_lload_n F.hx F.hb d_Long_bitCount_25 rfl (lv_at hl 0 rfl) ?_
  refine r_iconst F.hx F.hb d_Long_bitCount_26 ?_
  refine r_lushr F.hx F.hb d_Long_bitCount_27 ?_
  refine lv_ladd F.hx F.hb d_Long_bitCount_28 ?_
  refine lv_ldc2 (v := 1085102592571150095) F.hx F.hb F.hown (F.hts mw_766) d_Long_bitCount_29 ?_
  refine lv_land F.hx F.hb d_Long_bitCount_32 ?_
  refine lv_lstore_n (lv' := [(0, .long (((((x1 - ((q_lushr x1 1) &&& 6148914691236517205)) &&& 3689348814741910323) + ((q_lushr (x1 - ((q_lushr x1 1) &&& 6148914691236517205)) 2) &&& 3689348814741910323)) + (q_lushr (((x1 - ((q_lushr x1 1) &&& 6148914691236517205)) &&& 3689348814741910323) + ((q_lushr (x1 - ((q_lushr x1 1) &&& 6148914691236517205)) 2) &&& 3689348814741910323)) 4)) &&& 1085102592571150095))]) F.hx F.hb d_Long_bitCount_33 rfl hl (Nat.le_of_ble_eq_true rfl) rfl (fun ls hl => ?_)
  refine lv_lload_n F.hx F.hb d_Long_bitCount_34 rfl (lv_at hl 0 rfl) ?_
  refine lv_lload_n F.hx F.hb d_Long_bitCount_35 rfl (lv_at hl 0 rfl) ?_
  refine r_bipush F.hx F.hb d_Long_bitCount_36 rfl ?_
  refine r_lushr F.hx F.hb d_Long_bitCount_38 ?_
  refine lv_ladd F.hx F.hb d_Long_bitCount_39 ?_
  refine lv_lstore_n (lv' := [(0, .long ((((((x1 - ((q_lushr x1 1) &&& 6148914691236517205)) &&& 3689348814741910323) + ((q_lushr (x1 - ((q_lushr x1 1) &&& 6148914691236517205)) 2) &&& 3689348814741910323)) + (q_lushr (((x1 - ((q_lushr x1 1) &&& 6148914691236517205)) &&& 3689348814741910323) + ((q_lushr (x1 - ((q_lushr x1 1) &&& 6148914691236517205)) 2) &&& 3689348814741910323)) 4)) &&& 1085102592571150095) + (q_lushr (((((x1 - ((q_lushr x1 1) &&& 6148914691236517205)) &&& 3689348814741910323) + ((q_lushr (x1 - ((q_lushr x1 1) &&& 6148914691236517205)) 2) &&& 3689348814741910323)) + (q_lushr (((x1 - ((q_lushr x1 1) &&& 6148914691236517205)) &&& 3689348814741910323) + ((q_lushr (x1 - ((q_lushr x1 1) &&& 6148914691236517205)) 2) &&& 3689348814741910323)) 4)) &&& 1085102592571150095) 8)))]) F.hx F.hb d_Long_bitCount_40 rfl hl (Nat.le_of_ble_eq_true rfl) rfl (fun ls hl => ?_)
  refine lv_lload_n F.hx F.hb d_Long_bitCount_41 rfl (lv_at hl 0 rfl) ?_
  refine lv_lload_n F.hx F.hb d_Long_bitCount_42 rfl (lv_at hl 0 rfl) ?_
  refine r_bipush F.hx F.hb d_Long_bitCount_43 rfl ?_
  refine r_lushr F.hx F.hb d_Long_bitCount_45 ?_
  refine lv_ladd F.hx F.hb d_Long_bitCount_46 ?_
  refine lv_lstore_n (lv' := [(0, .long (((((((x1 - ((q_lushr x1 1) &&& 6148914691236517205)) &&& 3689348814741910323) + ((q_lushr (x1 - ((q_lushr x1 1) &&& 6148914691236517205)) 2) &&& 3689348814741910323)) + (q_lushr (((x1 - ((q_lushr x1 1) &&& 6148914691236517205)) &&& 3689348814741910323) + ((q_lushr (x1 - ((q_lushr x1 1) &&& 6148914691236517205)) 2) &&& 3689348814741910323)) 4)) &&& 1085102592571150095) + (q_lushr (((((x1 - ((q_lushr x1 1) &&& 6148914691236517205)) &&& 3689348814741910323) + ((q_lushr (x1 - ((q_lushr x1 1) &&& 6148914691236517205)) 2) &&& 3689348814741910323)) + (q_lushr (((x1 - ((q_lushr x1 1) &&& 6148914691236517205)) &&& 3689348814741910323) + ((q_lushr (x1 - ((q_lushr x1 1) &&& 6148914691236517205)) 2) &&& 3689348814741910323)) 4)) &&& 1085102592571150095) 8)) + (q_lushr ((((((x1 - ((q_lushr x1 1) &&& 6148914691236517205)) &&& 3689348814741910323) + ((q_lushr (x1 - ((q_lushr x1 1) &&& 6148914691236517205)) 2) &&& 3689348814741910323)) + (q_lushr (((x1 - ((q_lushr x1 1) &&& 6148914691236517205)) &&& 3689348814741910323) + ((q_lushr (x1 - ((q_lushr x1 1) &&& 6148914691236517205)) 2) &&& 3689348814741910323)) 4)) &&& 1085102592571150095) + (q_lushr (((((x1 - ((q_lushr x1 1) &&& 6148914691236517205)) &&& 3689348814741910323) + ((q_lushr (x1 - ((q_lushr x1 1) &&& 6148914691236517205)) 2) &&& 3689348814741910323)) + (q_lushr (((x1 - ((q_lushr x1 1) &&& 6148914691236517205)) &&& 3689348814741910323) + ((q_lushr (x1 - ((q_lushr x1 1) &&& 6148914691236517205)) 2) &&& 3689348814741910323)) 4)) &&& 1085102592571150095) 8)) 16)))]) F.hx F.hb d_Long_bitCount_47 rfl hl (Nat.le_of_ble_eq_true rfl) rfl (fun ls hl => ?_)
  refine lv_lload_n F.hx F.hb d_Long_bitCount_48 rfl (lv_at hl 0 rfl) ?_
  refine lv_lload_n F.hx F.hb d_Long_bitCount_49 rfl (lv_at hl 0 rfl) ?_
  refine r_bipush F.hx F.hb d_Long_bitCount_50 rfl ?_
  refine r_lushr F.hx F.hb d_Long_bitCount_52 ?_
  refine lv_ladd F.hx F.hb d_Long_bitCount_53 ?_
  refine lv_lstore_n (lv' := [(0, .long ((((((((x1 - ((q_lushr x1 1) &&& 6148914691236517205)) &&& 3689348814741910323) + ((q_lushr (x1 - ((q_lushr x1 1) &&& 6148914691236517205)) 2) &&& 3689348814741910323)) + (q_lushr (((x1 - ((q_lushr x1 1) &&& 6148914691236517205)) &&& 3689348814741910323) + ((q_lushr (x1 - ((q_lushr x1 1) &&& 6148914691236517205)) 2) &&& 3689348814741910323)) 4)) &&& 1085102592571150095) + (q_lushr (((((x1 - ((q_lushr x1 1) &&& 6148914691236517205)) &&& 3689348814741910323) + ((q_lushr (x1 - ((q_lushr x1 1) &&& 6148914691236517205)) 2) &&& 3689348814741910323)) + (q_lushr (((x1 - ((q_lushr x1 1) &&& 6148914691236517205)) &&& 3689348814741910323) + ((q_lushr (x1 - ((q_lushr x1 1) &&& 6148914691236517205)) 2) &&& 3689348814741910323)) 4)) &&& 1085102592571150095) 8)) + (q_lushr ((((((x1 - ((q_lushr x1 1) &&& 6148914691236517205)) &&& 3689348814741910323) + ((q_lushr (x1 - ((q_lushr x1 1) &&& 6148914691236517205)) 2) &&& 3689348814741910323)) + (q_lushr (((x1 - ((q_lushr x1 1) &&& 6148914691236517205)) &&& 3689348814741910323) + ((q_lushr (x1 - ((q_lushr x1 1) &&& 6148914691236517205)) 2) &&& 3689348814741910323)) 4)) &&& 1085102592571150095) + (q_lushr (((((x1 - ((q_lushr x1 1) &&& 6148914691236517205)) &&& 3689348814741910323) + ((q_lushr (x1 - ((q_lushr x1 1) &&& 6148914691236517205)) 2) &&& 3689348814741910323)) + (q_lushr (((x1 - ((q_lushr x1 1) &&& 6148914691236517205)) &&& 3689348814741910323) + ((q_lushr (x1 - ((q_lushr x1 1) &&& 6148914691236517205)) 2) &&& 3689348814741910323)) 4)) &&& 1085102592571150095) 8)) 16)) + (q_lushr (((((((x1 - ((q_lushr x1 1) &&& 6148914691236517205)) &&& 3689348814741910323) + ((q_lushr (x1 - ((q_lushr x1 1) &&& 6148914691236517205)) 2) &&& 3689348814741910323)) + (q_lushr (((x1 - ((q_lushr x1 1) &&& 6148914691236517205)) &&& 3689348814741910323) + ((q_lushr (x1 - ((q_lushr x1 1) &&& 6148914691236517205)) 2) &&& 3689348814741910323)) 4)) &&& 1085102592571150095) + (q_lushr (((((x1 - ((q_lushr x1 1) &&& 6148914691236517205)) &&& 3689348814741910323) + ((q_lushr (x1 - ((q_lushr x1 1) &&& 6148914691236517205)) 2) &&& 3689348814741910323)) + (q_lushr (((x1 - ((q_lushr x1 1) &&& 6148914691236517205)) &&& 3689348814741910323) + ((q_lushr (x1 - ((q_lushr x1 1) &&& 6148914691236517205)) 2) &&& 3689348814741910323)) 4)) &&& 1085102592571150095) 8)) + (q_lushr ((((((x1 - ((q_lushr x1 1) &&& 6148914691236517205)) &&& 3689348814741910323) + ((q_lushr (x1 - ((q_lushr x1 1) &&& 6148914691236517205)) 2) &&& 3689348814741910323)) + (q_lushr (((x1 - ((q_lushr x1 1) &&& 6148914691236517205)) &&& 3689348814741910323) + ((q_lushr (x1 - ((q_lushr x1 1) &&& 6148914691236517205)) 2) &&& 3689348814741910323)) 4)) &&& 1085102592571150095) + (q_lushr (((((x1 - ((q_lushr x1 1) &&& 6148914691236517205)) &&& 3689348814741910323) + ((q_lushr (x1 - ((q_lushr x1 1) &&& 6148914691236517205)) 2) &&& 3689348814741910323)) + (q_lushr (((x1 - ((q_lushr x1 1) &&& 6148914691236517205)) &&& 3689348814741910323) + ((q_lushr (x1 - ((q_lushr x1 1) &&& 6148914691236517205)) 2) &&& 3689348814741910323)) 4)) &&& 1085102592571150095) 8)) 16)) 32)))]) F.hx F.hb d_Long_bitCount_54 rfl hl (Nat.le_of_ble_eq_true rfl) rfl (fun ls hl => ?_)
  refine lv_lload_n F.hx F.hb d_Long_bitCount_55 rfl (lv_at hl 0 rfl) ?_
  refine r_l2i F.hx F.hb d_Long_bitCount_56 ?_
  refine r_bipush F.hx F.hb d_Long_bitCount_57 rfl ?_
  refine r_iand F.hx F.hb d_Long_bitCount_59 ?_
  subst hT
  exact r_iret F hlk hr rfl hS (q_inr_toInt _) d_Long_bitCount_60
theorem d_Reader_takeCell_0 : decode b_Reader_takeCell 0 = .ok (.aload_n 0, 1) := dc_42 (by decide +kernel)
theorem d_Reader_takeCell_1 : decode b_Reader_takeCell 1 = .ok (.iconst 0, 1) := dc_3 (by decide +kernel)
theorem d_Reader_takeCell_2 : decode b_Reader_takeCell 2 = .ok (.aload_n 1, 1) := dc_43 (by decide +kernel)
theorem d_Reader_takeCell_3 : decode b_Reader_takeCell 3 = .ok (.getfield 101, 3) := dc_180 (by decide +kernel)
theorem d_Reader_takeCell_6 : decode b_Reader_takeCell 6 = .ok (.iconst 1, 1) := dc_4 (by decide +kernel)
theorem d_Reader_takeCell_7 : decode b_Reader_takeCell 7 = .ok (.isub, 1) := dc_100 (by decide +kernel)
theorem d_Reader_takeCell_8 : decode b_Reader_takeCell 8 = .ok (.invokevirtual 97, 3) := dc_182 (by decide +kernel)
theorem d_Reader_takeCell_11 : decode b_Reader_takeCell 11 = .ok (.istore_n 2, 1) := dc_61 (by decide +kernel)
theorem d_Reader_takeCell_12 : decode b_Reader_takeCell 12 = .ok (.iload_n 2, 1) := dc_28 (by decide +kernel)
theorem d_Reader_takeCell_13 : decode b_Reader_takeCell 13 = .ok (.ifCond .ge 7, 3) := dc_156 (by decide +kernel)
theorem d_Reader_takeCell_16 : decode b_Reader_takeCell 16 = .ok (.iconst (-1), 1) := dc_2 (by decide +kernel)
theorem d_Reader_takeCell_17 : decode b_Reader_takeCell 17 = .ok (.goto 14, 3) := dc_167 (by decide +kernel)
theorem d_Reader_takeCell_20 : decode b_Reader_takeCell 20 = .ok (.aload_n 0, 1) := dc_42 (by decide +kernel)
theorem d_Reader_takeCell_21 : decode b_Reader_takeCell 21 = .ok (.iconst 0, 1) := dc_3 (by decide +kernel)
theorem d_Reader_takeCell_22 : decode b_Reader_takeCell 22 = .ok (.aload_n 1, 1) := dc_43 (by decide +kernel)
theorem d_Reader_takeCell_23 : decode b_Reader_takeCell 23 = .ok (.getfield 104, 3) := dc_180 (by decide +kernel)
theorem d_Reader_takeCell_26 : decode b_Reader_takeCell 26 = .ok (.iconst 1, 1) := dc_4 (by decide +kernel)
theorem d_Reader_takeCell_27 : decode b_Reader_takeCell 27 = .ok (.isub, 1) := dc_100 (by decide +kernel)
theorem d_Reader_takeCell_28 : decode b_Reader_takeCell 28 = .ok (.invokevirtual 97, 3) := dc_182 (by decide +kernel)
theorem d_Reader_takeCell_31 : decode b_Reader_takeCell 31 = .ok (.istore_n 3, 1) := dc_62 (by decide +kernel)
theorem d_Reader_takeCell_32 : decode b_Reader_takeCell 32 = .ok (.iload_n 3, 1) := dc_29 (by decide +kernel)
theorem d_Reader_takeCell_33 : decode b_Reader_takeCell 33 = .ok (.ifCond .ge 7, 3) := dc_156 (by decide +kernel)
theorem d_Reader_takeCell_36 : decode b_Reader_takeCell 36 = .ok (.iconst (-1), 1) := dc_2 (by decide +kernel)
theorem d_Reader_takeCell_37 : decode b_Reader_takeCell 37 = .ok (.goto 11, 3) := dc_167 (by decide +kernel)
theorem d_Reader_takeCell_40 : decode b_Reader_takeCell 40 = .ok (.iload_n 3, 1) := dc_29 (by decide +kernel)
theorem d_Reader_takeCell_41 : decode b_Reader_takeCell 41 = .ok (.aload_n 1, 1) := dc_43 (by decide +kernel)
theorem d_Reader_takeCell_42 : decode b_Reader_takeCell 42 = .ok (.getfield 101, 3) := dc_180 (by decide +kernel)
theorem d_Reader_takeCell_45 : decode b_Reader_takeCell 45 = .ok (.imul, 1) := dc_104 (by decide +kernel)
theorem d_Reader_takeCell_46 : decode b_Reader_takeCell 46 = .ok (.iload_n 2, 1) := dc_28 (by decide +kernel)
theorem d_Reader_takeCell_47 : decode b_Reader_takeCell 47 = .ok (.iadd, 1) := dc_96 (by decide +kernel)
theorem d_Reader_takeCell_48 : decode b_Reader_takeCell 48 = .ok (.ireturn, 1) := dc_172 (by decide +kernel)
def t_Reader_takeCell_L31 (k1 : Nat)  (M : Mem) (v1_ : Int) (v2_ : Int) : Option (Mem × Int) := (if 0 ≤ v2_ then (some (M, (w32 ((w32 (v2_ * (M.1 k1 11))) + v1_)))) else (some (M, (-1))))
def t_Reader_takeCell (M : Mem) (k1 : Nat) : Option (Mem × Int) := (obind (t_Reader_takeNumber M 0 (w32 ((M.1 k1 11) - 1))) fun q2 => (if 0 ≤ (q2.2) then (obind (t_Reader_takeNumber (q2.1) 0 (w32 (((q2.1).1 k1 12) - 1))) fun q6 => (t_Reader_takeCell_L31 k1 (q6.1) (q2.2) (q6.2))) else (t_Reader_takeCell_L31 k1 (q2.1) (q2.2) (-1))))
set_option maxHeartbeats 4000000 in
set_option maxRecDepth 100000 in
theorem k_Reader_takeCell_L31 (l : Launch) {p : Program} {e : Env} {s : State} {m : MethodId} {below : List Frame} {meth : Method} {c : Code} {b n : Nat} {C : CT} (hlo : 191 ≤ n) (k1 : Nat) (hk1 : isTown k1) (F : Cx b p m c b_Reader_takeCell 4 s ([.ref (b + 46), .ref (b + k1)] : List Value).toArray "WardFalls$Reader" C n 191) (hlk : meth.locks = false) (hr : meth.sig.returnType = some .int) {res : Mem × Int} (M : Mem) (v1_ : Int) (hv1_ : InR v1_) (v2_ : Int) (hv2_ : InR v2_) (H : Heap) (locs : List Loc) (ls : Array Slot) (hS : St b C n M s H locs) (hl : lv_has ls 4 [(1, .ref (b + k1)), (2, vI v1_)]) (hT : t_Reader_takeCell_L31 k1 M v1_ v2_ = some res) : W p l e (headSpec (wsM y_Reader_takeCell b_Reader_takeCell 4 (some .int)) (rmD 4)).room s m ([.ref (b + 46), .ref (b + k1)] : List Value).toArray below meth c H locs 0 0 (MQ below (QI b C n res.1 res.2) ([.ref (b + 46), .ref (b + k1)] : List Value).toArray s 0 0 (frb b)) (F0 m 31 ls [vI v2_]) := by
  unfold t_Reader_takeCell_L31 at hT
  refine lv_istore_n (lv' := [(3, vI v2_), (1, .ref (b + k1)), (2, vI v1_)]) F.hx F.hb d_Reader_takeCell_31 rfl hl (Nat.le_of_ble_eq_true rfl) rfl (fun ls hl => ?_)
  refine lv_iload_n F.hx F.hb d_Reader_takeCell_32 rfl (lv_at hl 0 rfl) ?_
  refine r_if_ge (tgt := 40) F.hx F.hb hv2_ d_Reader_takeCell_33 (by decide) (fun c8 => ?_) (fun c8 => ?_)
  · replace hT := (if_pos c8).symm.trans hT
    refine lv_iload_n F.hx F.hb d_Reader_takeCell_40 rfl (lv_at hl 0 rfl) ?_
    refine lv_aload_n F.hx F.hb d_Reader_takeCell_41 rfl (lv_at hl 1 rfl) ?_
    refine r_get (v := vI (M.1 k1 11)) (N := 20) (T := T11) (j := 11) F hS (Town_lt hk1) (Town_sh hk1) (Town_N hk1) rfl (Nat.le_of_ble_eq_true rfl) ing11 mw_122 (fv_int rfl) d_Reader_takeCell_42 ?_
    have i9 := hS.rng k1 11
    refine r_imul F.hx F.hb d_Reader_takeCell_45 ?_
    refine lv_iload_n F.hx F.hb d_Reader_takeCell_46 rfl (lv_at hl 2 rfl) ?_
    refine r_iadd F.hx F.hb d_Reader_takeCell_47 ?_
    cases hT
    exact r_iret F hlk hr rfl hS (inr_w32 _) d_Reader_takeCell_48
  · replace hT := (if_neg c8).symm.trans hT
    refine r_iconst F.hx F.hb d_Reader_takeCell_36 ?_
    refine lv_goto (tgt := 48) F.hx F.hb d_Reader_takeCell_37 (by decide) ?_
    cases hT
    exact r_iret F hlk hr rfl hS (inr_c rfl) d_Reader_takeCell_48
set_option maxHeartbeats 4000000 in
set_option maxRecDepth 100000 in
theorem c_Reader_takeCell (l : Launch) {b n : Nat} {C : CT} (hlo : 191 ≤ n) (M : Mem) (k1 : Nat) (hk1 : isTown k1) (res : Mem × Int) (hT : t_Reader_takeCell M k1 = some res) : CM l b C n 4 y_Reader_takeCell b_Reader_takeCell 4 (some .int) [.ref (b + 46), .ref (b + k1)] M (QI b C n res.1 res.2) := by
  refine CM.of (lo := 191) (ow := "WardFalls$Reader") (by decide) rfl (Nat.le_of_ble_eq_true rfl) hlo (fun p e s m below meth c F hlk hr hS ls hl => ?_)
  have hl : lv_has ls 4 [(0, .ref (b + 46)), (1, .ref (b + k1))] := hl
  unfold t_Reader_takeCell at hT
  refine lv_aload_n F.hx F.hb d_Reader_takeCell_0 rfl (lv_at hl 0 rfl) ?_
  refine r_iconst F.hx F.hb d_Reader_takeCell_1 ?_
  refine lv_aload_n F.hx F.hb d_Reader_takeCell_2 rfl (lv_at hl 1 rfl) ?_
  refine r_get (v := vI (M.1 k1 11)) (N := 20) (T := T11) (j := 11) F hS (Town_lt hk1) (Town_sh hk1) (Town_N hk1) rfl (Nat.le_of_ble_eq_true rfl) ing11 mw_122 (fv_int rfl) d_Reader_takeCell_3 ?_
  have i1 := hS.rng k1 11
  refine r_iconst F.hx F.hb d_Reader_takeCell_6 ?_
  refine r_isub F.hx F.hb d_Reader_takeCell_7 ?_
  obtain ⟨q2, hq2, hT⟩ := q_obind hT
  refine r_backI F hS (r_runV (k := 46) (N := 11) (T := T8) (As := [vI 0, vI (w32 ((M.1 k1 11) - 1))]) F hS (show 46 < 191 by decide) (show shK 46 = 12 from rfl) rfl (c_Reader_takeNumber l F.2.2.1 M 0 (w32 ((M.1 k1 11) - 1)) (inr_c rfl) (inr_w32 _) _ hq2) gs_Reader_97 hd_Reader_takeNumber ⟨Nat.le_of_ble_eq_true rfl, Nat.le_of_ble_eq_true rfl⟩ rfl hl.1 (Nat.le_of_ble_eq_true rfl) ⟨Nat.zero_le _, Nat.zero_le _⟩ rfl d_Reader_takeCell_8) (fun H locs hS h3 => ?_)
  refine lv_istore_n (lv' := [(2, vI (q2.2)), (0, .ref (b + 46)), (1, .ref (b + k1))]) F.hx F.hb d_Reader_takeCell_11 rfl hl (Nat.le_of_ble_eq_true rfl) rfl (fun ls hl => ?_)
  refine lv_iload_n F.hx F.hb d_Reader_takeCell_12 rfl (lv_at hl 0 rfl) ?_
  refine r_if_ge (tgt := 20) F.hx F.hb h3 d_Reader_takeCell_13 (by decide) (fun c4 => ?_) (fun c4 => ?_)
  · replace hT := (if_pos c4).symm.trans hT
    refine lv_aload_n F.hx F.hb d_Reader_takeCell_20 rfl (lv_at hl 1 rfl) ?_
    refine r_iconst F.hx F.hb d_Reader_takeCell_21 ?_
    refine lv_aload_n F.hx F.hb d_Reader_takeCell_22 rfl (lv_at hl 2 rfl) ?_
    refine r_get (v := vI ((q2.1).1 k1 12)) (N := 20) (T := T11) (j := 12) F hS (Town_lt hk1) (Town_sh hk1) (Town_N hk1) rfl (Nat.le_of_ble_eq_true rfl) ing11 mw_125 (fv_int rfl) d_Reader_takeCell_23 ?_
    have i5 := hS.rng k1 12
    refine r_iconst F.hx F.hb d_Reader_takeCell_26 ?_
    refine r_isub F.hx F.hb d_Reader_takeCell_27 ?_
    obtain ⟨q6, hq6, hT⟩ := q_obind hT
    refine r_backI F hS (r_runV (k := 46) (N := 11) (T := T8) (As := [vI 0, vI (w32 (((q2.1).1 k1 12) - 1))]) F hS (show 46 < 191 by decide) (show shK 46 = 12 from rfl) rfl (c_Reader_takeNumber l F.2.2.1 (q2.1) 0 (w32 (((q2.1).1 k1 12) - 1)) (inr_c rfl) (inr_w32 _) _ hq6) gs_Reader_97 hd_Reader_takeNumber ⟨Nat.le_of_ble_eq_true rfl, Nat.le_of_ble_eq_true rfl⟩ rfl hl.1 (Nat.le_of_ble_eq_true rfl) ⟨Nat.zero_le _, Nat.zero_le _⟩ rfl d_Reader_takeCell_28) (fun H locs hS h7 => ?_)
    exact k_Reader_takeCell_L31 l hlo k1 hk1 F hlk hr (q6.1) (q2.2) h3 (q6.2) h7 _ _ _ hS (lv_sub hl [2, 0] rfl) hT
  · replace hT := (if_neg c4).symm.trans hT
    refine r_iconst F.hx F.hb d_Reader_takeCell_16 ?_
    refine lv_goto (tgt := 31) F.hx F.hb d_Reader_takeCell_17 (by decide) ?_
    exact k_Reader_takeCell_L31 l hlo k1 hk1 F hlk hr (q2.1) (q2.2) h3 (-1) (inr_c rfl) _ _ _ hS (lv_sub hl [2, 0] rfl) hT
theorem d_WF_bitOf_0 : decode b_WF_bitOf 0 = .ok (.lload_n 0, 1) := dc_30 (by decide +kernel)
theorem d_WF_bitOf_1 : decode b_WF_bitOf 1 = .ok (.iload_n 2, 1) := dc_28 (by decide +kernel)
theorem d_WF_bitOf_2 : decode b_WF_bitOf 2 = .ok (.lushr, 1) := dc_125 (by decide +kernel)
theorem d_WF_bitOf_3 : decode b_WF_bitOf 3 = .ok (.lconst 1, 1) := dc_10 (by decide +kernel)
theorem d_WF_bitOf_4 : decode b_WF_bitOf 4 = .ok (.land, 1) := dc_127 (by decide +kernel)
theorem d_WF_bitOf_5 : decode b_WF_bitOf 5 = .ok (.l2i, 1) := dc_136 (by decide +kernel)
theorem d_WF_bitOf_6 : decode b_WF_bitOf 6 = .ok (.ireturn, 1) := dc_172 (by decide +kernel)
def t_WF_bitOf (M : Mem) (x1 : Int64) (x2 : Int) : Int := (q_l2i ((q_lushr x1 x2) &&& 1))
set_option maxHeartbeats 4000000 in
set_option maxRecDepth 100000 in
theorem c_WF_bitOf (l : Launch) {b n : Nat} {C : CT} (hlo : 191 ≤ n) (M : Mem) (x1 : Int64) (x2 : Int) (hx2 : InR x2) (res : Int) (hT : t_WF_bitOf M x1 x2 = res) : CM l b C n 0 y_WF_bitOf b_WF_bitOf 3 (some .int) [.long x1, vI x2] M (QI b C n M res) := by
  refine CM.of (lo := 191) (ow := "WardFalls") (by decide) rfl (Nat.le_of_ble_eq_true rfl) hlo (fun p e s m below meth c F hlk hr hS ls hl => ?_)
  have hl : lv_has ls 3 [(0, .long x1), (2, vI x2)] := hl
  unfold t_WF_bitOf at hT
  refine lv_lload_n F.hx F.hb d_WF_bitOf_0 rfl (lv_at hl 0 rfl) ?_
  refine lv_iload_n F.hx F.hb d_WF_bitOf_1 rfl (lv_at hl 1 rfl) ?_
  refine r_lushr F.hx F.hb d_WF_bitOf_2 ?_
  refine lv_lconst (v := 1) F.hx F.hb d_WF_bitOf_3 rfl ?_
  refine lv_land F.hx F.hb d_WF_bitOf_4 ?_
  refine r_l2i F.hx F.hb d_WF_bitOf_5 ?_
  subst hT
  exact r_iret F hlk hr rfl hS (q_inr_toInt _) d_WF_bitOf_6
theorem d_Reader_readWall_0 : decode b_Reader_readWall 0 = .ok (.aload_n 1, 1) := dc_43 (by decide +kernel)
theorem d_Reader_readWall_1 : decode b_Reader_readWall 1 = .ok (.getfield 84, 3) := dc_180 (by decide +kernel)
theorem d_Reader_readWall_4 : decode b_Reader_readWall 4 = .ok (.invokestatic 144, 3) := dc_184 (by decide +kernel)
theorem d_Reader_readWall_7 : decode b_Reader_readWall 7 = .ok (.bipush 12, 2) := dc_16 (by decide +kernel)
theorem d_Reader_readWall_9 : decode b_Reader_readWall 9 = .ok (.if_icmp .lt 13, 3) := dc_161 (by decide +kernel)
theorem d_Reader_readWall_12 : decode b_Reader_readWall 12 = .ok (.aload_n 0, 1) := dc_42 (by decide +kernel)
theorem d_Reader_readWall_13 : decode b_Reader_readWall 13 = .ok (.iconst 2, 1) := dc_5 (by decide +kernel)
theorem d_Reader_readWall_14 : decode b_Reader_readWall 14 = .ok (.aload_n 0, 1) := dc_42 (by decide +kernel)
theorem d_Reader_readWall_15 : decode b_Reader_readWall 15 = .ok (.getfield 44, 3) := dc_180 (by decide +kernel)
theorem d_Reader_readWall_18 : decode b_Reader_readWall 18 = .ok (.invokevirtual 47, 3) := dc_182 (by decide +kernel)
theorem d_Reader_readWall_21 : decode b_Reader_readWall 21 = .ok (.ireturn, 1) := dc_172 (by decide +kernel)
theorem d_Reader_readWall_22 : decode b_Reader_readWall 22 = .ok (.aload_n 0, 1) := dc_42 (by decide +kernel)
theorem d_Reader_readWall_23 : decode b_Reader_readWall 23 = .ok (.aload_n 0, 1) := dc_42 (by decide +kernel)
theorem d_Reader_readWall_24 : decode b_Reader_readWall 24 = .ok (.getfield 94, 3) := dc_180 (by decide +kernel)
theorem d_Reader_readWall_27 : decode b_Reader_readWall 27 = .ok (.iconst 1, 1) := dc_4 (by decide +kernel)
theorem d_Reader_readWall_28 : decode b_Reader_readWall 28 = .ok (.iadd, 1) := dc_96 (by decide +kernel)
theorem d_Reader_readWall_29 : decode b_Reader_readWall 29 = .ok (.invokevirtual 80, 3) := dc_182 (by decide +kernel)
theorem d_Reader_readWall_32 : decode b_Reader_readWall 32 = .ok (.aload_n 0, 1) := dc_42 (by decide +kernel)
theorem d_Reader_readWall_33 : decode b_Reader_readWall 33 = .ok (.aload_n 1, 1) := dc_43 (by decide +kernel)
theorem d_Reader_readWall_34 : decode b_Reader_readWall 34 = .ok (.invokevirtual 150, 3) := dc_182 (by decide +kernel)
theorem d_Reader_readWall_37 : decode b_Reader_readWall 37 = .ok (.istore_n 2, 1) := dc_61 (by decide +kernel)
theorem d_Reader_readWall_38 : decode b_Reader_readWall 38 = .ok (.iload_n 2, 1) := dc_28 (by decide +kernel)
theorem d_Reader_readWall_39 : decode b_Reader_readWall 39 = .ok (.ifCond .ge 5, 3) := dc_156 (by decide +kernel)
theorem d_Reader_readWall_42 : decode b_Reader_readWall 42 = .ok (.iconst 0, 1) := dc_3 (by decide +kernel)
theorem d_Reader_readWall_43 : decode b_Reader_readWall 43 = .ok (.ireturn, 1) := dc_172 (by decide +kernel)
theorem d_Reader_readWall_44 : decode b_Reader_readWall 44 = .ok (.aload_n 1, 1) := dc_43 (by decide +kernel)
theorem d_Reader_readWall_45 : decode b_Reader_readWall 45 = .ok (.getfield 84, 3) := dc_180 (by decide +kernel)
theorem d_Reader_readWall_48 : decode b_Reader_readWall 48 = .ok (.iload_n 2, 1) := dc_28 (by decide +kernel)
theorem d_Reader_readWall_49 : decode b_Reader_readWall 49 = .ok (.invokestatic 154, 3) := dc_184 (by decide +kernel)
theorem d_Reader_readWall_52 : decode b_Reader_readWall 52 = .ok (.iconst 1, 1) := dc_4 (by decide +kernel)
theorem d_Reader_readWall_53 : decode b_Reader_readWall 53 = .ok (.if_icmp .ne 13, 3) := dc_160 (by decide +kernel)
theorem d_Reader_readWall_56 : decode b_Reader_readWall 56 = .ok (.aload_n 0, 1) := dc_42 (by decide +kernel)
theorem d_Reader_readWall_57 : decode b_Reader_readWall 57 = .ok (.iconst 3, 1) := dc_6 (by decide +kernel)
theorem d_Reader_readWall_58 : decode b_Reader_readWall 58 = .ok (.aload_n 0, 1) := dc_42 (by decide +kernel)
theorem d_Reader_readWall_59 : decode b_Reader_readWall 59 = .ok (.getfield 138, 3) := dc_180 (by decide +kernel)
theorem d_Reader_readWall_62 : decode b_Reader_readWall 62 = .ok (.invokevirtual 47, 3) := dc_182 (by decide +kernel)
theorem d_Reader_readWall_65 : decode b_Reader_readWall 65 = .ok (.ireturn, 1) := dc_172 (by decide +kernel)
theorem d_Reader_readWall_66 : decode b_Reader_readWall 66 = .ok (.aload_n 1, 1) := dc_43 (by decide +kernel)
theorem d_Reader_readWall_67 : decode b_Reader_readWall 67 = .ok (.getfield 88, 3) := dc_180 (by decide +kernel)
theorem d_Reader_readWall_70 : decode b_Reader_readWall 70 = .ok (.iload_n 2, 1) := dc_28 (by decide +kernel)
theorem d_Reader_readWall_71 : decode b_Reader_readWall 71 = .ok (.invokestatic 154, 3) := dc_184 (by decide +kernel)
theorem d_Reader_readWall_74 : decode b_Reader_readWall 74 = .ok (.iconst 1, 1) := dc_4 (by decide +kernel)
theorem d_Reader_readWall_75 : decode b_Reader_readWall 75 = .ok (.if_icmp .eq 18, 3) := dc_159 (by decide +kernel)
theorem d_Reader_readWall_78 : decode b_Reader_readWall 78 = .ok (.aload_n 1, 1) := dc_43 (by decide +kernel)
theorem d_Reader_readWall_79 : decode b_Reader_readWall 79 = .ok (.getfield 158, 3) := dc_180 (by decide +kernel)
theorem d_Reader_readWall_82 : decode b_Reader_readWall 82 = .ok (.aload_n 1, 1) := dc_43 (by decide +kernel)
theorem d_Reader_readWall_83 : decode b_Reader_readWall 83 = .ok (.getfield 91, 3) := dc_180 (by decide +kernel)
theorem d_Reader_readWall_86 : decode b_Reader_readWall 86 = .ok (.iload_n 2, 1) := dc_28 (by decide +kernel)
theorem d_Reader_readWall_87 : decode b_Reader_readWall 87 = .ok (.invokestatic 134, 3) := dc_184 (by decide +kernel)
theorem d_Reader_readWall_90 : decode b_Reader_readWall 90 = .ok (.ifCond .lt 13, 3) := dc_155 (by decide +kernel)
theorem d_Reader_readWall_93 : decode b_Reader_readWall 93 = .ok (.aload_n 0, 1) := dc_42 (by decide +kernel)
theorem d_Reader_readWall_94 : decode b_Reader_readWall 94 = .ok (.iconst 5, 1) := dc_8 (by decide +kernel)
theorem d_Reader_readWall_95 : decode b_Reader_readWall 95 = .ok (.aload_n 0, 1) := dc_42 (by decide +kernel)
theorem d_Reader_readWall_96 : decode b_Reader_readWall 96 = .ok (.getfield 138, 3) := dc_180 (by decide +kernel)
theorem d_Reader_readWall_99 : decode b_Reader_readWall 99 = .ok (.invokevirtual 47, 3) := dc_182 (by decide +kernel)
theorem d_Reader_readWall_102 : decode b_Reader_readWall 102 = .ok (.ireturn, 1) := dc_172 (by decide +kernel)
theorem d_Reader_readWall_103 : decode b_Reader_readWall 103 = .ok (.aload_n 1, 1) := dc_43 (by decide +kernel)
theorem d_Reader_readWall_104 : decode b_Reader_readWall 104 = .ok (.dup, 1) := dc_89 (by decide +kernel)
theorem d_Reader_readWall_105 : decode b_Reader_readWall 105 = .ok (.getfield 84, 3) := dc_180 (by decide +kernel)
theorem d_Reader_readWall_108 : decode b_Reader_readWall 108 = .ok (.lconst 1, 1) := dc_10 (by decide +kernel)
theorem d_Reader_readWall_109 : decode b_Reader_readWall 109 = .ok (.iload_n 2, 1) := dc_28 (by decide +kernel)
theorem d_Reader_readWall_110 : decode b_Reader_readWall 110 = .ok (.lshl, 1) := dc_121 (by decide +kernel)
theorem d_Reader_readWall_111 : decode b_Reader_readWall 111 = .ok (.lor, 1) := dc_129 (by decide +kernel)
theorem d_Reader_readWall_112 : decode b_Reader_readWall 112 = .ok (.putfield 84, 3) := dc_181 (by decide +kernel)
theorem d_Reader_readWall_115 : decode b_Reader_readWall 115 = .ok (.iconst 1, 1) := dc_4 (by decide +kernel)
theorem d_Reader_readWall_116 : decode b_Reader_readWall 116 = .ok (.ireturn, 1) := dc_172 (by decide +kernel)
def t_Reader_readWall_L93 (k1 : Nat)  (M : Mem)  : Option (Mem × Int) := (qlet (t_Reader_refuse M 5 (M.1 46 5)) fun q28 => (some ((q28.1), (q28.2))))
def t_Reader_readWall (M : Mem) (k1 : Nat) : Option (Mem × Int) := (qlet (t_Long_bitCount M (M.2 k1 18)) fun q1 => (if q1 < 12 then (obind (t_Reader_goTo M (w32 ((M.1 46 1) + 1))) fun q5 => (obind (t_Reader_takeCell q5 k1) fun q7 => (if 0 ≤ (q7.2) then (qlet (t_WF_bitOf (q7.1) ((q7.1).2 k1 18) (q7.2)) fun q10 => (if q10 = 1 then (qlet (t_Reader_refuse (q7.1) 3 ((q7.1).1 46 5)) fun q22 => (some ((q22.1), (q22.2)))) else (qlet (t_WF_bitOf (q7.1) ((q7.1).2 k1 19) (q7.2)) fun q13 => (if q13 = 1 then (t_Reader_readWall_L93 k1 (q7.1)) else (obind (t_WF_indexOf (q7.1) (k1 + 7) 8 ((q7.1).1 k1 15) (q7.2)) fun q17 => (if q17 < 0 then (qlet (setL (q7.1) k1 18 (((q7.1).2 k1 18) ||| (q_lshl 1 (q7.2)))) fun M20 => (some (M20, 1))) else (t_Reader_readWall_L93 k1 (q7.1)))))))) else (some ((q7.1), 0))))) else (qlet (t_Reader_refuse M 2 (M.1 46 4)) fun q25 => (some ((q25.1), (q25.2))))))
set_option maxHeartbeats 4000000 in
set_option maxRecDepth 100000 in
theorem k_Reader_readWall_L93 (l : Launch) {p : Program} {e : Env} {s : State} {m : MethodId} {below : List Frame} {meth : Method} {c : Code} {b n : Nat} {C : CT} (hlo : 191 ≤ n) (k1 : Nat) (hk1 : isTown k1) (F : Cx b p m c b_Reader_readWall 3 s ([.ref (b + 46), .ref (b + k1)] : List Value).toArray "WardFalls$Reader" C n 191) (hlk : meth.locks = false) (hr : meth.sig.returnType = some .boolean) {res : Mem × Int} (M : Mem)  (H : Heap) (locs : List Loc) (ls : Array Slot) (hS : St b C n M s H locs) (hl : lv_has ls 3 [(0, .ref (b + 46))]) (hT : t_Reader_readWall_L93 k1 M = some res) : W p l e (headSpec (wsM y_Reader_readWall b_Reader_readWall 3 (some .boolean)) (rmD 5)).room s m ([.ref (b + 46), .ref (b + k1)] : List Value).toArray below meth c H locs 0 0 (MQ below (QZ b C n res.1 res.2) ([.ref (b + 46), .ref (b + k1)] : List Value).toArray s 0 0 (frb b)) (F0 m 93 ls []) := by
  unfold t_Reader_readWall_L93 at hT
  refine lv_aload_n F.hx F.hb d_Reader_readWall_93 rfl (lv_at hl 0 rfl) ?_
  refine r_iconst F.hx F.hb d_Reader_readWall_94 ?_
  refine lv_aload_n F.hx F.hb d_Reader_readWall_95 rfl (lv_at hl 0 rfl) ?_
  refine r_get (v := vI (M.1 46 5)) (N := 11) (T := T8) (j := 5) F hS (show 46 < 191 by decide) (show shK 46 = 12 from rfl) (show shN 46 = 11 from rfl) rfl (Nat.le_of_ble_eq_true rfl) ing8 mw_235 (fv_int rfl) d_Reader_readWall_96 ?_
  have i27 := hS.rng 46 5
  obtain ⟨q28, hq28⟩ : ∃ q, q = (t_Reader_refuse M 5 (M.1 46 5)) := ⟨_, rfl⟩
  replace hT := qlet_eq hT hq28
  refine r_backZ F hS (r_runV (k := 46) (N := 11) (T := T8) (As := [vI 5, vI (M.1 46 5)]) F hS (show 46 < 191 by decide) (show shK 46 = 12 from rfl) rfl (c_Reader_refuse l F.2.2.1 M 5 (M.1 46 5) (inr_c rfl) i27 _ hq28.symm) gs_Reader_47 hd_Reader_refuse ⟨Nat.le_of_ble_eq_true rfl, Nat.le_of_ble_eq_true rfl⟩ rfl hl.1 (Nat.le_of_ble_eq_true rfl) ⟨Nat.zero_le _, Nat.zero_le _⟩ rfl d_Reader_readWall_99) (fun H locs hS h29 => ?_)
  cases hT
  exact r_zret F hlk hr hS h29 d_Reader_readWall_102
set_option maxHeartbeats 4000000 in
set_option maxRecDepth 100000 in
theorem c_Reader_readWall (l : Launch) {b n : Nat} {C : CT} (hlo : 191 ≤ n) (M : Mem) (k1 : Nat) (hk1 : isTown k1) (res : Mem × Int) (hT : t_Reader_readWall M k1 = some res) : CM l b C n 5 y_Reader_readWall b_Reader_readWall 3 (some .boolean) [.ref (b + 46), .ref (b + k1)] M (QZ b C n res.1 res.2) := by
  refine CM.of (lo := 191) (ow := "WardFalls$Reader") (by decide) rfl (Nat.le_of_ble_eq_true rfl) hlo (fun p e s m below meth c F hlk hr hS ls hl => ?_)
  have hl : lv_has ls 3 [(0, .ref (b + 46)), (1, .ref (b + k1))] := hl
  unfold t_Reader_readWall at hT
  refine lv_aload_n F.hx F.hb d_Reader_readWall_0 rfl (lv_at hl 1 rfl) ?_
  refine r_get (v := .long (M.2 k1 18)) (N := 20) (T := T11) (j := 18) F hS (Town_lt hk1) (Town_sh hk1) (Town_N hk1) rfl (Nat.le_of_ble_eq_true rfl) ing11 mw_153 (fv_long rfl) d_Reader_readWall_1 ?_
  obtain ⟨q1, hq1⟩ : ∃ q, q = (t_Long_bitCount M (M.2 k1 18)) := ⟨_, rfl⟩
  replace hT := qlet_eq hT hq1
  refine r_backI F hS (r_runS (As := [.long (M.2 k1 18)]) F hS (c_Long_bitCount l (Nat.zero_le _) M (M.2 k1 18) _ hq1.symm) gs_Reader_144 hd_Long_bitCount ⟨Nat.le_of_ble_eq_true rfl, Nat.le_of_ble_eq_true rfl⟩ rfl hl.1 (Nat.le_of_ble_eq_true rfl) ⟨Nat.zero_le _, Nat.zero_le _⟩ rfl d_Reader_readWall_4) (fun H locs hS h2 => ?_)
  refine r_bipush F.hx F.hb d_Reader_readWall_7 rfl ?_
  refine r_icmp_lt (tgt := 22) F.hx F.hb h2 (inr_c rfl) d_Reader_readWall_9 (by decide) (fun c3 => ?_) (fun c3 => ?_)
  · replace hT := (if_pos c3).symm.trans hT
    refine lv_aload_n F.hx F.hb d_Reader_readWall_22 rfl (lv_at hl 0 rfl) ?_
    refine lv_aload_n F.hx F.hb d_Reader_readWall_23 rfl (lv_at hl 0 rfl) ?_
    refine r_get (v := vI (M.1 46 1)) (N := 11) (T := T8) (j := 1) F hS (show 46 < 191 by decide) (show shK 46 = 12 from rfl) (show shN 46 = 11 from rfl) rfl (Nat.le_of_ble_eq_true rfl) ing8 mw_231 (fv_int rfl) d_Reader_readWall_24 ?_
    have i4 := hS.rng 46 1
    refine r_iconst F.hx F.hb d_Reader_readWall_27 ?_
    refine r_iadd F.hx F.hb d_Reader_readWall_28 ?_
    obtain ⟨q5, hq5, hT⟩ := q_obind hT
    refine r_backV F hS (r_runV (k := 46) (N := 11) (T := T8) (As := [vI (w32 ((M.1 46 1) + 1))]) F hS (show 46 < 191 by decide) (show shK 46 = 12 from rfl) rfl (c_Reader_goTo l F.2.2.1 M (w32 ((M.1 46 1) + 1)) (inr_w32 _) _ hq5) gs_Reader_80 hd_Reader_goTo ⟨Nat.le_of_ble_eq_true rfl, Nat.le_of_ble_eq_true rfl⟩ rfl hl.1 (Nat.le_of_ble_eq_true rfl) ⟨Nat.zero_le _, Nat.zero_le _⟩ rfl d_Reader_readWall_29) (fun H locs hS => ?_)
    refine lv_aload_n F.hx F.hb d_Reader_readWall_32 rfl (lv_at hl 0 rfl) ?_
    refine lv_aload_n F.hx F.hb d_Reader_readWall_33 rfl (lv_at hl 1 rfl) ?_
    obtain ⟨q7, hq7, hT⟩ := q_obind hT
    refine r_backI F hS (r_runV (k := 46) (N := 11) (T := T8) (As := [.ref (b + k1)]) F hS (show 46 < 191 by decide) (show shK 46 = 12 from rfl) rfl (c_Reader_takeCell l F.2.2.1 q5 k1 hk1 _ hq7) gs_Reader_150 hd_Reader_takeCell ⟨Nat.le_of_ble_eq_true rfl, Nat.le_of_ble_eq_true rfl⟩ rfl hl.1 (Nat.le_of_ble_eq_true rfl) ⟨Nat.zero_le _, Nat.zero_le _⟩ rfl d_Reader_readWall_34) (fun H locs hS h8 => ?_)
    refine lv_istore_n (lv' := [(2, vI (q7.2)), (0, .ref (b + 46)), (1, .ref (b + k1))]) F.hx F.hb d_Reader_readWall_37 rfl hl (Nat.le_of_ble_eq_true rfl) rfl (fun ls hl => ?_)
    refine lv_iload_n F.hx F.hb d_Reader_readWall_38 rfl (lv_at hl 0 rfl) ?_
    refine r_if_ge (tgt := 44) F.hx F.hb h8 d_Reader_readWall_39 (by decide) (fun c9 => ?_) (fun c9 => ?_)
    · replace hT := (if_pos c9).symm.trans hT
      refine lv_aload_n F.hx F.hb d_Reader_readWall_44 rfl (lv_at hl 2 rfl) ?_
      refine r_get (v := .long ((q7.1).2 k1 18)) (N := 20) (T := T11) (j := 18) F hS (Town_lt hk1) (Town_sh hk1) (Town_N hk1) rfl (Nat.le_of_ble_eq_true rfl) ing11 mw_153 (fv_long rfl) d_Reader_readWall_45 ?_
      refine lv_iload_n F.hx F.hb d_Reader_readWall_48 rfl (lv_at hl 0 rfl) ?_
      obtain ⟨q10, hq10⟩ : ∃ q, q = (t_WF_bitOf (q7.1) ((q7.1).2 k1 18) (q7.2)) := ⟨_, rfl⟩
      replace hT := qlet_eq hT hq10
      refine r_backI F hS (r_runSN (As := [.long ((q7.1).2 k1 18), vI (q7.2)]) F hS (c_WF_bitOf l F.2.2.1 (q7.1) ((q7.1).2 k1 18) (q7.2) h8 _ hq10.symm) mw_773 mw_772 mw_1 gs_Reader_154 hd_WF_bitOf ⟨Nat.le_of_ble_eq_true rfl, Nat.le_of_ble_eq_true rfl⟩ rfl hl.1 (Nat.le_of_ble_eq_true rfl) ⟨Nat.zero_le _, Nat.zero_le _⟩ rfl d_Reader_readWall_49) (fun H locs hS h11 => ?_)
      refine r_iconst F.hx F.hb d_Reader_readWall_52 ?_
      refine r_icmp_ne (tgt := 66) F.hx F.hb h11 (inr_c rfl) d_Reader_readWall_53 (by decide) (fun c12 => ?_) (fun c12 => ?_)
      · replace hT := (if_neg c12).symm.trans hT
        refine lv_aload_n F.hx F.hb d_Reader_readWall_66 rfl (lv_at hl 2 rfl) ?_
        refine r_get (v := .long ((q7.1).2 k1 19)) (N := 20) (T := T11) (j := 19) F hS (Town_lt hk1) (Town_sh hk1) (Town_N hk1) rfl (Nat.le_of_ble_eq_true rfl) ing11 mw_155 (fv_long rfl) d_Reader_readWall_67 ?_
        refine lv_iload_n F.hx F.hb d_Reader_readWall_70 rfl (lv_at hl 0 rfl) ?_
        obtain ⟨q13, hq13⟩ : ∃ q, q = (t_WF_bitOf (q7.1) ((q7.1).2 k1 19) (q7.2)) := ⟨_, rfl⟩
        replace hT := qlet_eq hT hq13
        refine r_backI F hS (r_runSN (As := [.long ((q7.1).2 k1 19), vI (q7.2)]) F hS (c_WF_bitOf l F.2.2.1 (q7.1) ((q7.1).2 k1 19) (q7.2) h8 _ hq13.symm) mw_773 mw_772 mw_1 gs_Reader_154 hd_WF_bitOf ⟨Nat.le_of_ble_eq_true rfl, Nat.le_of_ble_eq_true rfl⟩ rfl hl.1 (Nat.le_of_ble_eq_true rfl) ⟨Nat.zero_le _, Nat.zero_le _⟩ rfl d_Reader_readWall_71) (fun H locs hS h14 => ?_)
        refine r_iconst F.hx F.hb d_Reader_readWall_74 ?_
        refine r_icmp_eq (tgt := 93) F.hx F.hb h14 (inr_c rfl) d_Reader_readWall_75 (by decide) (fun c15 => ?_) (fun c15 => ?_)
        · replace hT := (if_pos c15).symm.trans hT
          exact k_Reader_readWall_L93 l hlo k1 hk1 F hlk hr (q7.1) _ _ _ hS (lv_sub hl [1] rfl) hT
        · replace hT := (if_neg c15).symm.trans hT
          refine lv_aload_n F.hx F.hb d_Reader_readWall_78 rfl (lv_at hl 2 rfl) ?_
          refine r_get (v := .ref (b + (k1 + 7))) (N := 20) (T := T11) (j := 6) F hS (Town_lt hk1) (Town_sh hk1) (Town_N hk1) rfl (Nat.le_of_ble_eq_true rfl) ing11 mw_110 (Town_g6 hk1 _) d_Reader_readWall_79 ?_
          refine lv_aload_n F.hx F.hb d_Reader_readWall_82 rfl (lv_at hl 2 rfl) ?_
          refine r_get (v := vI ((q7.1).1 k1 15)) (N := 20) (T := T11) (j := 15) F hS (Town_lt hk1) (Town_sh hk1) (Town_N hk1) rfl (Nat.le_of_ble_eq_true rfl) ing11 mw_142 (fv_int rfl) d_Reader_readWall_83 ?_
          have i16 := hS.rng k1 15
          refine lv_iload_n F.hx F.hb d_Reader_readWall_86 rfl (lv_at hl 0 rfl) ?_
          obtain ⟨q17, hq17, hT⟩ := q_obind hT
          refine r_backI F hS (r_runSN (As := [.ref (b + (k1 + 7)), vI ((q7.1).1 k1 15), vI (q7.2)]) F hS (c_WF_indexOf l F.2.2.1 (q7.1) (k1 + 7) 8 ((q7.1).1 k1 15) (q7.2) (Town_f6 hk1) i16 h8 _ hq17) mw_748 mw_747 mw_1 gs_Reader_134 hd_WF_indexOf ⟨Nat.le_of_ble_eq_true rfl, Nat.le_of_ble_eq_true rfl⟩ rfl hl.1 (Nat.le_of_ble_eq_true rfl) ⟨Nat.zero_le _, Nat.zero_le _⟩ rfl d_Reader_readWall_87) (fun H locs hS h18 => ?_)
          refine r_if_lt (tgt := 103) F.hx F.hb h18 d_Reader_readWall_90 (by decide) (fun c19 => ?_) (fun c19 => ?_)
          · replace hT := (if_pos c19).symm.trans hT
            refine lv_aload_n F.hx F.hb d_Reader_readWall_103 rfl (lv_at hl 2 rfl) ?_
            refine lv_dup F.hx F.hb d_Reader_readWall_104 rfl ?_
            refine r_get (v := .long ((q7.1).2 k1 18)) (N := 20) (T := T11) (j := 18) F hS (Town_lt hk1) (Town_sh hk1) (Town_N hk1) rfl (Nat.le_of_ble_eq_true rfl) ing11 mw_153 (fv_long rfl) d_Reader_readWall_105 ?_
            refine lv_lconst (v := 1) F.hx F.hb d_Reader_readWall_108 rfl ?_
            refine lv_iload_n F.hx F.hb d_Reader_readWall_109 rfl (lv_at hl 0 rfl) ?_
            refine r_lshl F.hx F.hb d_Reader_readWall_110 ?_
            refine lv_lor F.hx F.hb d_Reader_readWall_111 ?_
            refine r_putL (N := 20) (T := T11) (j := 18) F hS (Town_lt hk1) (Town_sh hk1) (Town_N hk1) rfl (Nat.le_of_ble_eq_true rfl) ing11 tyok11 nm11 rfl rfl rfl mw_153 d_Reader_readWall_112 (fun H locs hS => ?_)
            obtain ⟨M20, eM20⟩ : ∃ q, q = (setL (q7.1) k1 18 (((q7.1).2 k1 18) ||| (q_lshl 1 (q7.2)))) := ⟨_, rfl⟩
            replace hS : St b C n M20 s H locs := by rw [eM20]; exact hS
            replace hT := qlet_eq hT eM20
            refine r_iconst F.hx F.hb d_Reader_readWall_115 ?_
            cases hT
            exact r_zret F hlk hr hS (Or.inr rfl) d_Reader_readWall_116
          · replace hT := (if_neg c19).symm.trans hT
            exact k_Reader_readWall_L93 l hlo k1 hk1 F hlk hr (q7.1) _ _ _ hS (lv_sub hl [1] rfl) hT
      · replace hT := (if_pos c12).symm.trans hT
        refine lv_aload_n F.hx F.hb d_Reader_readWall_56 rfl (lv_at hl 1 rfl) ?_
        refine r_iconst F.hx F.hb d_Reader_readWall_57 ?_
        refine lv_aload_n F.hx F.hb d_Reader_readWall_58 rfl (lv_at hl 1 rfl) ?_
        refine r_get (v := vI ((q7.1).1 46 5)) (N := 11) (T := T8) (j := 5) F hS (show 46 < 191 by decide) (show shK 46 = 12 from rfl) (show shN 46 = 11 from rfl) rfl (Nat.le_of_ble_eq_true rfl) ing8 mw_235 (fv_int rfl) d_Reader_readWall_59 ?_
        have i21 := hS.rng 46 5
        obtain ⟨q22, hq22⟩ : ∃ q, q = (t_Reader_refuse (q7.1) 3 ((q7.1).1 46 5)) := ⟨_, rfl⟩
        replace hT := qlet_eq hT hq22
        refine r_backZ F hS (r_runV (k := 46) (N := 11) (T := T8) (As := [vI 3, vI ((q7.1).1 46 5)]) F hS (show 46 < 191 by decide) (show shK 46 = 12 from rfl) rfl (c_Reader_refuse l F.2.2.1 (q7.1) 3 ((q7.1).1 46 5) (inr_c rfl) i21 _ hq22.symm) gs_Reader_47 hd_Reader_refuse ⟨Nat.le_of_ble_eq_true rfl, Nat.le_of_ble_eq_true rfl⟩ rfl hl.1 (Nat.le_of_ble_eq_true rfl) ⟨Nat.zero_le _, Nat.zero_le _⟩ rfl d_Reader_readWall_62) (fun H locs hS h23 => ?_)
        cases hT
        exact r_zret F hlk hr hS h23 d_Reader_readWall_65
    · replace hT := (if_neg c9).symm.trans hT
      refine r_iconst F.hx F.hb d_Reader_readWall_42 ?_
      cases hT
      exact r_zret F hlk hr hS (Or.inl rfl) d_Reader_readWall_43
  · replace hT := (if_neg c3).symm.trans hT
    refine lv_aload_n F.hx F.hb d_Reader_readWall_12 rfl (lv_at hl 0 rfl) ?_
    refine r_iconst F.hx F.hb d_Reader_readWall_13 ?_
    refine lv_aload_n F.hx F.hb d_Reader_readWall_14 rfl (lv_at hl 0 rfl) ?_
    refine r_get (v := vI (M.1 46 4)) (N := 11) (T := T8) (j := 4) F hS (show 46 < 191 by decide) (show shK 46 = 12 from rfl) (show shN 46 = 11 from rfl) rfl (Nat.le_of_ble_eq_true rfl) ing8 mw_234 (fv_int rfl) d_Reader_readWall_15 ?_
    have i24 := hS.rng 46 4
    obtain ⟨q25, hq25⟩ : ∃ q, q = (t_Reader_refuse M 2 (M.1 46 4)) := ⟨_, rfl⟩
    replace hT := qlet_eq hT hq25
    refine r_backZ F hS (r_runV (k := 46) (N := 11) (T := T8) (As := [vI 2, vI (M.1 46 4)]) F hS (show 46 < 191 by decide) (show shK 46 = 12 from rfl) rfl (c_Reader_refuse l F.2.2.1 M 2 (M.1 46 4) (inr_c rfl) i24 _ hq25.symm) gs_Reader_47 hd_Reader_refuse ⟨Nat.le_of_ble_eq_true rfl, Nat.le_of_ble_eq_true rfl⟩ rfl hl.1 (Nat.le_of_ble_eq_true rfl) ⟨Nat.zero_le _, Nat.zero_le _⟩ rfl d_Reader_readWall_18) (fun H locs hS h26 => ?_)
    cases hT
    exact r_zret F hlk hr hS h26 d_Reader_readWall_21
theorem d_Reader_readStair_0 : decode b_Reader_readStair 0 = .ok (.aload_n 1, 1) := dc_43 (by decide +kernel)
theorem d_Reader_readStair_1 : decode b_Reader_readStair 1 = .ok (.getfield 88, 3) := dc_180 (by decide +kernel)
theorem d_Reader_readStair_4 : decode b_Reader_readStair 4 = .ok (.invokestatic 144, 3) := dc_184 (by decide +kernel)
theorem d_Reader_readStair_7 : decode b_Reader_readStair 7 = .ok (.bipush 8, 2) := dc_16 (by decide +kernel)
theorem d_Reader_readStair_9 : decode b_Reader_readStair 9 = .ok (.if_icmp .lt 13, 3) := dc_161 (by decide +kernel)
theorem d_Reader_readStair_12 : decode b_Reader_readStair 12 = .ok (.aload_n 0, 1) := dc_42 (by decide +kernel)
theorem d_Reader_readStair_13 : decode b_Reader_readStair 13 = .ok (.iconst 2, 1) := dc_5 (by decide +kernel)
theorem d_Reader_readStair_14 : decode b_Reader_readStair 14 = .ok (.aload_n 0, 1) := dc_42 (by decide +kernel)
theorem d_Reader_readStair_15 : decode b_Reader_readStair 15 = .ok (.getfield 44, 3) := dc_180 (by decide +kernel)
theorem d_Reader_readStair_18 : decode b_Reader_readStair 18 = .ok (.invokevirtual 47, 3) := dc_182 (by decide +kernel)
theorem d_Reader_readStair_21 : decode b_Reader_readStair 21 = .ok (.ireturn, 1) := dc_172 (by decide +kernel)
theorem d_Reader_readStair_22 : decode b_Reader_readStair 22 = .ok (.aload_n 0, 1) := dc_42 (by decide +kernel)
theorem d_Reader_readStair_23 : decode b_Reader_readStair 23 = .ok (.aload_n 0, 1) := dc_42 (by decide +kernel)
theorem d_Reader_readStair_24 : decode b_Reader_readStair 24 = .ok (.getfield 94, 3) := dc_180 (by decide +kernel)
theorem d_Reader_readStair_27 : decode b_Reader_readStair 27 = .ok (.iconst 1, 1) := dc_4 (by decide +kernel)
theorem d_Reader_readStair_28 : decode b_Reader_readStair 28 = .ok (.iadd, 1) := dc_96 (by decide +kernel)
theorem d_Reader_readStair_29 : decode b_Reader_readStair 29 = .ok (.invokevirtual 80, 3) := dc_182 (by decide +kernel)
theorem d_Reader_readStair_32 : decode b_Reader_readStair 32 = .ok (.aload_n 0, 1) := dc_42 (by decide +kernel)
theorem d_Reader_readStair_33 : decode b_Reader_readStair 33 = .ok (.aload_n 1, 1) := dc_43 (by decide +kernel)
theorem d_Reader_readStair_34 : decode b_Reader_readStair 34 = .ok (.invokevirtual 150, 3) := dc_182 (by decide +kernel)
theorem d_Reader_readStair_37 : decode b_Reader_readStair 37 = .ok (.istore_n 2, 1) := dc_61 (by decide +kernel)
theorem d_Reader_readStair_38 : decode b_Reader_readStair 38 = .ok (.iload_n 2, 1) := dc_28 (by decide +kernel)
theorem d_Reader_readStair_39 : decode b_Reader_readStair 39 = .ok (.ifCond .ge 5, 3) := dc_156 (by decide +kernel)
theorem d_Reader_readStair_42 : decode b_Reader_readStair 42 = .ok (.iconst 0, 1) := dc_3 (by decide +kernel)
theorem d_Reader_readStair_43 : decode b_Reader_readStair 43 = .ok (.ireturn, 1) := dc_172 (by decide +kernel)
theorem d_Reader_readStair_44 : decode b_Reader_readStair 44 = .ok (.aload_n 1, 1) := dc_43 (by decide +kernel)
theorem d_Reader_readStair_45 : decode b_Reader_readStair 45 = .ok (.getfield 88, 3) := dc_180 (by decide +kernel)
theorem d_Reader_readStair_48 : decode b_Reader_readStair 48 = .ok (.iload_n 2, 1) := dc_28 (by decide +kernel)
theorem d_Reader_readStair_49 : decode b_Reader_readStair 49 = .ok (.invokestatic 154, 3) := dc_184 (by decide +kernel)
theorem d_Reader_readStair_52 : decode b_Reader_readStair 52 = .ok (.iconst 1, 1) := dc_4 (by decide +kernel)
theorem d_Reader_readStair_53 : decode b_Reader_readStair 53 = .ok (.if_icmp .ne 13, 3) := dc_160 (by decide +kernel)
theorem d_Reader_readStair_56 : decode b_Reader_readStair 56 = .ok (.aload_n 0, 1) := dc_42 (by decide +kernel)
theorem d_Reader_readStair_57 : decode b_Reader_readStair 57 = .ok (.iconst 3, 1) := dc_6 (by decide +kernel)
theorem d_Reader_readStair_58 : decode b_Reader_readStair 58 = .ok (.aload_n 0, 1) := dc_42 (by decide +kernel)
theorem d_Reader_readStair_59 : decode b_Reader_readStair 59 = .ok (.getfield 138, 3) := dc_180 (by decide +kernel)
theorem d_Reader_readStair_62 : decode b_Reader_readStair 62 = .ok (.invokevirtual 47, 3) := dc_182 (by decide +kernel)
theorem d_Reader_readStair_65 : decode b_Reader_readStair 65 = .ok (.ireturn, 1) := dc_172 (by decide +kernel)
theorem d_Reader_readStair_66 : decode b_Reader_readStair 66 = .ok (.aload_n 1, 1) := dc_43 (by decide +kernel)
theorem d_Reader_readStair_67 : decode b_Reader_readStair 67 = .ok (.getfield 84, 3) := dc_180 (by decide +kernel)
theorem d_Reader_readStair_70 : decode b_Reader_readStair 70 = .ok (.iload_n 2, 1) := dc_28 (by decide +kernel)
theorem d_Reader_readStair_71 : decode b_Reader_readStair 71 = .ok (.invokestatic 154, 3) := dc_184 (by decide +kernel)
theorem d_Reader_readStair_74 : decode b_Reader_readStair 74 = .ok (.iconst 1, 1) := dc_4 (by decide +kernel)
theorem d_Reader_readStair_75 : decode b_Reader_readStair 75 = .ok (.if_icmp .ne 13, 3) := dc_160 (by decide +kernel)
theorem d_Reader_readStair_78 : decode b_Reader_readStair 78 = .ok (.aload_n 0, 1) := dc_42 (by decide +kernel)
theorem d_Reader_readStair_79 : decode b_Reader_readStair 79 = .ok (.iconst 5, 1) := dc_8 (by decide +kernel)
theorem d_Reader_readStair_80 : decode b_Reader_readStair 80 = .ok (.aload_n 0, 1) := dc_42 (by decide +kernel)
theorem d_Reader_readStair_81 : decode b_Reader_readStair 81 = .ok (.getfield 138, 3) := dc_180 (by decide +kernel)
theorem d_Reader_readStair_84 : decode b_Reader_readStair 84 = .ok (.invokevirtual 47, 3) := dc_182 (by decide +kernel)
theorem d_Reader_readStair_87 : decode b_Reader_readStair 87 = .ok (.ireturn, 1) := dc_172 (by decide +kernel)
theorem d_Reader_readStair_88 : decode b_Reader_readStair 88 = .ok (.aload_n 1, 1) := dc_43 (by decide +kernel)
theorem d_Reader_readStair_89 : decode b_Reader_readStair 89 = .ok (.dup, 1) := dc_89 (by decide +kernel)
theorem d_Reader_readStair_90 : decode b_Reader_readStair 90 = .ok (.getfield 88, 3) := dc_180 (by decide +kernel)
theorem d_Reader_readStair_93 : decode b_Reader_readStair 93 = .ok (.lconst 1, 1) := dc_10 (by decide +kernel)
theorem d_Reader_readStair_94 : decode b_Reader_readStair 94 = .ok (.iload_n 2, 1) := dc_28 (by decide +kernel)
theorem d_Reader_readStair_95 : decode b_Reader_readStair 95 = .ok (.lshl, 1) := dc_121 (by decide +kernel)
theorem d_Reader_readStair_96 : decode b_Reader_readStair 96 = .ok (.lor, 1) := dc_129 (by decide +kernel)
theorem d_Reader_readStair_97 : decode b_Reader_readStair 97 = .ok (.putfield 88, 3) := dc_181 (by decide +kernel)
theorem d_Reader_readStair_100 : decode b_Reader_readStair 100 = .ok (.iconst 1, 1) := dc_4 (by decide +kernel)
theorem d_Reader_readStair_101 : decode b_Reader_readStair 101 = .ok (.ireturn, 1) := dc_172 (by decide +kernel)
def t_Reader_readStair (M : Mem) (k1 : Nat) : Option (Mem × Int) := (qlet (t_Long_bitCount M (M.2 k1 19)) fun q1 => (if q1 < 8 then (obind (t_Reader_goTo M (w32 ((M.1 46 1) + 1))) fun q5 => (obind (t_Reader_takeCell q5 k1) fun q7 => (if 0 ≤ (q7.2) then (qlet (t_WF_bitOf (q7.1) ((q7.1).2 k1 19) (q7.2)) fun q10 => (if q10 = 1 then (qlet (t_Reader_refuse (q7.1) 3 ((q7.1).1 46 5)) fun q21 => (some ((q21.1), (q21.2)))) else (qlet (t_WF_bitOf (q7.1) ((q7.1).2 k1 18) (q7.2)) fun q13 => (if q13 = 1 then (qlet (t_Reader_refuse (q7.1) 5 ((q7.1).1 46 5)) fun q18 => (some ((q18.1), (q18.2)))) else (qlet (setL (q7.1) k1 19 (((q7.1).2 k1 19) ||| (q_lshl 1 (q7.2)))) fun M16 => (some (M16, 1))))))) else (some ((q7.1), 0))))) else (qlet (t_Reader_refuse M 2 (M.1 46 4)) fun q24 => (some ((q24.1), (q24.2))))))
set_option maxHeartbeats 4000000 in
set_option maxRecDepth 100000 in
theorem c_Reader_readStair (l : Launch) {b n : Nat} {C : CT} (hlo : 191 ≤ n) (M : Mem) (k1 : Nat) (hk1 : isTown k1) (res : Mem × Int) (hT : t_Reader_readStair M k1 = some res) : CM l b C n 5 y_Reader_readStair b_Reader_readStair 3 (some .boolean) [.ref (b + 46), .ref (b + k1)] M (QZ b C n res.1 res.2) := by
  refine CM.of (lo := 191) (ow := "WardFalls$Reader") (by decide) rfl (Nat.le_of_ble_eq_true rfl) hlo (fun p e s m below meth c F hlk hr hS ls hl => ?_)
  have hl : lv_has ls 3 [(0, .ref (b + 46)), (1, .ref (b + k1))] := hl
  unfold t_Reader_readStair at hT
  refine lv_aload_n F.hx F.hb d_Reader_readStair_0 rfl (lv_at hl 1 rfl) ?_
  refine r_get (v := .long (M.2 k1 19)) (N := 20) (T := T11) (j := 19) F hS (Town_lt hk1) (Town_sh hk1) (Town_N hk1) rfl (Nat.le_of_ble_eq_true rfl) ing11 mw_155 (fv_long rfl) d_Reader_readStair_1 ?_
  obtain ⟨q1, hq1⟩ : ∃ q, q = (t_Long_bitCount M (M.2 k1 19)) := ⟨_, rfl⟩
  replace hT := qlet_eq hT hq1
  refine r_backI F hS (r_runS (As := [.long (M.2 k1 19)]) F hS (c_Long_bitCount l (Nat.zero_le _) M (M.2 k1 19) _ hq1.symm) gs_Reader_144 hd_Long_bitCount ⟨Nat.le_of_ble_eq_true rfl, Nat.le_of_ble_eq_true rfl⟩ rfl hl.1 (Nat.le_of_ble_eq_true rfl) ⟨Nat.zero_le _, Nat.zero_le _⟩ rfl d_Reader_readStair_4) (fun H locs hS h2 => ?_)
  refine r_bipush F.hx F.hb d_Reader_readStair_7 rfl ?_
  refine r_icmp_lt (tgt := 22) F.hx F.hb h2 (inr_c rfl) d_Reader_readStair_9 (by decide) (fun c3 => ?_) (fun c3 => ?_)
  · replace hT := (if_pos c3).symm.trans hT
    refine lv_aload_n F.hx F.hb d_Reader_readStair_22 rfl (lv_at hl 0 rfl) ?_
    refine lv_aload_n F.hx F.hb d_Reader_readStair_23 rfl (lv_at hl 0 rfl) ?_
    refine r_get (v := vI (M.1 46 1)) (N := 11) (T := T8) (j := 1) F hS (show 46 < 191 by decide) (show shK 46 = 12 from rfl) (show shN 46 = 11 from rfl) rfl (Nat.le_of_ble_eq_true rfl) ing8 mw_231 (fv_int rfl) d_Reader_readStair_24 ?_
    have i4 := hS.rng 46 1
    refine r_iconst F.hx F.hb d_Reader_readStair_27 ?_
    refine r_iadd F.hx F.hb d_Reader_readStair_28 ?_
    obtain ⟨q5, hq5, hT⟩ := q_obind hT
    refine r_backV F hS (r_runV (k := 46) (N := 11) (T := T8) (As := [vI (w32 ((M.1 46 1) + 1))]) F hS (show 46 < 191 by decide) (show shK 46 = 12 from rfl) rfl (c_Reader_goTo l F.2.2.1 M (w32 ((M.1 46 1) + 1)) (inr_w32 _) _ hq5) gs_Reader_80 hd_Reader_goTo ⟨Nat.le_of_ble_eq_true rfl, Nat.le_of_ble_eq_true rfl⟩ rfl hl.1 (Nat.le_of_ble_eq_true rfl) ⟨Nat.zero_le _, Nat.zero_le _⟩ rfl d_Reader_readStair_29) (fun H locs hS => ?_)
    refine lv_aload_n F.hx F.hb d_Reader_readStair_32 rfl (lv_at hl 0 rfl) ?_
    refine lv_aload_n F.hx F.hb d_Reader_readStair_33 rfl (lv_at hl 1 rfl) ?_
    obtain ⟨q7, hq7, hT⟩ := q_obind hT
    refine r_backI F hS (r_runV (k := 46) (N := 11) (T := T8) (As := [.ref (b + k1)]) F hS (show 46 < 191 by decide) (show shK 46 = 12 from rfl) rfl (c_Reader_takeCell l F.2.2.1 q5 k1 hk1 _ hq7) gs_Reader_150 hd_Reader_takeCell ⟨Nat.le_of_ble_eq_true rfl, Nat.le_of_ble_eq_true rfl⟩ rfl hl.1 (Nat.le_of_ble_eq_true rfl) ⟨Nat.zero_le _, Nat.zero_le _⟩ rfl d_Reader_readStair_34) (fun H locs hS h8 => ?_)
    refine lv_istore_n (lv' := [(2, vI (q7.2)), (0, .ref (b + 46)), (1, .ref (b + k1))]) F.hx F.hb d_Reader_readStair_37 rfl hl (Nat.le_of_ble_eq_true rfl) rfl (fun ls hl => ?_)
    refine lv_iload_n F.hx F.hb d_Reader_readStair_38 rfl (lv_at hl 0 rfl) ?_
    refine r_if_ge (tgt := 44) F.hx F.hb h8 d_Reader_readStair_39 (by decide) (fun c9 => ?_) (fun c9 => ?_)
    · replace hT := (if_pos c9).symm.trans hT
      refine lv_aload_n F.hx F.hb d_Reader_readStair_44 rfl (lv_at hl 2 rfl) ?_
      refine r_get (v := .long ((q7.1).2 k1 19)) (N := 20) (T := T11) (j := 19) F hS (Town_lt hk1) (Town_sh hk1) (Town_N hk1) rfl (Nat.le_of_ble_eq_true rfl) ing11 mw_155 (fv_long rfl) d_Reader_readStair_45 ?_
      refine lv_iload_n F.hx F.hb d_Reader_readStair_48 rfl (lv_at hl 0 rfl) ?_
      obtain ⟨q10, hq10⟩ : ∃ q, q = (t_WF_bitOf (q7.1) ((q7.1).2 k1 19) (q7.2)) := ⟨_, rfl⟩
      replace hT := qlet_eq hT hq10
      refine r_backI F hS (r_runSN (As := [.long ((q7.1).2 k1 19), vI (q7.2)]) F hS (c_WF_bitOf l F.2.2.1 (q7.1) ((q7.1).2 k1 19) (q7.2) h8 _ hq10.symm) mw_773 mw_772 mw_1 gs_Reader_154 hd_WF_bitOf ⟨Nat.le_of_ble_eq_true rfl, Nat.le_of_ble_eq_true rfl⟩ rfl hl.1 (Nat.le_of_ble_eq_true rfl) ⟨Nat.zero_le _, Nat.zero_le _⟩ rfl d_Reader_readStair_49) (fun H locs hS h11 => ?_)
      refine r_iconst F.hx F.hb d_Reader_readStair_52 ?_
      refine r_icmp_ne (tgt := 66) F.hx F.hb h11 (inr_c rfl) d_Reader_readStair_53 (by decide) (fun c12 => ?_) (fun c12 => ?_)
      · replace hT := (if_neg c12).symm.trans hT
        refine lv_aload_n F.hx F.hb d_Reader_readStair_66 rfl (lv_at hl 2 rfl) ?_
        refine r_get (v := .long ((q7.1).2 k1 18)) (N := 20) (T := T11) (j := 18) F hS (Town_lt hk1) (Town_sh hk1) (Town_N hk1) rfl (Nat.le_of_ble_eq_true rfl) ing11 mw_153 (fv_long rfl) d_Reader_readStair_67 ?_
        refine lv_iload_n F.hx F.hb d_Reader_readStair_70 rfl (lv_at hl 0 rfl) ?_
        obtain ⟨q13, hq13⟩ : ∃ q, q = (t_WF_bitOf (q7.1) ((q7.1).2 k1 18) (q7.2)) := ⟨_, rfl⟩
        replace hT := qlet_eq hT hq13
        refine r_backI F hS (r_runSN (As := [.long ((q7.1).2 k1 18), vI (q7.2)]) F hS (c_WF_bitOf l F.2.2.1 (q7.1) ((q7.1).2 k1 18) (q7.2) h8 _ hq13.symm) mw_773 mw_772 mw_1 gs_Reader_154 hd_WF_bitOf ⟨Nat.le_of_ble_eq_true rfl, Nat.le_of_ble_eq_true rfl⟩ rfl hl.1 (Nat.le_of_ble_eq_true rfl) ⟨Nat.zero_le _, Nat.zero_le _⟩ rfl d_Reader_readStair_71) (fun H locs hS h14 => ?_)
        refine r_iconst F.hx F.hb d_Reader_readStair_74 ?_
        refine r_icmp_ne (tgt := 88) F.hx F.hb h14 (inr_c rfl) d_Reader_readStair_75 (by decide) (fun c15 => ?_) (fun c15 => ?_)
        · replace hT := (if_neg c15).symm.trans hT
          refine lv_aload_n F.hx F.hb d_Reader_readStair_88 rfl (lv_at hl 2 rfl) ?_
          refine lv_dup F.hx F.hb d_Reader_readStair_89 rfl ?_
          refine r_get (v := .long ((q7.1).2 k1 19)) (N := 20) (T := T11) (j := 19) F hS (Town_lt hk1) (Town_sh hk1) (Town_N hk1) rfl (Nat.le_of_ble_eq_true rfl) ing11 mw_155 (fv_long rfl) d_Reader_readStair_90 ?_
          refine lv_lconst (v := 1) F.hx F.hb d_Reader_readStair_93 rfl ?_
          refine lv_iload_n F.hx F.hb d_Reader_readStair_94 rfl (lv_at hl 0 rfl) ?_
          refine r_lshl F.hx F.hb d_Reader_readStair_95 ?_
          refine lv_lor F.hx F.hb d_Reader_readStair_96 ?_
          refine r_putL (N := 20) (T := T11) (j := 19) F hS (Town_lt hk1) (Town_sh hk1) (Town_N hk1) rfl (Nat.le_of_ble_eq_true rfl) ing11 tyok11 nm11 rfl rfl rfl mw_155 d_Reader_readStair_97 (fun H locs hS => ?_)
          obtain ⟨M16, eM16⟩ : ∃ q, q = (setL (q7.1) k1 19 (((q7.1).2 k1 19) ||| (q_lshl 1 (q7.2)))) := ⟨_, rfl⟩
          replace hS : St b C n M16 s H locs := by rw [eM16]; exact hS
          replace hT := qlet_eq hT eM16
          refine r_iconst F.hx F.hb d_Reader_readStair_100 ?_
          cases hT
          exact r_zret F hlk hr hS (Or.inr rfl) d_Reader_readStair_101
        · replace hT := (if_pos c15).symm.trans hT
          refine lv_aload_n F.hx F.hb d_Reader_readStair_78 rfl (lv_at hl 1 rfl) ?_
          refine r_iconst F.hx F.hb d_Reader_readStair_79 ?_
          refine lv_aload_n F.hx F.hb d_Reader_readStair_80 rfl (lv_at hl 1 rfl) ?_
          refine r_get (v := vI ((q7.1).1 46 5)) (N := 11) (T := T8) (j := 5) F hS (show 46 < 191 by decide) (show shK 46 = 12 from rfl) (show shN 46 = 11 from rfl) rfl (Nat.le_of_ble_eq_true rfl) ing8 mw_235 (fv_int rfl) d_Reader_readStair_81 ?_
          have i17 := hS.rng 46 5
          obtain ⟨q18, hq18⟩ : ∃ q, q = (t_Reader_refuse (q7.1) 5 ((q7.1).1 46 5)) := ⟨_, rfl⟩
          replace hT := qlet_eq hT hq18
          refine r_backZ F hS (r_runV (k := 46) (N := 11) (T := T8) (As := [vI 5, vI ((q7.1).1 46 5)]) F hS (show 46 < 191 by decide) (show shK 46 = 12 from rfl) rfl (c_Reader_refuse l F.2.2.1 (q7.1) 5 ((q7.1).1 46 5) (inr_c rfl) i17 _ hq18.symm) gs_Reader_47 hd_Reader_refuse ⟨Nat.le_of_ble_eq_true rfl, Nat.le_of_ble_eq_true rfl⟩ rfl hl.1 (Nat.le_of_ble_eq_true rfl) ⟨Nat.zero_le _, Nat.zero_le _⟩ rfl d_Reader_readStair_84) (fun H locs hS h19 => ?_)
          cases hT
          exact r_zret F hlk hr hS h19 d_Reader_readStair_87
      · replace hT := (if_pos c12).symm.trans hT
        refine lv_aload_n F.hx F.hb d_Reader_readStair_56 rfl (lv_at hl 1 rfl) ?_
        refine r_iconst F.hx F.hb d_Reader_readStair_57 ?_
        refine lv_aload_n F.hx F.hb d_Reader_readStair_58 rfl (lv_at hl 1 rfl) ?_
        refine r_get (v := vI ((q7.1).1 46 5)) (N := 11) (T := T8) (j := 5) F hS (show 46 < 191 by decide) (show shK 46 = 12 from rfl) (show shN 46 = 11 from rfl) rfl (Nat.le_of_ble_eq_true rfl) ing8 mw_235 (fv_int rfl) d_Reader_readStair_59 ?_
        have i20 := hS.rng 46 5
        obtain ⟨q21, hq21⟩ : ∃ q, q = (t_Reader_refuse (q7.1) 3 ((q7.1).1 46 5)) := ⟨_, rfl⟩
        replace hT := qlet_eq hT hq21
        refine r_backZ F hS (r_runV (k := 46) (N := 11) (T := T8) (As := [vI 3, vI ((q7.1).1 46 5)]) F hS (show 46 < 191 by decide) (show shK 46 = 12 from rfl) rfl (c_Reader_refuse l F.2.2.1 (q7.1) 3 ((q7.1).1 46 5) (inr_c rfl) i20 _ hq21.symm) gs_Reader_47 hd_Reader_refuse ⟨Nat.le_of_ble_eq_true rfl, Nat.le_of_ble_eq_true rfl⟩ rfl hl.1 (Nat.le_of_ble_eq_true rfl) ⟨Nat.zero_le _, Nat.zero_le _⟩ rfl d_Reader_readStair_62) (fun H locs hS h22 => ?_)
        cases hT
        exact r_zret F hlk hr hS h22 d_Reader_readStair_65
    · replace hT := (if_neg c9).symm.trans hT
      refine r_iconst F.hx F.hb d_Reader_readStair_42 ?_
      cases hT
      exact r_zret F hlk hr hS (Or.inl rfl) d_Reader_readStair_43
  · replace hT := (if_neg c3).symm.trans hT
    refine lv_aload_n F.hx F.hb d_Reader_readStair_12 rfl (lv_at hl 0 rfl) ?_
    refine r_iconst F.hx F.hb d_Reader_readStair_13 ?_
    refine lv_aload_n F.hx F.hb d_Reader_readStair_14 rfl (lv_at hl 0 rfl) ?_
    refine r_get (v := vI (M.1 46 4)) (N := 11) (T := T8) (j := 4) F hS (show 46 < 191 by decide) (show shK 46 = 12 from rfl) (show shN 46 = 11 from rfl) rfl (Nat.le_of_ble_eq_true rfl) ing8 mw_234 (fv_int rfl) d_Reader_readStair_15 ?_
    have i23 := hS.rng 46 4
    obtain ⟨q24, hq24⟩ : ∃ q, q = (t_Reader_refuse M 2 (M.1 46 4)) := ⟨_, rfl⟩
    replace hT := qlet_eq hT hq24
    refine r_backZ F hS (r_runV (k := 46) (N := 11) (T := T8) (As := [vI 2, vI (M.1 46 4)]) F hS (show 46 < 191 by decide) (show shK 46 = 12 from rfl) rfl (c_Reader_refuse l F.2.2.1 M 2 (M.1 46 4) (inr_c rfl) i23 _ hq24.symm) gs_Reader_47 hd_Reader_refuse ⟨Nat.le_of_ble_eq_true rfl, Nat.le_of_ble_eq_true rfl⟩ rfl hl.1 (Nat.le_of_ble_eq_true rfl) ⟨Nat.zero_le _, Nat.zero_le _⟩ rfl d_Reader_readStair_18) (fun H locs hS h25 => ?_)
    cases hT
    exact r_zret F hlk hr hS h25 d_Reader_readStair_21
theorem wn_Reader_readThing_0 : ∀ i, i < 94 → bA b_Reader_readThing (0 + i) = wB [43, 180, 0, 91, 16, 8, 161, 0, 13, 42, 5, 42, 180, 0, 44, 182, 0, 47, 172, 42, 42, 180, 0, 94, 4, 96, 182, 0, 80, 42, 43, 180, 0, 161, 43, 180, 0, 91, 182, 0, 114, 61, 28, 156, 0, 7, 2, 167, 0, 10, 42, 3, 16, 99, 182, 0, 97, 62, 29, 156, 0, 7, 2, 167, 0, 8, 42, 43, 182, 0, 150, 54, 4, 21, 4, 156, 0, 5, 3, 172, 43, 180, 0, 84, 21, 4, 184, 0, 154, 4, 159, 0, 19, 43] i := wB_of (by decide +kernel)
theorem d_Reader_readThing_0 : decode b_Reader_readThing 0 = .ok (.aload_n 1, 1) := dc_43 (q0_win (r := 0) wn_Reader_readThing_0 (by decide +kernel))
theorem d_Reader_readThing_1 : decode b_Reader_readThing 1 = .ok (.getfield 91, 3) := dc_180 (qU2_win (r := 1) wn_Reader_readThing_0 (by decide +kernel))
theorem d_Reader_readThing_4 : decode b_Reader_readThing 4 = .ok (.bipush 8, 2) := dc_16 (qS1_win (r := 4) wn_Reader_readThing_0 (by decide +kernel))
theorem d_Reader_readThing_6 : decode b_Reader_readThing 6 = .ok (.if_icmp .lt 13, 3) := dc_161 (qS2_win (r := 6) wn_Reader_readThing_0 (by decide +kernel))
theorem d_Reader_readThing_9 : decode b_Reader_readThing 9 = .ok (.aload_n 0, 1) := dc_42 (q0_win (r := 9) wn_Reader_readThing_0 (by decide +kernel))
theorem d_Reader_readThing_10 : decode b_Reader_readThing 10 = .ok (.iconst 2, 1) := dc_5 (q0_win (r := 10) wn_Reader_readThing_0 (by decide +kernel))
theorem d_Reader_readThing_11 : decode b_Reader_readThing 11 = .ok (.aload_n 0, 1) := dc_42 (q0_win (r := 11) wn_Reader_readThing_0 (by decide +kernel))
theorem d_Reader_readThing_12 : decode b_Reader_readThing 12 = .ok (.getfield 44, 3) := dc_180 (qU2_win (r := 12) wn_Reader_readThing_0 (by decide +kernel))
theorem d_Reader_readThing_15 : decode b_Reader_readThing 15 = .ok (.invokevirtual 47, 3) := dc_182 (qU2_win (r := 15) wn_Reader_readThing_0 (by decide +kernel))
theorem d_Reader_readThing_18 : decode b_Reader_readThing 18 = .ok (.ireturn, 1) := dc_172 (q0_win (r := 18) wn_Reader_readThing_0 (by decide +kernel))
theorem d_Reader_readThing_19 : decode b_Reader_readThing 19 = .ok (.aload_n 0, 1) := dc_42 (q0_win (r := 19) wn_Reader_readThing_0 (by decide +kernel))
theorem d_Reader_readThing_20 : decode b_Reader_readThing 20 = .ok (.aload_n 0, 1) := dc_42 (q0_win (r := 20) wn_Reader_readThing_0 (by decide +kernel))
theorem d_Reader_readThing_21 : decode b_Reader_readThing 21 = .ok (.getfield 94, 3) := dc_180 (qU2_win (r := 21) wn_Reader_readThing_0 (by decide +kernel))
theorem d_Reader_readThing_24 : decode b_Reader_readThing 24 = .ok (.iconst 1, 1) := dc_4 (q0_win (r := 24) wn_Reader_readThing_0 (by decide +kernel))
theorem d_Reader_readThing_25 : decode b_Reader_readThing 25 = .ok (.iadd, 1) := dc_96 (q0_win (r := 25) wn_Reader_readThing_0 (by decide +kernel))
theorem d_Reader_readThing_26 : decode b_Reader_readThing 26 = .ok (.invokevirtual 80, 3) := dc_182 (qU2_win (r := 26) wn_Reader_readThing_0 (by decide +kernel))
theorem d_Reader_readThing_29 : decode b_Reader_readThing 29 = .ok (.aload_n 0, 1) := dc_42 (q0_win (r := 29) wn_Reader_readThing_0 (by decide +kernel))
theorem d_Reader_readThing_30 : decode b_Reader_readThing 30 = .ok (.aload_n 1, 1) := dc_43 (q0_win (r := 30) wn_Reader_readThing_0 (by decide +kernel))
theorem d_Reader_readThing_31 : decode b_Reader_readThing 31 = .ok (.getfield 161, 3) := dc_180 (qU2_win (r := 31) wn_Reader_readThing_0 (by decide +kernel))
theorem d_Reader_readThing_34 : decode b_Reader_readThing 34 = .ok (.aload_n 1, 1) := dc_43 (q0_win (r := 34) wn_Reader_readThing_0 (by decide +kernel))
theorem d_Reader_readThing_35 : decode b_Reader_readThing 35 = .ok (.getfield 91, 3) := dc_180 (qU2_win (r := 35) wn_Reader_readThing_0 (by decide +kernel))
theorem d_Reader_readThing_38 : decode b_Reader_readThing 38 = .ok (.invokevirtual 114, 3) := dc_182 (qU2_win (r := 38) wn_Reader_readThing_0 (by decide +kernel))
theorem d_Reader_readThing_41 : decode b_Reader_readThing 41 = .ok (.istore_n 2, 1) := dc_61 (q0_win (r := 41) wn_Reader_readThing_0 (by decide +kernel))
theorem d_Reader_readThing_42 : decode b_Reader_readThing 42 = .ok (.iload_n 2, 1) := dc_28 (q0_win (r := 42) wn_Reader_readThing_0 (by decide +kernel))
theorem d_Reader_readThing_43 : decode b_Reader_readThing 43 = .ok (.ifCond .ge 7, 3) := dc_156 (qS2_win (r := 43) wn_Reader_readThing_0 (by decide +kernel))
theorem d_Reader_readThing_46 : decode b_Reader_readThing 46 = .ok (.iconst (-1), 1) := dc_2 (q0_win (r := 46) wn_Reader_readThing_0 (by decide +kernel))
theorem d_Reader_readThing_47 : decode b_Reader_readThing 47 = .ok (.goto 10, 3) := dc_167 (qS2_win (r := 47) wn_Reader_readThing_0 (by decide +kernel))
theorem d_Reader_readThing_50 : decode b_Reader_readThing 50 = .ok (.aload_n 0, 1) := dc_42 (q0_win (r := 50) wn_Reader_readThing_0 (by decide +kernel))
theorem d_Reader_readThing_51 : decode b_Reader_readThing 51 = .ok (.iconst 0, 1) := dc_3 (q0_win (r := 51) wn_Reader_readThing_0 (by decide +kernel))
theorem d_Reader_readThing_52 : decode b_Reader_readThing 52 = .ok (.bipush 99, 2) := dc_16 (qS1_win (r := 52) wn_Reader_readThing_0 (by decide +kernel))
theorem d_Reader_readThing_54 : decode b_Reader_readThing 54 = .ok (.invokevirtual 97, 3) := dc_182 (qU2_win (r := 54) wn_Reader_readThing_0 (by decide +kernel))
theorem d_Reader_readThing_57 : decode b_Reader_readThing 57 = .ok (.istore_n 3, 1) := dc_62 (q0_win (r := 57) wn_Reader_readThing_0 (by decide +kernel))
theorem d_Reader_readThing_58 : decode b_Reader_readThing 58 = .ok (.iload_n 3, 1) := dc_29 (q0_win (r := 58) wn_Reader_readThing_0 (by decide +kernel))
theorem d_Reader_readThing_59 : decode b_Reader_readThing 59 = .ok (.ifCond .ge 7, 3) := dc_156 (qS2_win (r := 59) wn_Reader_readThing_0 (by decide +kernel))
theorem d_Reader_readThing_62 : decode b_Reader_readThing 62 = .ok (.iconst (-1), 1) := dc_2 (q0_win (r := 62) wn_Reader_readThing_0 (by decide +kernel))
theorem d_Reader_readThing_63 : decode b_Reader_readThing 63 = .ok (.goto 8, 3) := dc_167 (qS2_win (r := 63) wn_Reader_readThing_0 (by decide +kernel))
theorem d_Reader_readThing_66 : decode b_Reader_readThing 66 = .ok (.aload_n 0, 1) := dc_42 (q0_win (r := 66) wn_Reader_readThing_0 (by decide +kernel))
theorem d_Reader_readThing_67 : decode b_Reader_readThing 67 = .ok (.aload_n 1, 1) := dc_43 (q0_win (r := 67) wn_Reader_readThing_0 (by decide +kernel))
theorem d_Reader_readThing_68 : decode b_Reader_readThing 68 = .ok (.invokevirtual 150, 3) := dc_182 (qU2_win (r := 68) wn_Reader_readThing_0 (by decide +kernel))
theorem d_Reader_readThing_71 : decode b_Reader_readThing 71 = .ok (.istore 4, 2) := dc_54 (qU1_win (r := 71) wn_Reader_readThing_0 (by decide +kernel))
theorem d_Reader_readThing_73 : decode b_Reader_readThing 73 = .ok (.iload 4, 2) := dc_21 (qU1_win (r := 73) wn_Reader_readThing_0 (by decide +kernel))
theorem d_Reader_readThing_75 : decode b_Reader_readThing 75 = .ok (.ifCond .ge 5, 3) := dc_156 (qS2_win (r := 75) wn_Reader_readThing_0 (by decide +kernel))
theorem d_Reader_readThing_78 : decode b_Reader_readThing 78 = .ok (.iconst 0, 1) := dc_3 (q0_win (r := 78) wn_Reader_readThing_0 (by decide +kernel))
theorem d_Reader_readThing_79 : decode b_Reader_readThing 79 = .ok (.ireturn, 1) := dc_172 (q0_win (r := 79) wn_Reader_readThing_0 (by decide +kernel))
theorem d_Reader_readThing_80 : decode b_Reader_readThing 80 = .ok (.aload_n 1, 1) := dc_43 (q0_win (r := 80) wn_Reader_readThing_0 (by decide +kernel))
theorem d_Reader_readThing_81 : decode b_Reader_readThing 81 = .ok (.getfield 84, 3) := dc_180 (qU2_win (r := 81) wn_Reader_readThing_0 (by decide +kernel))
theorem d_Reader_readThing_84 : decode b_Reader_readThing 84 = .ok (.iload 4, 2) := dc_21 (qU1_win (r := 84) wn_Reader_readThing_0 (by decide +kernel))
theorem d_Reader_readThing_86 : decode b_Reader_readThing 86 = .ok (.invokestatic 154, 3) := dc_184 (qU2_win (r := 86) wn_Reader_readThing_0 (by decide +kernel))
theorem d_Reader_readThing_89 : decode b_Reader_readThing 89 = .ok (.iconst 1, 1) := dc_4 (q0_win (r := 89) wn_Reader_readThing_0 (by decide +kernel))
theorem d_Reader_readThing_90 : decode b_Reader_readThing 90 = .ok (.if_icmp .eq 19, 3) := dc_159 (qS2_win (r := 90) wn_Reader_readThing_0 (by decide +kernel))
theorem d_Reader_readThing_93 : decode b_Reader_readThing 93 = .ok (.aload_n 1, 1) := dc_43 (q0_win (r := 93) wn_Reader_readThing_0 (by decide +kernel))
theorem wn_Reader_readThing_94 : ∀ i, i < 74 → bA b_Reader_readThing (94 + i) = wB [180, 0, 158, 43, 180, 0, 91, 21, 4, 184, 0, 134, 155, 0, 13, 42, 8, 42, 180, 0, 138, 182, 0, 47, 172, 43, 180, 0, 161, 43, 180, 0, 91, 28, 184, 0, 121, 43, 180, 0, 164, 43, 180, 0, 91, 29, 184, 0, 121, 43, 180, 0, 158, 43, 180, 0, 91, 21, 4, 184, 0, 121, 43, 89, 180, 0, 91, 4, 96, 181, 0, 91, 4, 172] i := wB_of (by decide +kernel)
theorem d_Reader_readThing_94 : decode b_Reader_readThing 94 = .ok (.getfield 158, 3) := dc_180 (qU2_win (r := 0) wn_Reader_readThing_94 (by decide +kernel))
theorem d_Reader_readThing_97 : decode b_Reader_readThing 97 = .ok (.aload_n 1, 1) := dc_43 (q0_win (r := 3) wn_Reader_readThing_94 (by decide +kernel))
theorem d_Reader_readThing_98 : decode b_Reader_readThing 98 = .ok (.getfield 91, 3) := dc_180 (qU2_win (r := 4) wn_Reader_readThing_94 (by decide +kernel))
theorem d_Reader_readThing_101 : decode b_Reader_readThing 101 = .ok (.iload 4, 2) := dc_21 (qU1_win (r := 7) wn_Reader_readThing_94 (by decide +kernel))
theorem d_Reader_readThing_103 : decode b_Reader_readThing 103 = .ok (.invokestatic 134, 3) := dc_184 (qU2_win (r := 9) wn_Reader_readThing_94 (by decide +kernel))
theorem d_Reader_readThing_106 : decode b_Reader_readThing 106 = .ok (.ifCond .lt 13, 3) := dc_155 (qS2_win (r := 12) wn_Reader_readThing_94 (by decide +kernel))
theorem d_Reader_readThing_109 : decode b_Reader_readThing 109 = .ok (.aload_n 0, 1) := dc_42 (q0_win (r := 15) wn_Reader_readThing_94 (by decide +kernel))
theorem d_Reader_readThing_110 : decode b_Reader_readThing 110 = .ok (.iconst 5, 1) := dc_8 (q0_win (r := 16) wn_Reader_readThing_94 (by decide +kernel))
theorem d_Reader_readThing_111 : decode b_Reader_readThing 111 = .ok (.aload_n 0, 1) := dc_42 (q0_win (r := 17) wn_Reader_readThing_94 (by decide +kernel))
theorem d_Reader_readThing_112 : decode b_Reader_readThing 112 = .ok (.getfield 138, 3) := dc_180 (qU2_win (r := 18) wn_Reader_readThing_94 (by decide +kernel))
theorem d_Reader_readThing_115 : decode b_Reader_readThing 115 = .ok (.invokevirtual 47, 3) := dc_182 (qU2_win (r := 21) wn_Reader_readThing_94 (by decide +kernel))
theorem d_Reader_readThing_118 : decode b_Reader_readThing 118 = .ok (.ireturn, 1) := dc_172 (q0_win (r := 24) wn_Reader_readThing_94 (by decide +kernel))
theorem d_Reader_readThing_119 : decode b_Reader_readThing 119 = .ok (.aload_n 1, 1) := dc_43 (q0_win (r := 25) wn_Reader_readThing_94 (by decide +kernel))
theorem d_Reader_readThing_120 : decode b_Reader_readThing 120 = .ok (.getfield 161, 3) := dc_180 (qU2_win (r := 26) wn_Reader_readThing_94 (by decide +kernel))
theorem d_Reader_readThing_123 : decode b_Reader_readThing 123 = .ok (.aload_n 1, 1) := dc_43 (q0_win (r := 29) wn_Reader_readThing_94 (by decide +kernel))
theorem d_Reader_readThing_124 : decode b_Reader_readThing 124 = .ok (.getfield 91, 3) := dc_180 (qU2_win (r := 30) wn_Reader_readThing_94 (by decide +kernel))
theorem d_Reader_readThing_127 : decode b_Reader_readThing 127 = .ok (.iload_n 2, 1) := dc_28 (q0_win (r := 33) wn_Reader_readThing_94 (by decide +kernel))
theorem d_Reader_readThing_128 : decode b_Reader_readThing 128 = .ok (.invokestatic 121, 3) := dc_184 (qU2_win (r := 34) wn_Reader_readThing_94 (by decide +kernel))
theorem d_Reader_readThing_131 : decode b_Reader_readThing 131 = .ok (.aload_n 1, 1) := dc_43 (q0_win (r := 37) wn_Reader_readThing_94 (by decide +kernel))
theorem d_Reader_readThing_132 : decode b_Reader_readThing 132 = .ok (.getfield 164, 3) := dc_180 (qU2_win (r := 38) wn_Reader_readThing_94 (by decide +kernel))
theorem d_Reader_readThing_135 : decode b_Reader_readThing 135 = .ok (.aload_n 1, 1) := dc_43 (q0_win (r := 41) wn_Reader_readThing_94 (by decide +kernel))
theorem d_Reader_readThing_136 : decode b_Reader_readThing 136 = .ok (.getfield 91, 3) := dc_180 (qU2_win (r := 42) wn_Reader_readThing_94 (by decide +kernel))
theorem d_Reader_readThing_139 : decode b_Reader_readThing 139 = .ok (.iload_n 3, 1) := dc_29 (q0_win (r := 45) wn_Reader_readThing_94 (by decide +kernel))
theorem d_Reader_readThing_140 : decode b_Reader_readThing 140 = .ok (.invokestatic 121, 3) := dc_184 (qU2_win (r := 46) wn_Reader_readThing_94 (by decide +kernel))
theorem d_Reader_readThing_143 : decode b_Reader_readThing 143 = .ok (.aload_n 1, 1) := dc_43 (q0_win (r := 49) wn_Reader_readThing_94 (by decide +kernel))
theorem d_Reader_readThing_144 : decode b_Reader_readThing 144 = .ok (.getfield 158, 3) := dc_180 (qU2_win (r := 50) wn_Reader_readThing_94 (by decide +kernel))
theorem d_Reader_readThing_147 : decode b_Reader_readThing 147 = .ok (.aload_n 1, 1) := dc_43 (q0_win (r := 53) wn_Reader_readThing_94 (by decide +kernel))
theorem d_Reader_readThing_148 : decode b_Reader_readThing 148 = .ok (.getfield 91, 3) := dc_180 (qU2_win (r := 54) wn_Reader_readThing_94 (by decide +kernel))
theorem d_Reader_readThing_151 : decode b_Reader_readThing 151 = .ok (.iload 4, 2) := dc_21 (qU1_win (r := 57) wn_Reader_readThing_94 (by decide +kernel))
theorem d_Reader_readThing_153 : decode b_Reader_readThing 153 = .ok (.invokestatic 121, 3) := dc_184 (qU2_win (r := 59) wn_Reader_readThing_94 (by decide +kernel))
theorem d_Reader_readThing_156 : decode b_Reader_readThing 156 = .ok (.aload_n 1, 1) := dc_43 (q0_win (r := 62) wn_Reader_readThing_94 (by decide +kernel))
theorem d_Reader_readThing_157 : decode b_Reader_readThing 157 = .ok (.dup, 1) := dc_89 (q0_win (r := 63) wn_Reader_readThing_94 (by decide +kernel))
theorem d_Reader_readThing_158 : decode b_Reader_readThing 158 = .ok (.getfield 91, 3) := dc_180 (qU2_win (r := 64) wn_Reader_readThing_94 (by decide +kernel))
theorem d_Reader_readThing_161 : decode b_Reader_readThing 161 = .ok (.iconst 1, 1) := dc_4 (q0_win (r := 67) wn_Reader_readThing_94 (by decide +kernel))
theorem d_Reader_readThing_162 : decode b_Reader_readThing 162 = .ok (.iadd, 1) := dc_96 (q0_win (r := 68) wn_Reader_readThing_94 (by decide +kernel))
theorem d_Reader_readThing_163 : decode b_Reader_readThing 163 = .ok (.putfield 91, 3) := dc_181 (qU2_win (r := 69) wn_Reader_readThing_94 (by decide +kernel))
theorem d_Reader_readThing_166 : decode b_Reader_readThing 166 = .ok (.iconst 1, 1) := dc_4 (q0_win (r := 72) wn_Reader_readThing_94 (by decide +kernel))
theorem d_Reader_readThing_167 : decode b_Reader_readThing 167 = .ok (.ireturn, 1) := dc_172 (q0_win (r := 73) wn_Reader_readThing_94 (by decide +kernel))
def t_Reader_readThing_L109 (k1 : Nat)  (M : Mem)  : Option (Mem × Int) := (qlet (t_Reader_refuse M 5 (M.1 46 5)) fun q38 => (some ((q38.1), (q38.2))))
def t_Reader_readThing_L71 (k1 : Nat)  (M : Mem) (v2_ : Int) (v3_ : Int) (v4_ : Int) : Option (Mem × Int) := (if 0 ≤ v4_ then (qlet (t_WF_bitOf M (M.2 k1 18) v4_) fun q19 => (if q19 = 1 then (t_Reader_readThing_L109 k1 M) else (obind (t_WF_indexOf M (k1 + 7) 8 (M.1 k1 15) v4_) fun q23 => (if q23 < 0 then (qlet (t_WF_put M (k1 + 5) 8 (M.1 k1 15) v2_) fun q27 => (qlet (t_WF_put q27 (k1 + 6) 8 (q27.1 k1 15) v3_) fun q30 => (qlet (t_WF_put q30 (k1 + 7) 8 (q30.1 k1 15) v4_) fun q33 => (qlet (setI q33 k1 15 (w32 ((q33.1 k1 15) + 1))) fun M36 => (some (M36, 1)))))) else (t_Reader_readThing_L109 k1 M))))) else (some (M, 0)))
def t_Reader_readThing_L57 (k1 : Nat)  (M : Mem) (v2_ : Int) (v3_ : Int) : Option (Mem × Int) := (if 0 ≤ v3_ then (obind (t_Reader_takeCell M k1) fun q16 => (t_Reader_readThing_L71 k1 (q16.1) v2_ v3_ (q16.2))) else (t_Reader_readThing_L71 k1 M v2_ v3_ (-1)))
def t_Reader_readThing (M : Mem) (k1 : Nat) : Option (Mem × Int) := (if (M.1 k1 15) < 8 then (obind (t_Reader_goTo M (w32 ((M.1 46 1) + 1))) fun q4 => (obind (t_Reader_takeNewName q4 (k1 + 5) 8 (q4.1 k1 15)) fun q7 => (if 0 ≤ (q7.2) then (obind (t_Reader_takeNumber (q7.1) 0 99) fun q10 => (t_Reader_readThing_L57 k1 (q10.1) (q7.2) (q10.2))) else (t_Reader_readThing_L57 k1 (q7.1) (q7.2) (-1))))) else (qlet (t_Reader_refuse M 2 (M.1 46 4)) fun q13 => (some ((q13.1), (q13.2)))))
set_option maxHeartbeats 4000000 in
set_option maxRecDepth 100000 in
theorem k_Reader_readThing_L109 (l : Launch) {p : Program} {e : Env} {s : State} {m : MethodId} {below : List Frame} {meth : Method} {c : Code} {b n : Nat} {C : CT} (hlo : 191 ≤ n) (k1 : Nat) (hk1 : isTown k1) (F : Cx b p m c b_Reader_readThing 5 s ([.ref (b + 46), .ref (b + k1)] : List Value).toArray "WardFalls$Reader" C n 191) (hlk : meth.locks = false) (hr : meth.sig.returnType = some .boolean) {res : Mem × Int} (M : Mem)  (H : Heap) (locs : List Loc) (ls : Array Slot) (hS : St b C n M s H locs) (hl : lv_has ls 5 [(0, .ref (b + 46))]) (hT : t_Reader_readThing_L109 k1 M = some res) : W p l e (headSpec (wsM y_Reader_readThing b_Reader_readThing 5 (some .boolean)) (rmD 5)).room s m ([.ref (b + 46), .ref (b + k1)] : List Value).toArray below meth c H locs 0 0 (MQ below (QZ b C n res.1 res.2) ([.ref (b + 46), .ref (b + k1)] : List Value).toArray s 0 0 (frb b)) (F0 m 109 ls []) := by
  unfold t_Reader_readThing_L109 at hT
  refine lv_aload_n F.hx F.hb d_Reader_readThing_109 rfl (lv_at hl 0 rfl) ?_
  refine r_iconst F.hx F.hb d_Reader_readThing_110 ?_
  refine lv_aload_n F.hx F.hb d_Reader_readThing_111 rfl (lv_at hl 0 rfl) ?_
  refine r_get (v := vI (M.1 46 5)) (N := 11) (T := T8) (j := 5) F hS (show 46 < 191 by decide) (show shK 46 = 12 from rfl) (show shN 46 = 11 from rfl) rfl (Nat.le_of_ble_eq_true rfl) ing8 mw_235 (fv_int rfl) d_Reader_readThing_112 ?_
  have i37 := hS.rng 46 5
  obtain ⟨q38, hq38⟩ : ∃ q, q = (t_Reader_refuse M 5 (M.1 46 5)) := ⟨_, rfl⟩
  replace hT := qlet_eq hT hq38
  refine r_backZ F hS (r_runV (k := 46) (N := 11) (T := T8) (As := [vI 5, vI (M.1 46 5)]) F hS (show 46 < 191 by decide) (show shK 46 = 12 from rfl) rfl (c_Reader_refuse l F.2.2.1 M 5 (M.1 46 5) (inr_c rfl) i37 _ hq38.symm) gs_Reader_47 hd_Reader_refuse ⟨Nat.le_of_ble_eq_true rfl, Nat.le_of_ble_eq_true rfl⟩ rfl hl.1 (Nat.le_of_ble_eq_true rfl) ⟨Nat.zero_le _, Nat.zero_le _⟩ rfl d_Reader_readThing_115) (fun H locs hS h39 => ?_)
  cases hT
  exact r_zret F hlk hr hS h39 d_Reader_readThing_118
set_option maxHeartbeats 4000000 in
set_option maxRecDepth 100000 in
theorem k_Reader_readThing_L71 (l : Launch) {p : Program} {e : Env} {s : State} {m : MethodId} {below : List Frame} {meth : Method} {c : Code} {b n : Nat} {C : CT} (hlo : 191 ≤ n) (k1 : Nat) (hk1 : isTown k1) (F : Cx b p m c b_Reader_readThing 5 s ([.ref (b + 46), .ref (b + k1)] : List Value).toArray "WardFalls$Reader" C n 191) (hlk : meth.locks = false) (hr : meth.sig.returnType = some .boolean) {res : Mem × Int} (M : Mem) (v2_ : Int) (hv2_ : InR v2_) (v3_ : Int) (hv3_ : InR v3_) (v4_ : Int) (hv4_ : InR v4_) (H : Heap) (locs : List Loc) (ls : Array Slot) (hS : St b C n M s H locs) (hl : lv_has ls 5 [(0, .ref (b + 46)), (1, .ref (b + k1)), (2, vI v2_), (3, vI v3_)]) (hT : t_Reader_readThing_L71 k1 M v2_ v3_ v4_ = some res) : W p l e (headSpec (wsM y_Reader_readThing b_Reader_readThing 5 (some .boolean)) (rmD 5)).room s m ([.ref (b + 46), .ref (b + k1)] : List Value).toArray below meth c H locs 0 0 (MQ below (QZ b C n res.1 res.2) ([.ref (b + 46), .ref (b + k1)] : List Value).toArray s 0 0 (frb b)) (F0 m 71 ls [vI v4_]) := by
  unfold t_Reader_readThing_L71 at hT
  refine lv_istore (lv' := [(4, vI v4_), (0, .ref (b + 46)), (1, .ref (b + k1)), (2, vI v2_), (3, vI v3_)]) F.hx F.hb d_Reader_readThing_71 hl (Nat.le_of_ble_eq_true rfl) rfl (fun ls hl => ?_)
  refine lv_iload F.hx F.hb d_Reader_readThing_73 (lv_at hl 0 rfl) ?_
  refine r_if_ge (tgt := 80) F.hx F.hb hv4_ d_Reader_readThing_75 (by decide) (fun c18 => ?_) (fun c18 => ?_)
  · replace hT := (if_pos c18).symm.trans hT
    refine lv_aload_n F.hx F.hb d_Reader_readThing_80 rfl (lv_at hl 2 rfl) ?_
    refine r_get (v := .long (M.2 k1 18)) (N := 20) (T := T11) (j := 18) F hS (Town_lt hk1) (Town_sh hk1) (Town_N hk1) rfl (Nat.le_of_ble_eq_true rfl) ing11 mw_153 (fv_long rfl) d_Reader_readThing_81 ?_
    refine lv_iload F.hx F.hb d_Reader_readThing_84 (lv_at hl 0 rfl) ?_
    obtain ⟨q19, hq19⟩ : ∃ q, q = (t_WF_bitOf M (M.2 k1 18) v4_) := ⟨_, rfl⟩
    replace hT := qlet_eq hT hq19
    refine r_backI F hS (r_runSN (As := [.long (M.2 k1 18), vI v4_]) F hS (c_WF_bitOf l F.2.2.1 M (M.2 k1 18) v4_ hv4_ _ hq19.symm) mw_773 mw_772 mw_1 gs_Reader_154 hd_WF_bitOf ⟨Nat.le_of_ble_eq_true rfl, Nat.le_of_ble_eq_true rfl⟩ rfl hl.1 (Nat.le_of_ble_eq_true rfl) ⟨Nat.zero_le _, Nat.zero_le _⟩ rfl d_Reader_readThing_86) (fun H locs hS h20 => ?_)
    refine r_iconst F.hx F.hb d_Reader_readThing_89 ?_
    refine r_icmp_eq (tgt := 109) F.hx F.hb h20 (inr_c rfl) d_Reader_readThing_90 (by decide) (fun c21 => ?_) (fun c21 => ?_)
    · replace hT := (if_pos c21).symm.trans hT
      exact k_Reader_readThing_L109 l hlo k1 hk1 F hlk hr M _ _ _ hS (lv_sub hl [1] rfl) hT
    · replace hT := (if_neg c21).symm.trans hT
      refine lv_aload_n F.hx F.hb d_Reader_readThing_93 rfl (lv_at hl 2 rfl) ?_
      refine r_get (v := .ref (b + (k1 + 7))) (N := 20) (T := T11) (j := 6) F hS (Town_lt hk1) (Town_sh hk1) (Town_N hk1) rfl (Nat.le_of_ble_eq_true rfl) ing11 mw_110 (Town_g6 hk1 _) d_Reader_readThing_94 ?_
      refine lv_aload_n F.hx F.hb d_Reader_readThing_97 rfl (lv_at hl 2 rfl) ?_
      refine r_get (v := vI (M.1 k1 15)) (N := 20) (T := T11) (j := 15) F hS (Town_lt hk1) (Town_sh hk1) (Town_N hk1) rfl (Nat.le_of_ble_eq_true rfl) ing11 mw_142 (fv_int rfl) d_Reader_readThing_98 ?_
      have i22 := hS.rng k1 15
      refine lv_iload F.hx F.hb d_Reader_readThing_101 (lv_at hl 0 rfl) ?_
      obtain ⟨q23, hq23, hT⟩ := q_obind hT
      refine r_backI F hS (r_runSN (As := [.ref (b + (k1 + 7)), vI (M.1 k1 15), vI v4_]) F hS (c_WF_indexOf l F.2.2.1 M (k1 + 7) 8 (M.1 k1 15) v4_ (Town_f6 hk1) i22 hv4_ _ hq23) mw_748 mw_747 mw_1 gs_Reader_134 hd_WF_indexOf ⟨Nat.le_of_ble_eq_true rfl, Nat.le_of_ble_eq_true rfl⟩ rfl hl.1 (Nat.le_of_ble_eq_true rfl) ⟨Nat.zero_le _, Nat.zero_le _⟩ rfl d_Reader_readThing_103) (fun H locs hS h24 => ?_)
      refine r_if_lt (tgt := 119) F.hx F.hb h24 d_Reader_readThing_106 (by decide) (fun c25 => ?_) (fun c25 => ?_)
      · replace hT := (if_pos c25).symm.trans hT
        refine lv_aload_n F.hx F.hb d_Reader_readThing_119 rfl (lv_at hl 2 rfl) ?_
        refine r_get (v := .ref (b + (k1 + 5))) (N := 20) (T := T11) (j := 4) F hS (Town_lt hk1) (Town_sh hk1) (Town_N hk1) rfl (Nat.le_of_ble_eq_true rfl) ing11 mw_103 (Town_g4 hk1 _) d_Reader_readThing_120 ?_
        refine lv_aload_n F.hx F.hb d_Reader_readThing_123 rfl (lv_at hl 2 rfl) ?_
        refine r_get (v := vI (M.1 k1 15)) (N := 20) (T := T11) (j := 15) F hS (Town_lt hk1) (Town_sh hk1) (Town_N hk1) rfl (Nat.le_of_ble_eq_true rfl) ing11 mw_142 (fv_int rfl) d_Reader_readThing_124 ?_
        have i26 := hS.rng k1 15
        refine lv_iload_n F.hx F.hb d_Reader_readThing_127 rfl (lv_at hl 3 rfl) ?_
        obtain ⟨q27, hq27⟩ : ∃ q, q = (t_WF_put M (k1 + 5) 8 (M.1 k1 15) v2_) := ⟨_, rfl⟩
        replace hT := qlet_eq hT hq27
        refine r_backV F hS (r_runSN (As := [.ref (b + (k1 + 5)), vI (M.1 k1 15), vI v2_]) F hS (c_WF_put l F.2.2.1 M (k1 + 5) 8 (M.1 k1 15) v2_ (Town_f4 hk1) i26 hv2_ _ hq27.symm) mw_512 mw_511 mw_1 gs_Reader_121 hd_WF_put ⟨Nat.le_of_ble_eq_true rfl, Nat.le_of_ble_eq_true rfl⟩ rfl hl.1 (Nat.le_of_ble_eq_true rfl) ⟨Nat.zero_le _, Nat.zero_le _⟩ rfl d_Reader_readThing_128) (fun H locs hS => ?_)
        refine lv_aload_n F.hx F.hb d_Reader_readThing_131 rfl (lv_at hl 2 rfl) ?_
        refine r_get (v := .ref (b + (k1 + 6))) (N := 20) (T := T11) (j := 5) F hS (Town_lt hk1) (Town_sh hk1) (Town_N hk1) rfl (Nat.le_of_ble_eq_true rfl) ing11 mw_107 (Town_g5 hk1 _) d_Reader_readThing_132 ?_
        refine lv_aload_n F.hx F.hb d_Reader_readThing_135 rfl (lv_at hl 2 rfl) ?_
        refine r_get (v := vI (q27.1 k1 15)) (N := 20) (T := T11) (j := 15) F hS (Town_lt hk1) (Town_sh hk1) (Town_N hk1) rfl (Nat.le_of_ble_eq_true rfl) ing11 mw_142 (fv_int rfl) d_Reader_readThing_136 ?_
        have i29 := hS.rng k1 15
        refine lv_iload_n F.hx F.hb d_Reader_readThing_139 rfl (lv_at hl 4 rfl) ?_
        obtain ⟨q30, hq30⟩ : ∃ q, q = (t_WF_put q27 (k1 + 6) 8 (q27.1 k1 15) v3_) := ⟨_, rfl⟩
        replace hT := qlet_eq hT hq30
        refine r_backV F hS (r_runSN (As := [.ref (b + (k1 + 6)), vI (q27.1 k1 15), vI v3_]) F hS (c_WF_put l F.2.2.1 q27 (k1 + 6) 8 (q27.1 k1 15) v3_ (Town_f5 hk1) i29 hv3_ _ hq30.symm) mw_512 mw_511 mw_1 gs_Reader_121 hd_WF_put ⟨Nat.le_of_ble_eq_true rfl, Nat.le_of_ble_eq_true rfl⟩ rfl hl.1 (Nat.le_of_ble_eq_true rfl) ⟨Nat.zero_le _, Nat.zero_le _⟩ rfl d_Reader_readThing_140) (fun H locs hS => ?_)
        refine lv_aload_n F.hx F.hb d_Reader_readThing_143 rfl (lv_at hl 2 rfl) ?_
        refine r_get (v := .ref (b + (k1 + 7))) (N := 20) (T := T11) (j := 6) F hS (Town_lt hk1) (Town_sh hk1) (Town_N hk1) rfl (Nat.le_of_ble_eq_true rfl) ing11 mw_110 (Town_g6 hk1 _) d_Reader_readThing_144 ?_
        refine lv_aload_n F.hx F.hb d_Reader_readThing_147 rfl (lv_at hl 2 rfl) ?_
        refine r_get (v := vI (q30.1 k1 15)) (N := 20) (T := T11) (j := 15) F hS (Town_lt hk1) (Town_sh hk1) (Town_N hk1) rfl (Nat.le_of_ble_eq_true rfl) ing11 mw_142 (fv_int rfl) d_Reader_readThing_148 ?_
        have i32 := hS.rng k1 15
        refine lv_iload F.hx F.hb d_Reader_readThing_151 (lv_at hl 0 rfl) ?_
        obtain ⟨q33, hq33⟩ : ∃ q, q = (t_WF_put q30 (k1 + 7) 8 (q30.1 k1 15) v4_) := ⟨_, rfl⟩
        replace hT := qlet_eq hT hq33
        refine r_backV F hS (r_runSN (As := [.ref (b + (k1 + 7)), vI (q30.1 k1 15), vI v4_]) F hS (c_WF_put l F.2.2.1 q30 (k1 + 7) 8 (q30.1 k1 15) v4_ (Town_f6 hk1) i32 hv4_ _ hq33.symm) mw_512 mw_511 mw_1 gs_Reader_121 hd_WF_put ⟨Nat.le_of_ble_eq_true rfl, Nat.le_of_ble_eq_true rfl⟩ rfl hl.1 (Nat.le_of_ble_eq_true rfl) ⟨Nat.zero_le _, Nat.zero_le _⟩ rfl d_Reader_readThing_153) (fun H locs hS => ?_)
        refine lv_aload_n F.hx F.hb d_Reader_readThing_156 rfl (lv_at hl 2 rfl) ?_
        refine lv_dup F.hx F.hb d_Reader_readThing_157 rfl ?_
        refine r_get (v := vI (q33.1 k1 15)) (N := 20) (T := T11) (j := 15) F hS (Town_lt hk1) (Town_sh hk1) (Town_N hk1) rfl (Nat.le_of_ble_eq_true rfl) ing11 mw_142 (fv_int rfl) d_Reader_readThing_158 ?_
        have i35 := hS.rng k1 15
        refine r_iconst F.hx F.hb d_Reader_readThing_161 ?_
        refine r_iadd F.hx F.hb d_Reader_readThing_162 ?_
        refine r_putI (N := 20) (T := T11) (j := 15) F hS (Town_lt hk1) (Town_sh hk1) (Town_N hk1) rfl (Nat.le_of_ble_eq_true rfl) ing11 tyok11 nm11 rfl rfl rfl rfl rfl (Town_dyn hk1 _) mw_142 (inr_w32 _) d_Reader_readThing_163 (fun H locs hS => ?_)
        obtain ⟨M36, eM36⟩ : ∃ q, q = (setI q33 k1 15 (w32 ((q33.1 k1 15) + 1))) := ⟨_, rfl⟩
        replace hS : St b C n M36 s H locs := by rw [eM36]; exact hS
        replace hT := qlet_eq hT eM36
        refine r_iconst F.hx F.hb d_Reader_readThing_166 ?_
        cases hT
        exact r_zret F hlk hr hS (Or.inr rfl) d_Reader_readThing_167
      · replace hT := (if_neg c25).symm.trans hT
        exact k_Reader_readThing_L109 l hlo k1 hk1 F hlk hr M _ _ _ hS (lv_sub hl [1] rfl) hT
  · replace hT := (if_neg c18).symm.trans hT
    refine r_iconst F.hx F.hb d_Reader_readThing_78 ?_
    cases hT
    exact r_zret F hlk hr hS (Or.inl rfl) d_Reader_readThing_79
set_option maxHeartbeats 4000000 in
set_option maxRecDepth 100000 in
theorem k_Reader_readThing_L57 (l : Launch) {p : Program} {e : Env} {s : State} {m : MethodId} {below : List Frame} {meth : Method} {c : Code} {b n : Nat} {C : CT} (hlo : 191 ≤ n) (k1 : Nat) (hk1 : isTown k1) (F : Cx b p m c b_Reader_readThing 5 s ([.ref (b + 46), .ref (b + k1)] : List Value).toArray "WardFalls$Reader" C n 191) (hlk : meth.locks = false) (hr : meth.sig.returnType = some .boolean) {res : Mem × Int} (M : Mem) (v2_ : Int) (hv2_ : InR v2_) (v3_ : Int) (hv3_ : InR v3_) (H : Heap) (locs : List Loc) (ls : Array Slot) (hS : St b C n M s H locs) (hl : lv_has ls 5 [(0, .ref (b + 46)), (1, .ref (b + k1)), (2, vI v2_)]) (hT : t_Reader_readThing_L57 k1 M v2_ v3_ = some res) : W p l e (headSpec (wsM y_Reader_readThing b_Reader_readThing 5 (some .boolean)) (rmD 5)).room s m ([.ref (b + 46), .ref (b + k1)] : List Value).toArray below meth c H locs 0 0 (MQ below (QZ b C n res.1 res.2) ([.ref (b + 46), .ref (b + k1)] : List Value).toArray s 0 0 (frb b)) (F0 m 57 ls [vI v3_]) := by
  unfold t_Reader_readThing_L57 at hT
  refine lv_istore_n (lv' := [(3, vI v3_), (0, .ref (b + 46)), (1, .ref (b + k1)), (2, vI v2_)]) F.hx F.hb d_Reader_readThing_57 rfl hl (Nat.le_of_ble_eq_true rfl) rfl (fun ls hl => ?_)
  refine lv_iload_n F.hx F.hb d_Reader_readThing_58 rfl (lv_at hl 0 rfl) ?_
  refine r_if_ge (tgt := 66) F.hx F.hb hv3_ d_Reader_readThing_59 (by decide) (fun c15 => ?_) (fun c15 => ?_)
  · replace hT := (if_pos c15).symm.trans hT
    refine lv_aload_n F.hx F.hb d_Reader_readThing_66 rfl (lv_at hl 1 rfl) ?_
    refine lv_aload_n F.hx F.hb d_Reader_readThing_67 rfl (lv_at hl 2 rfl) ?_
    obtain ⟨q16, hq16, hT⟩ := q_obind hT
    refine r_backI F hS (r_runV (k := 46) (N := 11) (T := T8) (As := [.ref (b + k1)]) F hS (show 46 < 191 by decide) (show shK 46 = 12 from rfl) rfl (c_Reader_takeCell l F.2.2.1 M k1 hk1 _ hq16) gs_Reader_150 hd_Reader_takeCell ⟨Nat.le_of_ble_eq_true rfl, Nat.le_of_ble_eq_true rfl⟩ rfl hl.1 (Nat.le_of_ble_eq_true rfl) ⟨Nat.zero_le _, Nat.zero_le _⟩ rfl d_Reader_readThing_68) (fun H locs hS h17 => ?_)
    exact k_Reader_readThing_L71 l hlo k1 hk1 F hlk hr (q16.1) v2_ hv2_ v3_ hv3_ (q16.2) h17 _ _ _ hS (lv_sub hl [1, 2, 3, 0] rfl) hT
  · replace hT := (if_neg c15).symm.trans hT
    refine r_iconst F.hx F.hb d_Reader_readThing_62 ?_
    refine lv_goto (tgt := 71) F.hx F.hb d_Reader_readThing_63 (by decide) ?_
    exact k_Reader_readThing_L71 l hlo k1 hk1 F hlk hr M v2_ hv2_ v3_ hv3_ (-1) (inr_c rfl) _ _ _ hS (lv_sub hl [1, 2, 3, 0] rfl) hT
set_option maxHeartbeats 4000000 in
set_option maxRecDepth 100000 in
theorem c_Reader_readThing (l : Launch) {b n : Nat} {C : CT} (hlo : 191 ≤ n) (M : Mem) (k1 : Nat) (hk1 : isTown k1) (res : Mem × Int) (hT : t_Reader_readThing M k1 = some res) : CM l b C n 5 y_Reader_readThing b_Reader_readThing 5 (some .boolean) [.ref (b + 46), .ref (b + k1)] M (QZ b C n res.1 res.2) := by
  refine CM.of (lo := 191) (ow := "WardFalls$Reader") (by decide) rfl (Nat.le_of_ble_eq_true rfl) hlo (fun p e s m below meth c F hlk hr hS ls hl => ?_)
  have hl : lv_has ls 5 [(0, .ref (b + 46)), (1, .ref (b + k1))] := hl
  unfold t_Reader_readThing at hT
  refine lv_aload_n F.hx F.hb d_Reader_readThing_0 rfl (lv_at hl 1 rfl) ?_
  refine r_get (v := vI (M.1 k1 15)) (N := 20) (T := T11) (j := 15) F hS (Town_lt hk1) (Town_sh hk1) (Town_N hk1) rfl (Nat.le_of_ble_eq_true rfl) ing11 mw_142 (fv_int rfl) d_Reader_readThing_1 ?_
  have i1 := hS.rng k1 15
  refine r_bipush F.hx F.hb d_Reader_readThing_4 rfl ?_
  refine r_icmp_lt (tgt := 19) F.hx F.hb i1 (inr_c rfl) d_Reader_readThing_6 (by decide) (fun c2 => ?_) (fun c2 => ?_)
  · replace hT := (if_pos c2).symm.trans hT
    refine lv_aload_n F.hx F.hb d_Reader_readThing_19 rfl (lv_at hl 0 rfl) ?_
    refine lv_aload_n F.hx F.hb d_Reader_readThing_20 rfl (lv_at hl 0 rfl) ?_
    refine r_get (v := vI (M.1 46 1)) (N := 11) (T := T8) (j := 1) F hS (show 46 < 191 by decide) (show shK 46 = 12 from rfl) (show shN 46 = 11 from rfl) rfl (Nat.le_of_ble_eq_true rfl) ing8 mw_231 (fv_int rfl) d_Reader_readThing_21 ?_
    have i3 := hS.rng 46 1
    refine r_iconst F.hx F.hb d_Reader_readThing_24 ?_
    refine r_iadd F.hx F.hb d_Reader_readThing_25 ?_
    obtain ⟨q4, hq4, hT⟩ := q_obind hT
    refine r_backV F hS (r_runV (k := 46) (N := 11) (T := T8) (As := [vI (w32 ((M.1 46 1) + 1))]) F hS (show 46 < 191 by decide) (show shK 46 = 12 from rfl) rfl (c_Reader_goTo l F.2.2.1 M (w32 ((M.1 46 1) + 1)) (inr_w32 _) _ hq4) gs_Reader_80 hd_Reader_goTo ⟨Nat.le_of_ble_eq_true rfl, Nat.le_of_ble_eq_true rfl⟩ rfl hl.1 (Nat.le_of_ble_eq_true rfl) ⟨Nat.zero_le _, Nat.zero_le _⟩ rfl d_Reader_readThing_26) (fun H locs hS => ?_)
    refine lv_aload_n F.hx F.hb d_Reader_readThing_29 rfl (lv_at hl 0 rfl) ?_
    refine lv_aload_n F.hx F.hb d_Reader_readThing_30 rfl (lv_at hl 1 rfl) ?_
    refine r_get (v := .ref (b + (k1 + 5))) (N := 20) (T := T11) (j := 4) F hS (Town_lt hk1) (Town_sh hk1) (Town_N hk1) rfl (Nat.le_of_ble_eq_true rfl) ing11 mw_103 (Town_g4 hk1 _) d_Reader_readThing_31 ?_
    refine lv_aload_n F.hx F.hb d_Reader_readThing_34 rfl (lv_at hl 1 rfl) ?_
    refine r_get (v := vI (q4.1 k1 15)) (N := 20) (T := T11) (j := 15) F hS (Town_lt hk1) (Town_sh hk1) (Town_N hk1) rfl (Nat.le_of_ble_eq_true rfl) ing11 mw_142 (fv_int rfl) d_Reader_readThing_35 ?_
    have i6 := hS.rng k1 15
    obtain ⟨q7, hq7, hT⟩ := q_obind hT
    refine r_backI F hS (r_runV (k := 46) (N := 11) (T := T8) (As := [.ref (b + (k1 + 5)), vI (q4.1 k1 15)]) F hS (show 46 < 191 by decide) (show shK 46 = 12 from rfl) rfl (c_Reader_takeNewName l F.2.2.1 q4 (k1 + 5) 8 (q4.1 k1 15) (Town_f4 hk1) i6 _ hq7) gs_Reader_114 hd_Reader_takeNewName ⟨Nat.le_of_ble_eq_true rfl, Nat.le_of_ble_eq_true rfl⟩ rfl hl.1 (Nat.le_of_ble_eq_true rfl) ⟨Nat.zero_le _, Nat.zero_le _⟩ rfl d_Reader_readThing_38) (fun H locs hS h8 => ?_)
    refine lv_istore_n (lv' := [(2, vI (q7.2)), (0, .ref (b + 46)), (1, .ref (b + k1))]) F.hx F.hb d_Reader_readThing_41 rfl hl (Nat.le_of_ble_eq_true rfl) rfl (fun ls hl => ?_)
    refine lv_iload_n F.hx F.hb d_Reader_readThing_42 rfl (lv_at hl 0 rfl) ?_
    refine r_if_ge (tgt := 50) F.hx F.hb h8 d_Reader_readThing_43 (by decide) (fun c9 => ?_) (fun c9 => ?_)
    · replace hT := (if_pos c9).symm.trans hT
      refine lv_aload_n F.hx F.hb d_Reader_readThing_50 rfl (lv_at hl 1 rfl) ?_
      refine r_iconst F.hx F.hb d_Reader_readThing_51 ?_
      refine r_bipush F.hx F.hb d_Reader_readThing_52 rfl ?_
      obtain ⟨q10, hq10, hT⟩ := q_obind hT
      refine r_backI F hS (r_runV (k := 46) (N := 11) (T := T8) (As := [vI 0, vI 99]) F hS (show 46 < 191 by decide) (show shK 46 = 12 from rfl) rfl (c_Reader_takeNumber l F.2.2.1 (q7.1) 0 99 (inr_c rfl) (inr_c rfl) _ hq10) gs_Reader_97 hd_Reader_takeNumber ⟨Nat.le_of_ble_eq_true rfl, Nat.le_of_ble_eq_true rfl⟩ rfl hl.1 (Nat.le_of_ble_eq_true rfl) ⟨Nat.zero_le _, Nat.zero_le _⟩ rfl d_Reader_readThing_54) (fun H locs hS h11 => ?_)
      exact k_Reader_readThing_L57 l hlo k1 hk1 F hlk hr (q10.1) (q7.2) h8 (q10.2) h11 _ _ _ hS (lv_sub hl [1, 2, 0] rfl) hT
    · replace hT := (if_neg c9).symm.trans hT
      refine r_iconst F.hx F.hb d_Reader_readThing_46 ?_
      refine lv_goto (tgt := 57) F.hx F.hb d_Reader_readThing_47 (by decide) ?_
      exact k_Reader_readThing_L57 l hlo k1 hk1 F hlk hr (q7.1) (q7.2) h8 (-1) (inr_c rfl) _ _ _ hS (lv_sub hl [1, 2, 0] rfl) hT
  · replace hT := (if_neg c2).symm.trans hT
    refine lv_aload_n F.hx F.hb d_Reader_readThing_9 rfl (lv_at hl 0 rfl) ?_
    refine r_iconst F.hx F.hb d_Reader_readThing_10 ?_
    refine lv_aload_n F.hx F.hb d_Reader_readThing_11 rfl (lv_at hl 0 rfl) ?_
    refine r_get (v := vI (M.1 46 4)) (N := 11) (T := T8) (j := 4) F hS (show 46 < 191 by decide) (show shK 46 = 12 from rfl) (show shN 46 = 11 from rfl) rfl (Nat.le_of_ble_eq_true rfl) ing8 mw_234 (fv_int rfl) d_Reader_readThing_12 ?_
    have i12 := hS.rng 46 4
    obtain ⟨q13, hq13⟩ : ∃ q, q = (t_Reader_refuse M 2 (M.1 46 4)) := ⟨_, rfl⟩
    replace hT := qlet_eq hT hq13
    refine r_backZ F hS (r_runV (k := 46) (N := 11) (T := T8) (As := [vI 2, vI (M.1 46 4)]) F hS (show 46 < 191 by decide) (show shK 46 = 12 from rfl) rfl (c_Reader_refuse l F.2.2.1 M 2 (M.1 46 4) (inr_c rfl) i12 _ hq13.symm) gs_Reader_47 hd_Reader_refuse ⟨Nat.le_of_ble_eq_true rfl, Nat.le_of_ble_eq_true rfl⟩ rfl hl.1 (Nat.le_of_ble_eq_true rfl) ⟨Nat.zero_le _, Nat.zero_le _⟩ rfl d_Reader_readThing_15) (fun H locs hS h14 => ?_)
    cases hT
    exact r_zret F hlk hr hS h14 d_Reader_readThing_18
theorem d_Reader_readSeed_0 : decode b_Reader_readSeed 0 = .ok (.aload_n 0, 1) := dc_42 (by decide +kernel)
theorem d_Reader_readSeed_1 : decode b_Reader_readSeed 1 = .ok (.getfield 71, 3) := dc_180 (by decide +kernel)
theorem d_Reader_readSeed_4 : decode b_Reader_readSeed 4 = .ok (.ifCond .eq 13, 3) := dc_153 (by decide +kernel)
theorem d_Reader_readSeed_7 : decode b_Reader_readSeed 7 = .ok (.aload_n 0, 1) := dc_42 (by decide +kernel)
theorem d_Reader_readSeed_8 : decode b_Reader_readSeed 8 = .ok (.iconst 3, 1) := dc_6 (by decide +kernel)
theorem d_Reader_readSeed_9 : decode b_Reader_readSeed 9 = .ok (.aload_n 0, 1) := dc_42 (by decide +kernel)
theorem d_Reader_readSeed_10 : decode b_Reader_readSeed 10 = .ok (.getfield 44, 3) := dc_180 (by decide +kernel)
theorem d_Reader_readSeed_13 : decode b_Reader_readSeed 13 = .ok (.invokevirtual 47, 3) := dc_182 (by decide +kernel)
theorem d_Reader_readSeed_16 : decode b_Reader_readSeed 16 = .ok (.ireturn, 1) := dc_172 (by decide +kernel)
theorem d_Reader_readSeed_17 : decode b_Reader_readSeed 17 = .ok (.aload_n 0, 1) := dc_42 (by decide +kernel)
theorem d_Reader_readSeed_18 : decode b_Reader_readSeed 18 = .ok (.iconst 1, 1) := dc_4 (by decide +kernel)
theorem d_Reader_readSeed_19 : decode b_Reader_readSeed 19 = .ok (.putfield 71, 3) := dc_181 (by decide +kernel)
theorem d_Reader_readSeed_22 : decode b_Reader_readSeed 22 = .ok (.aload_n 0, 1) := dc_42 (by decide +kernel)
theorem d_Reader_readSeed_23 : decode b_Reader_readSeed 23 = .ok (.aload_n 0, 1) := dc_42 (by decide +kernel)
theorem d_Reader_readSeed_24 : decode b_Reader_readSeed 24 = .ok (.getfield 94, 3) := dc_180 (by decide +kernel)
theorem d_Reader_readSeed_27 : decode b_Reader_readSeed 27 = .ok (.iconst 1, 1) := dc_4 (by decide +kernel)
theorem d_Reader_readSeed_28 : decode b_Reader_readSeed 28 = .ok (.iadd, 1) := dc_96 (by decide +kernel)
theorem d_Reader_readSeed_29 : decode b_Reader_readSeed 29 = .ok (.invokevirtual 80, 3) := dc_182 (by decide +kernel)
theorem d_Reader_readSeed_32 : decode b_Reader_readSeed 32 = .ok (.aload_n 0, 1) := dc_42 (by decide +kernel)
theorem d_Reader_readSeed_33 : decode b_Reader_readSeed 33 = .ok (.iconst 0, 1) := dc_3 (by decide +kernel)
theorem d_Reader_readSeed_34 : decode b_Reader_readSeed 34 = .ok (.ldc 167, 2) := dc_18 (by decide +kernel)
theorem d_Reader_readSeed_36 : decode b_Reader_readSeed 36 = .ok (.invokevirtual 97, 3) := dc_182 (by decide +kernel)
theorem d_Reader_readSeed_39 : decode b_Reader_readSeed 39 = .ok (.istore_n 2, 1) := dc_61 (by decide +kernel)
theorem d_Reader_readSeed_40 : decode b_Reader_readSeed 40 = .ok (.aload_n 1, 1) := dc_43 (by decide +kernel)
theorem d_Reader_readSeed_41 : decode b_Reader_readSeed 41 = .ok (.iload_n 2, 1) := dc_28 (by decide +kernel)
theorem d_Reader_readSeed_42 : decode b_Reader_readSeed 42 = .ok (.putfield 168, 3) := dc_181 (by decide +kernel)
theorem d_Reader_readSeed_45 : decode b_Reader_readSeed 45 = .ok (.iload_n 2, 1) := dc_28 (by decide +kernel)
theorem d_Reader_readSeed_46 : decode b_Reader_readSeed 46 = .ok (.ifCond .lt 7, 3) := dc_155 (by decide +kernel)
theorem d_Reader_readSeed_49 : decode b_Reader_readSeed 49 = .ok (.iconst 1, 1) := dc_4 (by decide +kernel)
theorem d_Reader_readSeed_50 : decode b_Reader_readSeed 50 = .ok (.goto 4, 3) := dc_167 (by decide +kernel)
theorem d_Reader_readSeed_53 : decode b_Reader_readSeed 53 = .ok (.iconst 0, 1) := dc_3 (by decide +kernel)
theorem d_Reader_readSeed_54 : decode b_Reader_readSeed 54 = .ok (.ireturn, 1) := dc_172 (by decide +kernel)
def t_Reader_readSeed (M : Mem) (k1 : Nat) : Option (Mem × Int) := (if (M.1 46 8) = 0 then (qlet (setI M 46 8 1) fun M3 => (obind (t_Reader_goTo M3 (w32 ((M3.1 46 1) + 1))) fun q5 => (obind (t_Reader_takeNumber q5 0 99999) fun q7 => (qlet (setI (q7.1) k1 17 (q7.2)) fun M9 => (if (q7.2) < 0 then (some (M9, 0)) else (some (M9, 1))))))) else (qlet (t_Reader_refuse M 3 (M.1 46 4)) fun q12 => (some ((q12.1), (q12.2)))))
set_option maxHeartbeats 4000000 in
set_option maxRecDepth 100000 in
theorem c_Reader_readSeed (l : Launch) {b n : Nat} {C : CT} (hlo : 191 ≤ n) (M : Mem) (k1 : Nat) (hk1 : isTown k1) (res : Mem × Int) (hT : t_Reader_readSeed M k1 = some res) : CM l b C n 4 y_Reader_readSeed b_Reader_readSeed 3 (some .boolean) [.ref (b + 46), .ref (b + k1)] M (QZ b C n res.1 res.2) := by
  refine CM.of (lo := 191) (ow := "WardFalls$Reader") (by decide) rfl (Nat.le_of_ble_eq_true rfl) hlo (fun p e s m below meth c F hlk hr hS ls hl => ?_)
  have hl : lv_has ls 3 [(0, .ref (b + 46)), (1, .ref (b + k1))] := hl
  unfold t_Reader_readSeed at hT
  refine lv_aload_n F.hx F.hb d_Reader_readSeed_0 rfl (lv_at hl 0 rfl) ?_
  refine r_get (v := vI (M.1 46 8)) (N := 11) (T := T8) (j := 8) F hS (show 46 < 191 by decide) (show shK 46 = 12 from rfl) (show shN 46 = 11 from rfl) rfl (Nat.le_of_ble_eq_true rfl) ing8 mw_238 (fv_int rfl) d_Reader_readSeed_1 ?_
  have i1 := hS.rng 46 8
  refine r_if_eq (tgt := 17) F.hx F.hb i1 d_Reader_readSeed_4 (by decide) (fun c2 => ?_) (fun c2 => ?_)
  · replace hT := (if_pos c2).symm.trans hT
    refine lv_aload_n F.hx F.hb d_Reader_readSeed_17 rfl (lv_at hl 0 rfl) ?_
    refine r_iconst F.hx F.hb d_Reader_readSeed_18 ?_
    refine r_putI (N := 11) (T := T8) (j := 8) F hS (show 46 < 191 by decide) (show shK 46 = 12 from rfl) (show shN 46 = 11 from rfl) rfl (Nat.le_of_ble_eq_true rfl) ing8 tyok8 nm8 rfl rfl (nar_z (Or.inr rfl)) (fit_z (Or.inr rfl)) rfl rfl mw_238 (inr_c rfl) d_Reader_readSeed_19 (fun H locs hS => ?_)
    obtain ⟨M3, eM3⟩ : ∃ q, q = (setI M 46 8 1) := ⟨_, rfl⟩
    replace hS : St b C n M3 s H locs := by rw [eM3]; exact hS
    replace hT := qlet_eq hT eM3
    refine lv_aload_n F.hx F.hb d_Reader_readSeed_22 rfl (lv_at hl 0 rfl) ?_
    refine lv_aload_n F.hx F.hb d_Reader_readSeed_23 rfl (lv_at hl 0 rfl) ?_
    refine r_get (v := vI (M3.1 46 1)) (N := 11) (T := T8) (j := 1) F hS (show 46 < 191 by decide) (show shK 46 = 12 from rfl) (show shN 46 = 11 from rfl) rfl (Nat.le_of_ble_eq_true rfl) ing8 mw_231 (fv_int rfl) d_Reader_readSeed_24 ?_
    have i4 := hS.rng 46 1
    refine r_iconst F.hx F.hb d_Reader_readSeed_27 ?_
    refine r_iadd F.hx F.hb d_Reader_readSeed_28 ?_
    obtain ⟨q5, hq5, hT⟩ := q_obind hT
    refine r_backV F hS (r_runV (k := 46) (N := 11) (T := T8) (As := [vI (w32 ((M3.1 46 1) + 1))]) F hS (show 46 < 191 by decide) (show shK 46 = 12 from rfl) rfl (c_Reader_goTo l F.2.2.1 M3 (w32 ((M3.1 46 1) + 1)) (inr_w32 _) _ hq5) gs_Reader_80 hd_Reader_goTo ⟨Nat.le_of_ble_eq_true rfl, Nat.le_of_ble_eq_true rfl⟩ rfl hl.1 (Nat.le_of_ble_eq_true rfl) ⟨Nat.zero_le _, Nat.zero_le _⟩ rfl d_Reader_readSeed_29) (fun H locs hS => ?_)
    refine lv_aload_n F.hx F.hb d_Reader_readSeed_32 rfl (lv_at hl 0 rfl) ?_
    refine r_iconst F.hx F.hb d_Reader_readSeed_33 ?_
    refine lv_ldc (v := Int32.ofInt 99999) F.hx F.hb F.hown (F.hts mw_786) d_Reader_readSeed_34 ?_
    obtain ⟨q7, hq7, hT⟩ := q_obind hT
    refine r_backI F hS (r_runV (k := 46) (N := 11) (T := T8) (As := [vI 0, vI 99999]) F hS (show 46 < 191 by decide) (show shK 46 = 12 from rfl) rfl (c_Reader_takeNumber l F.2.2.1 q5 0 99999 (inr_c rfl) (inr_c rfl) _ hq7) gs_Reader_97 hd_Reader_takeNumber ⟨Nat.le_of_ble_eq_true rfl, Nat.le_of_ble_eq_true rfl⟩ rfl hl.1 (Nat.le_of_ble_eq_true rfl) ⟨Nat.zero_le _, Nat.zero_le _⟩ rfl d_Reader_readSeed_36) (fun H locs hS h8 => ?_)
    refine lv_istore_n (lv' := [(2, vI (q7.2)), (0, .ref (b + 46)), (1, .ref (b + k1))]) F.hx F.hb d_Reader_readSeed_39 rfl hl (Nat.le_of_ble_eq_true rfl) rfl (fun ls hl => ?_)
    refine lv_aload_n F.hx F.hb d_Reader_readSeed_40 rfl (lv_at hl 2 rfl) ?_
    refine lv_iload_n F.hx F.hb d_Reader_readSeed_41 rfl (lv_at hl 0 rfl) ?_
    refine r_putI (N := 20) (T := T11) (j := 17) F hS (Town_lt hk1) (Town_sh hk1) (Town_N hk1) rfl (Nat.le_of_ble_eq_true rfl) ing11 tyok11 nm11 rfl rfl rfl rfl rfl (Town_dyn hk1 _) mw_150 h8 d_Reader_readSeed_42 (fun H locs hS => ?_)
    obtain ⟨M9, eM9⟩ : ∃ q, q = (setI (q7.1) k1 17 (q7.2)) := ⟨_, rfl⟩
    replace hS : St b C n M9 s H locs := by rw [eM9]; exact hS
    replace hT := qlet_eq hT eM9
    refine lv_iload_n F.hx F.hb d_Reader_readSeed_45 rfl (lv_at hl 0 rfl) ?_
    refine r_if_lt (tgt := 53) F.hx F.hb h8 d_Reader_readSeed_46 (by decide) (fun c10 => ?_) (fun c10 => ?_)
    · replace hT := (if_pos c10).symm.trans hT
      refine r_iconst F.hx F.hb d_Reader_readSeed_53 ?_
      cases hT
      exact r_zret F hlk hr hS (Or.inl rfl) d_Reader_readSeed_54
    · replace hT := (if_neg c10).symm.trans hT
      refine r_iconst F.hx F.hb d_Reader_readSeed_49 ?_
      refine lv_goto (tgt := 54) F.hx F.hb d_Reader_readSeed_50 (by decide) ?_
      cases hT
      exact r_zret F hlk hr hS (Or.inr rfl) d_Reader_readSeed_54
  · replace hT := (if_neg c2).symm.trans hT
    refine lv_aload_n F.hx F.hb d_Reader_readSeed_7 rfl (lv_at hl 0 rfl) ?_
    refine r_iconst F.hx F.hb d_Reader_readSeed_8 ?_
    refine lv_aload_n F.hx F.hb d_Reader_readSeed_9 rfl (lv_at hl 0 rfl) ?_
    refine r_get (v := vI (M.1 46 4)) (N := 11) (T := T8) (j := 4) F hS (show 46 < 191 by decide) (show shK 46 = 12 from rfl) (show shN 46 = 11 from rfl) rfl (Nat.le_of_ble_eq_true rfl) ing8 mw_234 (fv_int rfl) d_Reader_readSeed_10 ?_
    have i11 := hS.rng 46 4
    obtain ⟨q12, hq12⟩ : ∃ q, q = (t_Reader_refuse M 3 (M.1 46 4)) := ⟨_, rfl⟩
    replace hT := qlet_eq hT hq12
    refine r_backZ F hS (r_runV (k := 46) (N := 11) (T := T8) (As := [vI 3, vI (M.1 46 4)]) F hS (show 46 < 191 by decide) (show shK 46 = 12 from rfl) rfl (c_Reader_refuse l F.2.2.1 M 3 (M.1 46 4) (inr_c rfl) i11 _ hq12.symm) gs_Reader_47 hd_Reader_refuse ⟨Nat.le_of_ble_eq_true rfl, Nat.le_of_ble_eq_true rfl⟩ rfl hl.1 (Nat.le_of_ble_eq_true rfl) ⟨Nat.zero_le _, Nat.zero_le _⟩ rfl d_Reader_readSeed_13) (fun H locs hS h13 => ?_)
    cases hT
    exact r_zret F hlk hr hS h13 d_Reader_readSeed_16
theorem wn_Formula_strengthOf_0 : ∀ i, i < 1 → bA b_Formula_strengthOf (0 + i) = wB [26] i := wB_of (by decide +kernel)
theorem d_Formula_strengthOf_0 : decode b_Formula_strengthOf 0 = .ok (.iload_n 0, 1) := dc_26 (q0_win (r := 0) wn_Formula_strengthOf_0 (by decide +kernel))
theorem d_Formula_strengthOf_1 : decode b_Formula_strengthOf 1 = .ok (.tableswitch 178 15 52 #[167, 169, 178, 178, 178, 178, 178, 178, 178, 178, 178, 178, 178, 178, 178, 178, 178, 178, 178, 178, 178, 178, 178, 178, 178, 178, 178, 178, 173, 173, 175, 175, 171, 171, 171, 171, 171, 171], 167) := by decide +kernel
theorem wn_Formula_strengthOf_168 : ∀ i, i < 13 → bA b_Formula_strengthOf (168 + i) = wB [4, 172, 5, 172, 7, 172, 8, 172, 16, 6, 172, 3, 172] i := wB_of (by decide +kernel)
theorem d_Formula_strengthOf_168 : decode b_Formula_strengthOf 168 = .ok (.iconst 1, 1) := dc_4 (q0_win (r := 0) wn_Formula_strengthOf_168 (by decide +kernel))
theorem d_Formula_strengthOf_169 : decode b_Formula_strengthOf 169 = .ok (.ireturn, 1) := dc_172 (q0_win (r := 1) wn_Formula_strengthOf_168 (by decide +kernel))
theorem d_Formula_strengthOf_170 : decode b_Formula_strengthOf 170 = .ok (.iconst 2, 1) := dc_5 (q0_win (r := 2) wn_Formula_strengthOf_168 (by decide +kernel))
theorem d_Formula_strengthOf_171 : decode b_Formula_strengthOf 171 = .ok (.ireturn, 1) := dc_172 (q0_win (r := 3) wn_Formula_strengthOf_168 (by decide +kernel))
theorem d_Formula_strengthOf_172 : decode b_Formula_strengthOf 172 = .ok (.iconst 4, 1) := dc_7 (q0_win (r := 4) wn_Formula_strengthOf_168 (by decide +kernel))
theorem d_Formula_strengthOf_173 : decode b_Formula_strengthOf 173 = .ok (.ireturn, 1) := dc_172 (q0_win (r := 5) wn_Formula_strengthOf_168 (by decide +kernel))
theorem d_Formula_strengthOf_174 : decode b_Formula_strengthOf 174 = .ok (.iconst 5, 1) := dc_8 (q0_win (r := 6) wn_Formula_strengthOf_168 (by decide +kernel))
theorem d_Formula_strengthOf_175 : decode b_Formula_strengthOf 175 = .ok (.ireturn, 1) := dc_172 (q0_win (r := 7) wn_Formula_strengthOf_168 (by decide +kernel))
theorem d_Formula_strengthOf_176 : decode b_Formula_strengthOf 176 = .ok (.bipush 6, 2) := dc_16 (qS1_win (r := 8) wn_Formula_strengthOf_168 (by decide +kernel))
theorem d_Formula_strengthOf_178 : decode b_Formula_strengthOf 178 = .ok (.ireturn, 1) := dc_172 (q0_win (r := 10) wn_Formula_strengthOf_168 (by decide +kernel))
theorem d_Formula_strengthOf_179 : decode b_Formula_strengthOf 179 = .ok (.iconst 0, 1) := dc_3 (q0_win (r := 11) wn_Formula_strengthOf_168 (by decide +kernel))
theorem d_Formula_strengthOf_180 : decode b_Formula_strengthOf 180 = .ok (.ireturn, 1) := dc_172 (q0_win (r := 12) wn_Formula_strengthOf_168 (by decide +kernel))
def t_Formula_strengthOf (M : Mem) (x1 : Int) : Int := (if x1 = 15 then 1 else (if x1 = 16 then 2 else (if x1 = 17 then 0 else (if x1 = 18 then 0 else (if x1 = 19 then 0 else (if x1 = 20 then 0 else (if x1 = 21 then 0 else (if x1 = 22 then 0 else (if x1 = 23 then 0 else (if x1 = 24 then 0 else (if x1 = 25 then 0 else (if x1 = 26 then 0 else (if x1 = 27 then 0 else (if x1 = 28 then 0 else (if x1 = 29 then 0 else (if x1 = 30 then 0 else (if x1 = 31 then 0 else (if x1 = 32 then 0 else (if x1 = 33 then 0 else (if x1 = 34 then 0 else (if x1 = 35 then 0 else (if x1 = 36 then 0 else (if x1 = 37 then 0 else (if x1 = 38 then 0 else (if x1 = 39 then 0 else (if x1 = 40 then 0 else (if x1 = 41 then 0 else (if x1 = 42 then 0 else (if x1 = 43 then 5 else (if x1 = 44 then 5 else (if x1 = 45 then 6 else (if x1 = 46 then 6 else (if x1 = 47 then 4 else (if x1 = 48 then 4 else (if x1 = 49 then 4 else (if x1 = 50 then 4 else (if x1 = 51 then 4 else (if x1 = 52 then 4 else 0))))))))))))))))))))))))))))))))))))))
set_option maxHeartbeats 4000000 in
set_option maxRecDepth 100000 in
theorem c_Formula_strengthOf (l : Launch) {b n : Nat} {C : CT} (hlo : 191 ≤ n) (M : Mem) (x1 : Int) (hx1 : InR x1) (res : Int) (hT : t_Formula_strengthOf M x1 = res) : CM l b C n 0 y_Formula_strengthOf b_Formula_strengthOf 1 (some .int) [vI x1] M (QI b C n M res) := by
  refine CM.of (lo := 191) (ow := "WardFalls$Formula") (by decide) rfl (Nat.le_of_ble_eq_true rfl) hlo (fun p e s m below meth c F hlk hr hS ls hl => ?_)
  have hl : lv_has ls 1 [(0, vI x1)] := hl
  unfold t_Formula_strengthOf at hT
  refine lv_iload_n F.hx F.hb d_Formula_strengthOf_0 rfl (lv_at hl 0 rfl) ?_
  rcases q_ite hT with ⟨c1, hT⟩ | ⟨c1, hT⟩
  · refine r_tableIn (i := 15) (tgt := 168) F.hx F.hb hx1 c1 d_Formula_strengthOf_1 (by decide) (by decide) rfl (by decide) ?_
    refine r_iconst F.hx F.hb d_Formula_strengthOf_168 ?_
    subst hT
    exact r_iret F hlk hr rfl hS (inr_c rfl) d_Formula_strengthOf_169
  ·
    rcases q_ite hT with ⟨c2, hT⟩ | ⟨c2, hT⟩
    · refine r_tableIn (i := 16) (tgt := 170) F.hx F.hb hx1 c2 d_Formula_strengthOf_1 (by decide) (by decide) rfl (by decide) ?_
      refine r_iconst F.hx F.hb d_Formula_strengthOf_170 ?_
      subst hT
      exact r_iret F hlk hr rfl hS (inr_c rfl) d_Formula_strengthOf_171
    ·
      rcases q_ite hT with ⟨c3, hT⟩ | ⟨c3, hT⟩
      · refine r_tableIn (i := 17) (tgt := 179) F.hx F.hb hx1 c3 d_Formula_strengthOf_1 (by decide) (by decide) rfl (by decide) ?_
        refine r_iconst F.hx F.hb d_Formula_strengthOf_179 ?_
        subst hT
        exact r_iret F hlk hr rfl hS (inr_c rfl) d_Formula_strengthOf_180
      ·
        rcases q_ite hT with ⟨c4, hT⟩ | ⟨c4, hT⟩
        · refine r_tableIn (i := 18) (tgt := 179) F.hx F.hb hx1 c4 d_Formula_strengthOf_1 (by decide) (by decide) rfl (by decide) ?_
          refine r_iconst F.hx F.hb d_Formula_strengthOf_179 ?_
          subst hT
          exact r_iret F hlk hr rfl hS (inr_c rfl) d_Formula_strengthOf_180
        ·
          rcases q_ite hT with ⟨c5, hT⟩ | ⟨c5, hT⟩
          · refine r_tableIn (i := 19) (tgt := 179) F.hx F.hb hx1 c5 d_Formula_strengthOf_1 (by decide) (by decide) rfl (by decide) ?_
            refine r_iconst F.hx F.hb d_Formula_strengthOf_179 ?_
            subst hT
            exact r_iret F hlk hr rfl hS (inr_c rfl) d_Formula_strengthOf_180
          ·
            rcases q_ite hT with ⟨c6, hT⟩ | ⟨c6, hT⟩
            · refine r_tableIn (i := 20) (tgt := 179) F.hx F.hb hx1 c6 d_Formula_strengthOf_1 (by decide) (by decide) rfl (by decide) ?_
              refine r_iconst F.hx F.hb d_Formula_strengthOf_179 ?_
              subst hT
              exact r_iret F hlk hr rfl hS (inr_c rfl) d_Formula_strengthOf_180
            ·
              rcases q_ite hT with ⟨c7, hT⟩ | ⟨c7, hT⟩
              · refine r_tableIn (i := 21) (tgt := 179) F.hx F.hb hx1 c7 d_Formula_strengthOf_1 (by decide) (by decide) rfl (by decide) ?_
                refine r_iconst F.hx F.hb d_Formula_strengthOf_179 ?_
                subst hT
                exact r_iret F hlk hr rfl hS (inr_c rfl) d_Formula_strengthOf_180
              ·
                rcases q_ite hT with ⟨c8, hT⟩ | ⟨c8, hT⟩
                · refine r_tableIn (i := 22) (tgt := 179) F.hx F.hb hx1 c8 d_Formula_strengthOf_1 (by decide) (by decide) rfl (by decide) ?_
                  refine r_iconst F.hx F.hb d_Formula_strengthOf_179 ?_
                  subst hT
                  exact r_iret F hlk hr rfl hS (inr_c rfl) d_Formula_strengthOf_180
                ·
                  rcases q_ite hT with ⟨c9, hT⟩ | ⟨c9, hT⟩
                  · refine r_tableIn (i := 23) (tgt := 179) F.hx F.hb hx1 c9 d_Formula_strengthOf_1 (by decide) (by decide) rfl (by decide) ?_
                    refine r_iconst F.hx F.hb d_Formula_strengthOf_179 ?_
                    subst hT
                    exact r_iret F hlk hr rfl hS (inr_c rfl) d_Formula_strengthOf_180
                  ·
                    rcases q_ite hT with ⟨c10, hT⟩ | ⟨c10, hT⟩
                    · refine r_tableIn (i := 24) (tgt := 179) F.hx F.hb hx1 c10 d_Formula_strengthOf_1 (by decide) (by decide) rfl (by decide) ?_
                      refine r_iconst F.hx F.hb d_Formula_strengthOf_179 ?_
                      subst hT
                      exact r_iret F hlk hr rfl hS (inr_c rfl) d_Formula_strengthOf_180
                    ·
                      rcases q_ite hT with ⟨c11, hT⟩ | ⟨c11, hT⟩
                      · refine r_tableIn (i := 25) (tgt := 179) F.hx F.hb hx1 c11 d_Formula_strengthOf_1 (by decide) (by decide) rfl (by decide) ?_
                        refine r_iconst F.hx F.hb d_Formula_strengthOf_179 ?_
                        subst hT
                        exact r_iret F hlk hr rfl hS (inr_c rfl) d_Formula_strengthOf_180
                      ·
                        rcases q_ite hT with ⟨c12, hT⟩ | ⟨c12, hT⟩
                        · refine r_tableIn (i := 26) (tgt := 179) F.hx F.hb hx1 c12 d_Formula_strengthOf_1 (by decide) (by decide) rfl (by decide) ?_
                          refine r_iconst F.hx F.hb d_Formula_strengthOf_179 ?_
                          subst hT
                          exact r_iret F hlk hr rfl hS (inr_c rfl) d_Formula_strengthOf_180
                        ·
                          rcases q_ite hT with ⟨c13, hT⟩ | ⟨c13, hT⟩
                          · refine r_tableIn (i := 27) (tgt := 179) F.hx F.hb hx1 c13 d_Formula_strengthOf_1 (by decide) (by decide) rfl (by decide) ?_
                            refine r_iconst F.hx F.hb d_Formula_strengthOf_179 ?_
                            subst hT
                            exact r_iret F hlk hr rfl hS (inr_c rfl) d_Formula_strengthOf_180
                          ·
                            rcases q_ite hT with ⟨c14, hT⟩ | ⟨c14, hT⟩
                            · refine r_tableIn (i := 28) (tgt := 179) F.hx F.hb hx1 c14 d_Formula_strengthOf_1 (by decide) (by decide) rfl (by decide) ?_
                              refine r_iconst F.hx F.hb d_Formula_strengthOf_179 ?_
                              subst hT
                              exact r_iret F hlk hr rfl hS (inr_c rfl) d_Formula_strengthOf_180
                            ·
                              rcases q_ite hT with ⟨c15, hT⟩ | ⟨c15, hT⟩
                              · refine r_tableIn (i := 29) (tgt := 179) F.hx F.hb hx1 c15 d_Formula_strengthOf_1 (by decide) (by decide) rfl (by decide) ?_
                                refine r_iconst F.hx F.hb d_Formula_strengthOf_179 ?_
                                subst hT
                                exact r_iret F hlk hr rfl hS (inr_c rfl) d_Formula_strengthOf_180
                              ·
                                rcases q_ite hT with ⟨c16, hT⟩ | ⟨c16, hT⟩
                                · refine r_tableIn (i := 30) (tgt := 179) F.hx F.hb hx1 c16 d_Formula_strengthOf_1 (by decide) (by decide) rfl (by decide) ?_
                                  refine r_iconst F.hx F.hb d_Formula_strengthOf_179 ?_
                                  subst hT
                                  exact r_iret F hlk hr rfl hS (inr_c rfl) d_Formula_strengthOf_180
                                ·
                                  rcases q_ite hT with ⟨c17, hT⟩ | ⟨c17, hT⟩
                                  · refine r_tableIn (i := 31) (tgt := 179) F.hx F.hb hx1 c17 d_Formula_strengthOf_1 (by decide) (by decide) rfl (by decide) ?_
                                    refine r_iconst F.hx F.hb d_Formula_strengthOf_179 ?_
                                    subst hT
                                    exact r_iret F hlk hr rfl hS (inr_c rfl) d_Formula_strengthOf_180
                                  ·
                                    rcases q_ite hT with ⟨c18, hT⟩ | ⟨c18, hT⟩
                                    · refine r_tableIn (i := 32) (tgt := 179) F.hx F.hb hx1 c18 d_Formula_strengthOf_1 (by decide) (by decide) rfl (by decide) ?_
                                      refine r_iconst F.hx F.hb d_Formula_strengthOf_179 ?_
                                      subst hT
                                      exact r_iret F hlk hr rfl hS (inr_c rfl) d_Formula_strengthOf_180
                                    ·
                                      rcases q_ite hT with ⟨c19, hT⟩ | ⟨c19, hT⟩
                                      · refine r_tableIn (i := 33) (tgt := 179) F.hx F.hb hx1 c19 d_Formula_strengthOf_1 (by decide) (by decide) rfl (by decide) ?_
                                        refine r_iconst F.hx F.hb d_Formula_strengthOf_179 ?_
                                        subst hT
                                        exact r_iret F hlk hr rfl hS (inr_c rfl) d_Formula_strengthOf_180
                                      ·
                                        rcases q_ite hT with ⟨c20, hT⟩ | ⟨c20, hT⟩
                                        · refine r_tableIn (i := 34) (tgt := 179) F.hx F.hb hx1 c20 d_Formula_strengthOf_1 (by decide) (by decide) rfl (by decide) ?_
                                          refine r_iconst F.hx F.hb d_Formula_strengthOf_179 ?_
                                          subst hT
                                          exact r_iret F hlk hr rfl hS (inr_c rfl) d_Formula_strengthOf_180
                                        ·
                                          rcases q_ite hT with ⟨c21, hT⟩ | ⟨c21, hT⟩
                                          · refine r_tableIn (i := 35) (tgt := 179) F.hx F.hb hx1 c21 d_Formula_strengthOf_1 (by decide) (by decide) rfl (by decide) ?_
                                            refine r_iconst F.hx F.hb d_Formula_strengthOf_179 ?_
                                            subst hT
                                            exact r_iret F hlk hr rfl hS (inr_c rfl) d_Formula_strengthOf_180
                                          ·
                                            rcases q_ite hT with ⟨c22, hT⟩ | ⟨c22, hT⟩
                                            · refine r_tableIn (i := 36) (tgt := 179) F.hx F.hb hx1 c22 d_Formula_strengthOf_1 (by decide) (by decide) rfl (by decide) ?_
                                              refine r_iconst F.hx F.hb d_Formula_strengthOf_179 ?_
                                              subst hT
                                              exact r_iret F hlk hr rfl hS (inr_c rfl) d_Formula_strengthOf_180
                                            ·
                                              rcases q_ite hT with ⟨c23, hT⟩ | ⟨c23, hT⟩
                                              · refine r_tableIn (i := 37) (tgt := 179) F.hx F.hb hx1 c23 d_Formula_strengthOf_1 (by decide) (by decide) rfl (by decide) ?_
                                                refine r_iconst F.hx F.hb d_Formula_strengthOf_179 ?_
                                                subst hT
                                                exact r_iret F hlk hr rfl hS (inr_c rfl) d_Formula_strengthOf_180
                                              ·
                                                rcases q_ite hT with ⟨c24, hT⟩ | ⟨c24, hT⟩
                                                · refine r_tableIn (i := 38) (tgt := 179) F.hx F.hb hx1 c24 d_Formula_strengthOf_1 (by decide) (by decide) rfl (by decide) ?_
                                                  refine r_iconst F.hx F.hb d_Formula_strengthOf_179 ?_
                                                  subst hT
                                                  exact r_iret F hlk hr rfl hS (inr_c rfl) d_Formula_strengthOf_180
                                                ·
                                                  rcases q_ite hT with ⟨c25, hT⟩ | ⟨c25, hT⟩
                                                  · refine r_tableIn (i := 39) (tgt := 179) F.hx F.hb hx1 c25 d_Formula_strengthOf_1 (by decide) (by decide) rfl (by decide) ?_
                                                    refine r_iconst F.hx F.hb d_Formula_strengthOf_179 ?_
                                                    subst hT
                                                    exact r_iret F hlk hr rfl hS (inr_c rfl) d_Formula_strengthOf_180
                                                  ·
                                                    rcases q_ite hT with ⟨c26, hT⟩ | ⟨c26, hT⟩
                                                    · refine r_tableIn (i := 40) (tgt := 179) F.hx F.hb hx1 c26 d_Formula_strengthOf_1 (by decide) (by decide) rfl (by decide) ?_
                                                      refine r_iconst F.hx F.hb d_Formula_strengthOf_179 ?_
                                                      subst hT
                                                      exact r_iret F hlk hr rfl hS (inr_c rfl) d_Formula_strengthOf_180
                                                    ·
                                                      rcases q_ite hT with ⟨c27, hT⟩ | ⟨c27, hT⟩
                                                      · refine r_tableIn (i := 41) (tgt := 179) F.hx F.hb hx1 c27 d_Formula_strengthOf_1 (by decide) (by decide) rfl (by decide) ?_
                                                        refine r_iconst F.hx F.hb d_Formula_strengthOf_179 ?_
                                                        subst hT
                                                        exact r_iret F hlk hr rfl hS (inr_c rfl) d_Formula_strengthOf_180
                                                      ·
                                                        rcases q_ite hT with ⟨c28, hT⟩ | ⟨c28, hT⟩
                                                        · refine r_tableIn (i := 42) (tgt := 179) F.hx F.hb hx1 c28 d_Formula_strengthOf_1 (by decide) (by decide) rfl (by decide) ?_
                                                          refine r_iconst F.hx F.hb d_Formula_strengthOf_179 ?_
                                                          subst hT
                                                          exact r_iret F hlk hr rfl hS (inr_c rfl) d_Formula_strengthOf_180
                                                        ·
                                                          rcases q_ite hT with ⟨c29, hT⟩ | ⟨c29, hT⟩
                                                          · refine r_tableIn (i := 43) (tgt := 174) F.hx F.hb hx1 c29 d_Formula_strengthOf_1 (by decide) (by decide) rfl (by decide) ?_
                                                            refine r_iconst F.hx F.hb d_Formula_strengthOf_174 ?_
                                                            subst hT
                                                            exact r_iret F hlk hr rfl hS (inr_c rfl) d_Formula_strengthOf_175
                                                          ·
                                                            rcases q_ite hT with ⟨c30, hT⟩ | ⟨c30, hT⟩
                                                            · refine r_tableIn (i := 44) (tgt := 174) F.hx F.hb hx1 c30 d_Formula_strengthOf_1 (by decide) (by decide) rfl (by decide) ?_
                                                              refine r_iconst F.hx F.hb d_Formula_strengthOf_174 ?_
                                                              subst hT
                                                              exact r_iret F hlk hr rfl hS (inr_c rfl) d_Formula_strengthOf_175
                                                            ·
                                                              rcases q_ite hT with ⟨c31, hT⟩ | ⟨c31, hT⟩
                                                              · refine r_tableIn (i := 45) (tgt := 176) F.hx F.hb hx1 c31 d_Formula_strengthOf_1 (by decide) (by decide) rfl (by decide) ?_
                                                                refine r_bipush F.hx F.hb d_Formula_strengthOf_176 rfl ?_
                                                                subst hT
                                                                exact r_iret F hlk hr rfl hS (inr_c rfl) d_Formula_strengthOf_178
                                                              ·
                                                                rcases q_ite hT with ⟨c32, hT⟩ | ⟨c32, hT⟩
                                                                · refine r_tableIn (i := 46) (tgt := 176) F.hx F.hb hx1 c32 d_Formula_strengthOf_1 (by decide) (by decide) rfl (by decide) ?_
                                                                  refine r_bipush F.hx F.hb d_Formula_strengthOf_176 rfl ?_
                                                                  subst hT
                                                                  exact r_iret F hlk hr rfl hS (inr_c rfl) d_Formula_strengthOf_178
                                                                ·
                                                                  rcases q_ite hT with ⟨c33, hT⟩ | ⟨c33, hT⟩
                                                                  · refine r_tableIn (i := 47) (tgt := 172) F.hx F.hb hx1 c33 d_Formula_strengthOf_1 (by decide) (by decide) rfl (by decide) ?_
                                                                    refine r_iconst F.hx F.hb d_Formula_strengthOf_172 ?_
                                                                    subst hT
                                                                    exact r_iret F hlk hr rfl hS (inr_c rfl) d_Formula_strengthOf_173
                                                                  ·
                                                                    rcases q_ite hT with ⟨c34, hT⟩ | ⟨c34, hT⟩
                                                                    · refine r_tableIn (i := 48) (tgt := 172) F.hx F.hb hx1 c34 d_Formula_strengthOf_1 (by decide) (by decide) rfl (by decide) ?_
                                                                      refine r_iconst F.hx F.hb d_Formula_strengthOf_172 ?_
                                                                      subst hT
                                                                      exact r_iret F hlk hr rfl hS (inr_c rfl) d_Formula_strengthOf_173
                                                                    ·
                                                                      rcases q_ite hT with ⟨c35, hT⟩ | ⟨c35, hT⟩
                                                                      · refine r_tableIn (i := 49) (tgt := 172) F.hx F.hb hx1 c35 d_Formula_strengthOf_1 (by decide) (by decide) rfl (by decide) ?_
                                                                        refine r_iconst F.hx F.hb d_Formula_strengthOf_172 ?_
                                                                        subst hT
                                                                        exact r_iret F hlk hr rfl hS (inr_c rfl) d_Formula_strengthOf_173
                                                                      ·
                                                                        rcases q_ite hT with ⟨c36, hT⟩ | ⟨c36, hT⟩
                                                                        · refine r_tableIn (i := 50) (tgt := 172) F.hx F.hb hx1 c36 d_Formula_strengthOf_1 (by decide) (by decide) rfl (by decide) ?_
                                                                          refine r_iconst F.hx F.hb d_Formula_strengthOf_172 ?_
                                                                          subst hT
                                                                          exact r_iret F hlk hr rfl hS (inr_c rfl) d_Formula_strengthOf_173
                                                                        ·
                                                                          rcases q_ite hT with ⟨c37, hT⟩ | ⟨c37, hT⟩
                                                                          · refine r_tableIn (i := 51) (tgt := 172) F.hx F.hb hx1 c37 d_Formula_strengthOf_1 (by decide) (by decide) rfl (by decide) ?_
                                                                            refine r_iconst F.hx F.hb d_Formula_strengthOf_172 ?_
                                                                            subst hT
                                                                            exact r_iret F hlk hr rfl hS (inr_c rfl) d_Formula_strengthOf_173
                                                                          ·
                                                                            rcases q_ite hT with ⟨c38, hT⟩ | ⟨c38, hT⟩
                                                                            · refine r_tableIn (i := 52) (tgt := 172) F.hx F.hb hx1 c38 d_Formula_strengthOf_1 (by decide) (by decide) rfl (by decide) ?_
                                                                              refine r_iconst F.hx F.hb d_Formula_strengthOf_172 ?_
                                                                              subst hT
                                                                              exact r_iret F hlk hr rfl hS (inr_c rfl) d_Formula_strengthOf_173
                                                                            ·
                                                                              refine r_tableOut (tgt := 179) F.hx F.hb hx1 (by omega) d_Formula_strengthOf_1 (by decide) ?_
                                                                              refine r_iconst F.hx F.hb d_Formula_strengthOf_179 ?_
                                                                              subst hT
                                                                              exact r_iret F hlk hr rfl hS (inr_c rfl) d_Formula_strengthOf_180
theorem d_Formula_add_0 : decode b_Formula_add 0 = .ok (.aload_n 0, 1) := dc_42 (by decide +kernel)
theorem d_Formula_add_1 : decode b_Formula_add 1 = .ok (.getfield 9, 3) := dc_180 (by decide +kernel)
theorem d_Formula_add_4 : decode b_Formula_add 4 = .ok (.aload_n 0, 1) := dc_42 (by decide +kernel)
theorem d_Formula_add_5 : decode b_Formula_add 5 = .ok (.getfield 25, 3) := dc_180 (by decide +kernel)
theorem d_Formula_add_8 : decode b_Formula_add 8 = .ok (.iload_n 1, 1) := dc_27 (by decide +kernel)
theorem d_Formula_add_9 : decode b_Formula_add 9 = .ok (.invokestatic 97, 3) := dc_184 (by decide +kernel)
theorem d_Formula_add_12 : decode b_Formula_add 12 = .ok (.aload_n 0, 1) := dc_42 (by decide +kernel)
theorem d_Formula_add_13 : decode b_Formula_add 13 = .ok (.getfield 15, 3) := dc_180 (by decide +kernel)
theorem d_Formula_add_16 : decode b_Formula_add 16 = .ok (.aload_n 0, 1) := dc_42 (by decide +kernel)
theorem d_Formula_add_17 : decode b_Formula_add 17 = .ok (.getfield 25, 3) := dc_180 (by decide +kernel)
theorem d_Formula_add_20 : decode b_Formula_add 20 = .ok (.iload_n 2, 1) := dc_28 (by decide +kernel)
theorem d_Formula_add_21 : decode b_Formula_add 21 = .ok (.invokestatic 97, 3) := dc_184 (by decide +kernel)
theorem d_Formula_add_24 : decode b_Formula_add 24 = .ok (.aload_n 0, 1) := dc_42 (by decide +kernel)
theorem d_Formula_add_25 : decode b_Formula_add 25 = .ok (.dup, 1) := dc_89 (by decide +kernel)
theorem d_Formula_add_26 : decode b_Formula_add 26 = .ok (.getfield 25, 3) := dc_180 (by decide +kernel)
theorem d_Formula_add_29 : decode b_Formula_add 29 = .ok (.iconst 1, 1) := dc_4 (by decide +kernel)
theorem d_Formula_add_30 : decode b_Formula_add 30 = .ok (.iadd, 1) := dc_96 (by decide +kernel)
theorem d_Formula_add_31 : decode b_Formula_add 31 = .ok (.putfield 25, 3) := dc_181 (by decide +kernel)
theorem d_Formula_add_34 : decode b_Formula_add 34 = .ok (.return_, 1) := dc_177 (by decide +kernel)
def t_Formula_add (M : Mem) (k0 : Nat) (x1 : Int) (x2 : Int) : Mem := (qlet (t_WF_put M (k0 + 1) 64 (M.1 k0 3) x1) fun q2 => (qlet (t_WF_put q2 (k0 + 2) 64 (q2.1 k0 3) x2) fun q5 => (qlet (setI q5 k0 3 (w32 ((q5.1 k0 3) + 1))) fun M8 => M8)))
set_option maxHeartbeats 4000000 in
set_option maxRecDepth 100000 in
theorem c_Formula_add (l : Launch) {b n : Nat} {C : CT} (hlo : 191 ≤ n) (M : Mem) (k0 : Nat) (x1 : Int) (x2 : Int) (hk0 : isFormula k0) (hx1 : InR x1) (hx2 : InR x2) (res : Mem) (hT : t_Formula_add M k0 x1 x2 = res) : CM l b C n 1 y_Formula_add b_Formula_add 3 (none) [.ref (b + k0), vI x1, vI x2] M (QV b C n res) := by
  refine CM.of (lo := 191) (ow := "WardFalls$Formula") (by decide) rfl (Nat.le_of_ble_eq_true rfl) hlo (fun p e s m below meth c F hlk hr hS ls hl => ?_)
  have hl : lv_has ls 3 [(0, .ref (b + k0)), (1, vI x1), (2, vI x2)] := hl
  unfold t_Formula_add at hT
  refine lv_aload_n F.hx F.hb d_Formula_add_0 rfl (lv_at hl 0 rfl) ?_
  refine r_get (v := .ref (b + (k0 + 1))) (N := 12) (T := T3) (j := 0) F hS (Formula_lt hk0) (Formula_sh hk0) (Formula_N hk0) rfl (Nat.le_of_ble_eq_true rfl) ing3 mw_47 (Formula_g0 hk0 _) d_Formula_add_1 ?_
  refine lv_aload_n F.hx F.hb d_Formula_add_4 rfl (lv_at hl 0 rfl) ?_
  refine r_get (v := vI (M.1 k0 3)) (N := 12) (T := T3) (j := 3) F hS (Formula_lt hk0) (Formula_sh hk0) (Formula_N hk0) rfl (Nat.le_of_ble_eq_true rfl) ing3 mw_50 (fv_int rfl) d_Formula_add_5 ?_
  have i1 := hS.rng k0 3
  refine lv_iload_n F.hx F.hb d_Formula_add_8 rfl (lv_at hl 1 rfl) ?_
  obtain ⟨q2, hq2⟩ : ∃ q, q = (t_WF_put M (k0 + 1) 64 (M.1 k0 3) x1) := ⟨_, rfl⟩
  replace hT := qlet_eq hT hq2
  refine r_backV F hS (r_runSN (As := [.ref (b + (k0 + 1)), vI (M.1 k0 3), vI x1]) F hS (c_WF_put l F.2.2.1 M (k0 + 1) 64 (M.1 k0 3) x1 (Formula_f0 hk0) i1 hx1 _ hq2.symm) mw_512 mw_511 mw_1 gs_Formula_97 hd_WF_put ⟨Nat.le_of_ble_eq_true rfl, Nat.le_of_ble_eq_true rfl⟩ rfl hl.1 (Nat.le_of_ble_eq_true rfl) ⟨Nat.zero_le _, Nat.zero_le _⟩ rfl d_Formula_add_9) (fun H locs hS => ?_)
  refine lv_aload_n F.hx F.hb d_Formula_add_12 rfl (lv_at hl 0 rfl) ?_
  refine r_get (v := .ref (b + (k0 + 2))) (N := 12) (T := T3) (j := 1) F hS (Formula_lt hk0) (Formula_sh hk0) (Formula_N hk0) rfl (Nat.le_of_ble_eq_true rfl) ing3 mw_48 (Formula_g1 hk0 _) d_Formula_add_13 ?_
  refine lv_aload_n F.hx F.hb d_Formula_add_16 rfl (lv_at hl 0 rfl) ?_
  refine r_get (v := vI (q2.1 k0 3)) (N := 12) (T := T3) (j := 3) F hS (Formula_lt hk0) (Formula_sh hk0) (Formula_N hk0) rfl (Nat.le_of_ble_eq_true rfl) ing3 mw_50 (fv_int rfl) d_Formula_add_17 ?_
  have i4 := hS.rng k0 3
  refine lv_iload_n F.hx F.hb d_Formula_add_20 rfl (lv_at hl 2 rfl) ?_
  obtain ⟨q5, hq5⟩ : ∃ q, q = (t_WF_put q2 (k0 + 2) 64 (q2.1 k0 3) x2) := ⟨_, rfl⟩
  replace hT := qlet_eq hT hq5
  refine r_backV F hS (r_runSN (As := [.ref (b + (k0 + 2)), vI (q2.1 k0 3), vI x2]) F hS (c_WF_put l F.2.2.1 q2 (k0 + 2) 64 (q2.1 k0 3) x2 (Formula_f1 hk0) i4 hx2 _ hq5.symm) mw_512 mw_511 mw_1 gs_Formula_97 hd_WF_put ⟨Nat.le_of_ble_eq_true rfl, Nat.le_of_ble_eq_true rfl⟩ rfl hl.1 (Nat.le_of_ble_eq_true rfl) ⟨Nat.zero_le _, Nat.zero_le _⟩ rfl d_Formula_add_21) (fun H locs hS => ?_)
  refine lv_aload_n F.hx F.hb d_Formula_add_24 rfl (lv_at hl 0 rfl) ?_
  refine lv_dup F.hx F.hb d_Formula_add_25 rfl ?_
  refine r_get (v := vI (q5.1 k0 3)) (N := 12) (T := T3) (j := 3) F hS (Formula_lt hk0) (Formula_sh hk0) (Formula_N hk0) rfl (Nat.le_of_ble_eq_true rfl) ing3 mw_50 (fv_int rfl) d_Formula_add_26 ?_
  have i7 := hS.rng k0 3
  refine r_iconst F.hx F.hb d_Formula_add_29 ?_
  refine r_iadd F.hx F.hb d_Formula_add_30 ?_
  refine r_putI (N := 12) (T := T3) (j := 3) F hS (Formula_lt hk0) (Formula_sh hk0) (Formula_N hk0) rfl (Nat.le_of_ble_eq_true rfl) ing3 tyok3 nm3 rfl rfl rfl rfl rfl (Formula_dyn hk0 _) mw_50 (inr_w32 _) d_Formula_add_31 (fun H locs hS => ?_)
  obtain ⟨M8, eM8⟩ : ∃ q, q = (setI q5 k0 3 (w32 ((q5.1 k0 3) + 1))) := ⟨_, rfl⟩
  replace hS : St b C n M8 s H locs := by rw [eM8]; exact hS
  replace hT := qlet_eq hT eM8
  subst hT
  exact r_vret F hlk hr hS d_Formula_add_34
end
section
theorem d_Formula_release_0 : decode b_Formula_release 0 = .ok (.aload_n 0, 1) := dc_42 (by decide +kernel)
theorem d_Formula_release_1 : decode b_Formula_release 1 = .ok (.getfield 36, 3) := dc_180 (by decide +kernel)
theorem d_Formula_release_4 : decode b_Formula_release 4 = .ok (.ifCond .le 57, 3) := dc_158 (by decide +kernel)
theorem d_Formula_release_7 : decode b_Formula_release 7 = .ok (.aload_n 0, 1) := dc_42 (by decide +kernel)
theorem d_Formula_release_8 : decode b_Formula_release 8 = .ok (.getfield 22, 3) := dc_180 (by decide +kernel)
theorem d_Formula_release_11 : decode b_Formula_release 11 = .ok (.aload_n 0, 1) := dc_42 (by decide +kernel)
theorem d_Formula_release_12 : decode b_Formula_release 12 = .ok (.getfield 36, 3) := dc_180 (by decide +kernel)
theorem d_Formula_release_15 : decode b_Formula_release 15 = .ok (.iconst 1, 1) := dc_4 (by decide +kernel)
theorem d_Formula_release_16 : decode b_Formula_release 16 = .ok (.isub, 1) := dc_100 (by decide +kernel)
theorem d_Formula_release_17 : decode b_Formula_release 17 = .ok (.invokestatic 54, 3) := dc_184 (by decide +kernel)
theorem d_Formula_release_20 : decode b_Formula_release 20 = .ok (.istore_n 2, 1) := dc_61 (by decide +kernel)
theorem d_Formula_release_21 : decode b_Formula_release 21 = .ok (.iload_n 2, 1) := dc_28 (by decide +kernel)
theorem d_Formula_release_22 : decode b_Formula_release 22 = .ok (.bipush 17, 2) := dc_16 (by decide +kernel)
theorem d_Formula_release_24 : decode b_Formula_release 24 = .ok (.if_icmp .ne 7, 3) := dc_160 (by decide +kernel)
theorem d_Formula_release_27 : decode b_Formula_release 27 = .ok (.iconst 3, 1) := dc_6 (by decide +kernel)
theorem d_Formula_release_28 : decode b_Formula_release 28 = .ok (.goto 7, 3) := dc_167 (by decide +kernel)
theorem d_Formula_release_31 : decode b_Formula_release 31 = .ok (.iload_n 2, 1) := dc_28 (by decide +kernel)
theorem d_Formula_release_32 : decode b_Formula_release 32 = .ok (.invokestatic 89, 3) := dc_184 (by decide +kernel)
theorem d_Formula_release_35 : decode b_Formula_release 35 = .ok (.istore_n 3, 1) := dc_62 (by decide +kernel)
theorem d_Formula_release_36 : decode b_Formula_release 36 = .ok (.iload_n 3, 1) := dc_29 (by decide +kernel)
theorem d_Formula_release_37 : decode b_Formula_release 37 = .ok (.iload_n 1, 1) := dc_27 (by decide +kernel)
theorem d_Formula_release_38 : decode b_Formula_release 38 = .ok (.if_icmp .ge 4, 3) := dc_162 (by decide +kernel)
theorem d_Formula_release_41 : decode b_Formula_release 41 = .ok (.return_, 1) := dc_177 (by decide +kernel)
theorem d_Formula_release_42 : decode b_Formula_release 42 = .ok (.aload_n 0, 1) := dc_42 (by decide +kernel)
theorem d_Formula_release_43 : decode b_Formula_release 43 = .ok (.iload_n 2, 1) := dc_28 (by decide +kernel)
theorem d_Formula_release_44 : decode b_Formula_release 44 = .ok (.iconst 0, 1) := dc_3 (by decide +kernel)
theorem d_Formula_release_45 : decode b_Formula_release 45 = .ok (.invokevirtual 85, 3) := dc_182 (by decide +kernel)
theorem d_Formula_release_48 : decode b_Formula_release 48 = .ok (.aload_n 0, 1) := dc_42 (by decide +kernel)
theorem d_Formula_release_49 : decode b_Formula_release 49 = .ok (.dup, 1) := dc_89 (by decide +kernel)
theorem d_Formula_release_50 : decode b_Formula_release 50 = .ok (.getfield 36, 3) := dc_180 (by decide +kernel)
theorem d_Formula_release_53 : decode b_Formula_release 53 = .ok (.iconst 1, 1) := dc_4 (by decide +kernel)
theorem d_Formula_release_54 : decode b_Formula_release 54 = .ok (.isub, 1) := dc_100 (by decide +kernel)
theorem d_Formula_release_55 : decode b_Formula_release 55 = .ok (.putfield 36, 3) := dc_181 (by decide +kernel)
theorem d_Formula_release_58 : decode b_Formula_release 58 = .ok (.goto (-58), 3) := dc_167 (by decide +kernel)
theorem d_Formula_release_61 : decode b_Formula_release 61 = .ok (.return_, 1) := dc_177 (by decide +kernel)
def t_Formula_release_L35 (k0 : Nat) (x1 : Int) (bk0 : Mem → Option (Mem)) (M : Mem) (v2_ : Int) (v3_ : Int) : Option (Mem) := (if x1 ≤ v3_ then (qlet (t_Formula_add M k0 v2_ 0) fun q10 => (qlet (setI q10 k0 6 (w32 ((q10.1 k0 6) - 1))) fun M13 => (bk0 M13))) else (some M))
def t_Formula_release_L0 (k0 : Nat) (x1 : Int)  : Nat → Mem → Option (Mem)
  | 0, _ => none
  | fu + 1, M => (if (M.1 k0 6) ≤ 0 then (some M) else (qlet (t_WF_look M (k0 + 4) 72 (w32 ((M.1 k0 6) - 1))) fun q4 => (if q4 = 17 then (t_Formula_release_L35 k0 x1 (fun a0_ => t_Formula_release_L0 k0 x1 fu a0_) M q4 3) else (qlet (t_Formula_strengthOf M q4) fun q7 => (t_Formula_release_L35 k0 x1 (fun a0_ => t_Formula_release_L0 k0 x1 fu a0_) M q4 q7)))))
def t_Formula_release (M : Mem) (k0 : Nat) (x1 : Int) : Option (Mem) := (t_Formula_release_L0 k0 x1 FU M)
set_option maxHeartbeats 4000000 in
set_option maxRecDepth 100000 in
theorem k_Formula_release_L35 (l : Launch) {p : Program} {e : Env} {s : State} {m : MethodId} {below : List Frame} {meth : Method} {c : Code} {b n : Nat} {C : CT} (hlo : 191 ≤ n) (k0 : Nat) (x1 : Int) (hk0 : isFormula k0) (hx1 : InR x1) (F : Cx b p m c b_Formula_release 4 s ([.ref (b + k0), vI x1] : List Value).toArray "WardFalls$Formula" C n 191) (hlk : meth.locks = false) (hr : meth.sig.returnType = none) {res : Mem} (bk0 : Mem → Option (Mem)) (hbk0 : ∀ (M : Mem)  (H : Heap) (locs : List Loc) (ls : Array Slot), St b C n M s H locs → lv_has ls 4 [(0, .ref (b + k0)), (1, vI x1)] → bk0 M  = some res → W p l e (headSpec (wsM y_Formula_release b_Formula_release 4 (none)) (rmD 2)).room s m ([.ref (b + k0), vI x1] : List Value).toArray below meth c H locs 0 0 (MQ below (QV b C n res) ([.ref (b + k0), vI x1] : List Value).toArray s 0 0 (frb b)) (F0 m 0 ls [])) (M : Mem) (v2_ : Int) (hv2_ : InR v2_) (v3_ : Int) (hv3_ : InR v3_) (H : Heap) (locs : List Loc) (ls : Array Slot) (hS : St b C n M s H locs) (hl : lv_has ls 4 [(0, .ref (b + k0)), (1, vI x1), (2, vI v2_)]) (hT : t_Formula_release_L35 k0 x1 bk0 M v2_ v3_ = some res) : W p l e (headSpec (wsM y_Formula_release b_Formula_release 4 (none)) (rmD 2)).room s m ([.ref (b + k0), vI x1] : List Value).toArray below meth c H locs 0 0 (MQ below (QV b C n res) ([.ref (b + k0), vI x1] : List Value).toArray s 0 0 (frb b)) (F0 m 35 ls [vI v3_]) := by
  unfold t_Formula_release_L35 at hT
  refine lv_istore_n (lv' := [(3, vI v3_), (0, .ref (b + k0)), (1, vI x1), (2, vI v2_)]) F.hx F.hb d_Formula_release_35 rfl hl (Nat.le_of_ble_eq_true rfl) rfl (fun ls hl => ?_)
  refine lv_iload_n F.hx F.hb d_Formula_release_36 rfl (lv_at hl 0 rfl) ?_
  refine lv_iload_n F.hx F.hb d_Formula_release_37 rfl (lv_at hl 2 rfl) ?_
  refine r_icmp_ge (tgt := 42) F.hx F.hb hv3_ hx1 d_Formula_release_38 (by decide) (fun c9 => ?_) (fun c9 => ?_)
  · replace hT := (if_pos c9).symm.trans hT
    refine lv_aload_n F.hx F.hb d_Formula_release_42 rfl (lv_at hl 1 rfl) ?_
    refine lv_iload_n F.hx F.hb d_Formula_release_43 rfl (lv_at hl 3 rfl) ?_
    refine r_iconst F.hx F.hb d_Formula_release_44 ?_
    obtain ⟨q10, hq10⟩ : ∃ q, q = (t_Formula_add M k0 v2_ 0) := ⟨_, rfl⟩
    replace hT := qlet_eq hT hq10
    refine r_backV F hS (r_runV (k := k0) (N := 12) (T := T3) (As := [vI v2_, vI 0]) F hS (Formula_lt hk0) (Formula_sh hk0) rfl (c_Formula_add l F.2.2.1 M k0 v2_ 0 hk0 hv2_ (inr_c rfl) _ hq10.symm) gs_Formula_85 hd_Formula_add ⟨Nat.le_of_ble_eq_true rfl, Nat.le_of_ble_eq_true rfl⟩ rfl hl.1 (Nat.le_of_ble_eq_true rfl) ⟨Nat.zero_le _, Nat.zero_le _⟩ rfl d_Formula_release_45) (fun H locs hS => ?_)
    refine lv_aload_n F.hx F.hb d_Formula_release_48 rfl (lv_at hl 1 rfl) ?_
    refine lv_dup F.hx F.hb d_Formula_release_49 rfl ?_
    refine r_get (v := vI (q10.1 k0 6)) (N := 12) (T := T3) (j := 6) F hS (Formula_lt hk0) (Formula_sh hk0) (Formula_N hk0) rfl (Nat.le_of_ble_eq_true rfl) ing3 mw_54 (fv_int rfl) d_Formula_release_50 ?_
    have i12 := hS.rng k0 6
    refine r_iconst F.hx F.hb d_Formula_release_53 ?_
    refine r_isub F.hx F.hb d_Formula_release_54 ?_
    refine r_putI (N := 12) (T := T3) (j := 6) F hS (Formula_lt hk0) (Formula_sh hk0) (Formula_N hk0) rfl (Nat.le_of_ble_eq_true rfl) ing3 tyok3 nm3 rfl rfl rfl rfl rfl (Formula_dyn hk0 _) mw_54 (inr_w32 _) d_Formula_release_55 (fun H locs hS => ?_)
    obtain ⟨M13, eM13⟩ : ∃ q, q = (setI q10 k0 6 (w32 ((q10.1 k0 6) - 1))) := ⟨_, rfl⟩
    replace hS : St b C n M13 s H locs := by rw [eM13]; exact hS
    replace hT := qlet_eq hT eM13
    refine lv_goto (tgt := 0) F.hx F.hb d_Formula_release_58 (by decide) ?_
    exact hbk0 M13 _ _ _ hS (lv_sub hl [1, 2] rfl) hT
  · replace hT := (if_neg c9).symm.trans hT
    cases hT
    exact r_vret F hlk hr hS d_Formula_release_41
set_option maxHeartbeats 4000000 in
set_option maxRecDepth 100000 in
theorem k_Formula_release_L0 (l : Launch) {p : Program} {e : Env} {s : State} {m : MethodId} {below : List Frame} {meth : Method} {c : Code} {b n : Nat} {C : CT} (hlo : 191 ≤ n) (k0 : Nat) (x1 : Int) (hk0 : isFormula k0) (hx1 : InR x1) (F : Cx b p m c b_Formula_release 4 s ([.ref (b + k0), vI x1] : List Value).toArray "WardFalls$Formula" C n 191) (hlk : meth.locks = false) (hr : meth.sig.returnType = none) {res : Mem} : ∀ (fu : Nat) (M : Mem)  (H : Heap) (locs : List Loc) (ls : Array Slot), St b C n M s H locs → lv_has ls 4 [(0, .ref (b + k0)), (1, vI x1)] → t_Formula_release_L0 k0 x1 fu M = some res → W p l e (headSpec (wsM y_Formula_release b_Formula_release 4 (none)) (rmD 2)).room s m ([.ref (b + k0), vI x1] : List Value).toArray below meth c H locs 0 0 (MQ below (QV b C n res) ([.ref (b + k0), vI x1] : List Value).toArray s 0 0 (frb b)) (F0 m 0 ls []) := by
  intro fu
  induction fu with
  | zero => intro M  H locs ls hS hl hT; exact absurd hT (by simp [t_Formula_release_L0])
  | succ fu ih =>
    intro M  H locs ls hS hl hT
    rw [t_Formula_release_L0] at hT
    refine lv_aload_n F.hx F.hb d_Formula_release_0 rfl (lv_at hl 0 rfl) ?_
    refine r_get (v := vI (M.1 k0 6)) (N := 12) (T := T3) (j := 6) F hS (Formula_lt hk0) (Formula_sh hk0) (Formula_N hk0) rfl (Nat.le_of_ble_eq_true rfl) ing3 mw_54 (fv_int rfl) d_Formula_release_1 ?_
    have i1 := hS.rng k0 6
    refine r_if_le (tgt := 61) F.hx F.hb i1 d_Formula_release_4 (by decide) (fun c2 => ?_) (fun c2 => ?_)
    · replace hT := (if_pos c2).symm.trans hT
      cases hT
      exact r_vret F hlk hr hS d_Formula_release_61
    · replace hT := (if_neg c2).symm.trans hT
      refine lv_aload_n F.hx F.hb d_Formula_release_7 rfl (lv_at hl 0 rfl) ?_
      refine r_get (v := .ref (b + (k0 + 4))) (N := 12) (T := T3) (j := 5) F hS (Formula_lt hk0) (Formula_sh hk0) (Formula_N hk0) rfl (Nat.le_of_ble_eq_true rfl) ing3 mw_53 (Formula_g5 hk0 _) d_Formula_release_8 ?_
      refine lv_aload_n F.hx F.hb d_Formula_release_11 rfl (lv_at hl 0 rfl) ?_
      refine r_get (v := vI (M.1 k0 6)) (N := 12) (T := T3) (j := 6) F hS (Formula_lt hk0) (Formula_sh hk0) (Formula_N hk0) rfl (Nat.le_of_ble_eq_true rfl) ing3 mw_54 (fv_int rfl) d_Formula_release_12 ?_
      have i3 := hS.rng k0 6
      refine r_iconst F.hx F.hb d_Formula_release_15 ?_
      refine r_isub F.hx F.hb d_Formula_release_16 ?_
      obtain ⟨q4, hq4⟩ : ∃ q, q = (t_WF_look M (k0 + 4) 72 (w32 ((M.1 k0 6) - 1))) := ⟨_, rfl⟩
      replace hT := qlet_eq hT hq4
      refine r_backI F hS (r_runSN (As := [.ref (b + (k0 + 4)), vI (w32 ((M.1 k0 6) - 1))]) F hS (c_WF_look l F.2.2.1 M (k0 + 4) 72 (w32 ((M.1 k0 6) - 1)) (Formula_f5 hk0) (inr_w32 _) _ hq4.symm) mw_519 mw_518 mw_1 gs_Formula_54 hd_WF_look ⟨Nat.le_of_ble_eq_true rfl, Nat.le_of_ble_eq_true rfl⟩ rfl hl.1 (Nat.le_of_ble_eq_true rfl) ⟨Nat.zero_le _, Nat.zero_le _⟩ rfl d_Formula_release_17) (fun H locs hS h5 => ?_)
      refine lv_istore_n (lv' := [(2, vI q4), (0, .ref (b + k0)), (1, vI x1)]) F.hx F.hb d_Formula_release_20 rfl hl (Nat.le_of_ble_eq_true rfl) rfl (fun ls hl => ?_)
      refine lv_iload_n F.hx F.hb d_Formula_release_21 rfl (lv_at hl 0 rfl) ?_
      refine r_bipush F.hx F.hb d_Formula_release_22 rfl ?_
      refine r_icmp_ne (tgt := 31) F.hx F.hb h5 (inr_c rfl) d_Formula_release_24 (by decide) (fun c6 => ?_) (fun c6 => ?_)
      · replace hT := (if_neg c6).symm.trans hT
        refine lv_iload_n F.hx F.hb d_Formula_release_31 rfl (lv_at hl 0 rfl) ?_
        obtain ⟨q7, hq7⟩ : ∃ q, q = (t_Formula_strengthOf M q4) := ⟨_, rfl⟩
        replace hT := qlet_eq hT hq7
        refine r_backI F hS (r_runS (As := [vI q4]) F hS (c_Formula_strengthOf l F.2.2.1 M q4 h5 _ hq7.symm) gs_Formula_89 hd_Formula_strengthOf ⟨Nat.le_of_ble_eq_true rfl, Nat.le_of_ble_eq_true rfl⟩ rfl hl.1 (Nat.le_of_ble_eq_true rfl) ⟨Nat.zero_le _, Nat.zero_le _⟩ rfl d_Formula_release_32) (fun H locs hS h8 => ?_)
        exact k_Formula_release_L35 l hlo k0 x1 hk0 hx1 F hlk hr (fun a0_ => t_Formula_release_L0 k0 x1 fu a0_) ih M q4 h5 q7 h8 _ _ _ hS (lv_sub hl [1, 2, 0] rfl) hT
      · replace hT := (if_pos c6).symm.trans hT
        refine r_iconst F.hx F.hb d_Formula_release_27 ?_
        refine lv_goto (tgt := 35) F.hx F.hb d_Formula_release_28 (by decide) ?_
        exact k_Formula_release_L35 l hlo k0 x1 hk0 hx1 F hlk hr (fun a0_ => t_Formula_release_L0 k0 x1 fu a0_) ih M q4 h5 3 (inr_c rfl) _ _ _ hS (lv_sub hl [1, 2, 0] rfl) hT
set_option maxHeartbeats 4000000 in
set_option maxRecDepth 100000 in
theorem c_Formula_release (l : Launch) {b n : Nat} {C : CT} (hlo : 191 ≤ n) (M : Mem) (k0 : Nat) (x1 : Int) (hk0 : isFormula k0) (hx1 : InR x1) (res : Mem) (hT : t_Formula_release M k0 x1 = some res) : CM l b C n 2 y_Formula_release b_Formula_release 4 (none) [.ref (b + k0), vI x1] M (QV b C n res) := by
  refine CM.of (lo := 191) (ow := "WardFalls$Formula") (by decide) rfl (Nat.le_of_ble_eq_true rfl) hlo (fun p e s m below meth c F hlk hr hS ls hl => ?_)
  have hl : lv_has ls 4 [(0, .ref (b + k0)), (1, vI x1)] := hl
  unfold t_Formula_release at hT
  exact k_Formula_release_L0 l hlo k0 x1 hk0 hx1 F hlk hr FU M _ _ _ hS (lv_sub hl [0, 1] rfl) hT
theorem d_Formula_await_0 : decode b_Formula_await 0 = .ok (.aload_n 0, 1) := dc_42 (by decide +kernel)
theorem d_Formula_await_1 : decode b_Formula_await 1 = .ok (.getfield 22, 3) := dc_180 (by decide +kernel)
theorem d_Formula_await_4 : decode b_Formula_await 4 = .ok (.aload_n 0, 1) := dc_42 (by decide +kernel)
theorem d_Formula_await_5 : decode b_Formula_await 5 = .ok (.getfield 36, 3) := dc_180 (by decide +kernel)
theorem d_Formula_await_8 : decode b_Formula_await 8 = .ok (.iload_n 1, 1) := dc_27 (by decide +kernel)
theorem d_Formula_await_9 : decode b_Formula_await 9 = .ok (.invokestatic 97, 3) := dc_184 (by decide +kernel)
theorem d_Formula_await_12 : decode b_Formula_await 12 = .ok (.aload_n 0, 1) := dc_42 (by decide +kernel)
theorem d_Formula_await_13 : decode b_Formula_await 13 = .ok (.dup, 1) := dc_89 (by decide +kernel)
theorem d_Formula_await_14 : decode b_Formula_await 14 = .ok (.getfield 36, 3) := dc_180 (by decide +kernel)
theorem d_Formula_await_17 : decode b_Formula_await 17 = .ok (.iconst 1, 1) := dc_4 (by decide +kernel)
theorem d_Formula_await_18 : decode b_Formula_await 18 = .ok (.iadd, 1) := dc_96 (by decide +kernel)
theorem d_Formula_await_19 : decode b_Formula_await 19 = .ok (.putfield 36, 3) := dc_181 (by decide +kernel)
theorem d_Formula_await_22 : decode b_Formula_await 22 = .ok (.return_, 1) := dc_177 (by decide +kernel)
def t_Formula_await (M : Mem) (k0 : Nat) (x1 : Int) : Mem := (qlet (t_WF_put M (k0 + 4) 72 (M.1 k0 6) x1) fun q2 => (qlet (setI q2 k0 6 (w32 ((q2.1 k0 6) + 1))) fun M5 => M5))
set_option maxHeartbeats 4000000 in
set_option maxRecDepth 100000 in
theorem c_Formula_await (l : Launch) {b n : Nat} {C : CT} (hlo : 191 ≤ n) (M : Mem) (k0 : Nat) (x1 : Int) (hk0 : isFormula k0) (hx1 : InR x1) (res : Mem) (hT : t_Formula_await M k0 x1 = res) : CM l b C n 1 y_Formula_await b_Formula_await 2 (none) [.ref (b + k0), vI x1] M (QV b C n res) := by
  refine CM.of (lo := 191) (ow := "WardFalls$Formula") (by decide) rfl (Nat.le_of_ble_eq_true rfl) hlo (fun p e s m below meth c F hlk hr hS ls hl => ?_)
  have hl : lv_has ls 2 [(0, .ref (b + k0)), (1, vI x1)] := hl
  unfold t_Formula_await at hT
  refine lv_aload_n F.hx F.hb d_Formula_await_0 rfl (lv_at hl 0 rfl) ?_
  refine r_get (v := .ref (b + (k0 + 4))) (N := 12) (T := T3) (j := 5) F hS (Formula_lt hk0) (Formula_sh hk0) (Formula_N hk0) rfl (Nat.le_of_ble_eq_true rfl) ing3 mw_53 (Formula_g5 hk0 _) d_Formula_await_1 ?_
  refine lv_aload_n F.hx F.hb d_Formula_await_4 rfl (lv_at hl 0 rfl) ?_
  refine r_get (v := vI (M.1 k0 6)) (N := 12) (T := T3) (j := 6) F hS (Formula_lt hk0) (Formula_sh hk0) (Formula_N hk0) rfl (Nat.le_of_ble_eq_true rfl) ing3 mw_54 (fv_int rfl) d_Formula_await_5 ?_
  have i1 := hS.rng k0 6
  refine lv_iload_n F.hx F.hb d_Formula_await_8 rfl (lv_at hl 1 rfl) ?_
  obtain ⟨q2, hq2⟩ : ∃ q, q = (t_WF_put M (k0 + 4) 72 (M.1 k0 6) x1) := ⟨_, rfl⟩
  replace hT := qlet_eq hT hq2
  refine r_backV F hS (r_runSN (As := [.ref (b + (k0 + 4)), vI (M.1 k0 6), vI x1]) F hS (c_WF_put l F.2.2.1 M (k0 + 4) 72 (M.1 k0 6) x1 (Formula_f5 hk0) i1 hx1 _ hq2.symm) mw_512 mw_511 mw_1 gs_Formula_97 hd_WF_put ⟨Nat.le_of_ble_eq_true rfl, Nat.le_of_ble_eq_true rfl⟩ rfl hl.1 (Nat.le_of_ble_eq_true rfl) ⟨Nat.zero_le _, Nat.zero_le _⟩ rfl d_Formula_await_9) (fun H locs hS => ?_)
  refine lv_aload_n F.hx F.hb d_Formula_await_12 rfl (lv_at hl 0 rfl) ?_
  refine lv_dup F.hx F.hb d_Formula_await_13 rfl ?_
  refine r_get (v := vI (q2.1 k0 6)) (N := 12) (T := T3) (j := 6) F hS (Formula_lt hk0) (Formula_sh hk0) (Formula_N hk0) rfl (Nat.le_of_ble_eq_true rfl) ing3 mw_54 (fv_int rfl) d_Formula_await_14 ?_
  have i4 := hS.rng k0 6
  refine r_iconst F.hx F.hb d_Formula_await_17 ?_
  refine r_iadd F.hx F.hb d_Formula_await_18 ?_
  refine r_putI (N := 12) (T := T3) (j := 6) F hS (Formula_lt hk0) (Formula_sh hk0) (Formula_N hk0) rfl (Nat.le_of_ble_eq_true rfl) ing3 tyok3 nm3 rfl rfl rfl rfl rfl (Formula_dyn hk0 _) mw_54 (inr_w32 _) d_Formula_await_19 (fun H locs hS => ?_)
  obtain ⟨M5, eM5⟩ : ∃ q, q = (setI q2 k0 6 (w32 ((q2.1 k0 6) + 1))) := ⟨_, rfl⟩
  replace hS : St b C n M5 s H locs := by rw [eM5]; exact hS
  replace hT := qlet_eq hT eM5
  subst hT
  exact r_vret F hlk hr hS d_Formula_await_22
theorem d_Formula_isName_0 : decode b_Formula_isName 0 = .ok (.iload_n 0, 1) := dc_26 (by decide +kernel)
theorem d_Formula_isName_1 : decode b_Formula_isName 1 = .ok (.bipush 18, 2) := dc_16 (by decide +kernel)
theorem d_Formula_isName_3 : decode b_Formula_isName 3 = .ok (.if_icmp .lt 13, 3) := dc_161 (by decide +kernel)
theorem d_Formula_isName_6 : decode b_Formula_isName 6 = .ok (.iload_n 0, 1) := dc_26 (by decide +kernel)
theorem d_Formula_isName_7 : decode b_Formula_isName 7 = .ok (.bipush 24, 2) := dc_16 (by decide +kernel)
theorem d_Formula_isName_9 : decode b_Formula_isName 9 = .ok (.if_icmp .gt 7, 3) := dc_163 (by decide +kernel)
theorem d_Formula_isName_12 : decode b_Formula_isName 12 = .ok (.iconst 1, 1) := dc_4 (by decide +kernel)
theorem d_Formula_isName_13 : decode b_Formula_isName 13 = .ok (.goto 4, 3) := dc_167 (by decide +kernel)
theorem d_Formula_isName_16 : decode b_Formula_isName 16 = .ok (.iconst 0, 1) := dc_3 (by decide +kernel)
theorem d_Formula_isName_17 : decode b_Formula_isName 17 = .ok (.ireturn, 1) := dc_172 (by decide +kernel)
def t_Formula_isName (M : Mem) (x1 : Int) : Int := (if x1 < 18 then 0 else (if 24 < x1 then 0 else 1))
set_option maxHeartbeats 4000000 in
set_option maxRecDepth 100000 in
theorem c_Formula_isName (l : Launch) {b n : Nat} {C : CT} (hlo : 191 ≤ n) (M : Mem) (x1 : Int) (hx1 : InR x1) (res : Int) (hT : t_Formula_isName M x1 = res) : CM l b C n 0 y_Formula_isName b_Formula_isName 1 (some .boolean) [vI x1] M (QZ b C n M res) := by
  refine CM.of (lo := 191) (ow := "WardFalls$Formula") (by decide) rfl (Nat.le_of_ble_eq_true rfl) hlo (fun p e s m below meth c F hlk hr hS ls hl => ?_)
  have hl : lv_has ls 1 [(0, vI x1)] := hl
  unfold t_Formula_isName at hT
  refine lv_iload_n F.hx F.hb d_Formula_isName_0 rfl (lv_at hl 0 rfl) ?_
  refine r_bipush F.hx F.hb d_Formula_isName_1 rfl ?_
  refine r_icmp_lt (tgt := 16) F.hx F.hb hx1 (inr_c rfl) d_Formula_isName_3 (by decide) (fun c1 => ?_) (fun c1 => ?_)
  · replace hT := (if_pos c1).symm.trans hT
    refine r_iconst F.hx F.hb d_Formula_isName_16 ?_
    subst hT
    exact r_zret F hlk hr hS (Or.inl rfl) d_Formula_isName_17
  · replace hT := (if_neg c1).symm.trans hT
    refine lv_iload_n F.hx F.hb d_Formula_isName_6 rfl (lv_at hl 0 rfl) ?_
    refine r_bipush F.hx F.hb d_Formula_isName_7 rfl ?_
    refine r_icmp_gt (tgt := 16) F.hx F.hb hx1 (inr_c rfl) d_Formula_isName_9 (by decide) (fun c2 => ?_) (fun c2 => ?_)
    · replace hT := (if_pos c2).symm.trans hT
      refine r_iconst F.hx F.hb d_Formula_isName_16 ?_
      subst hT
      exact r_zret F hlk hr hS (Or.inl rfl) d_Formula_isName_17
    · replace hT := (if_neg c2).symm.trans hT
      refine r_iconst F.hx F.hb d_Formula_isName_12 ?_
      refine lv_goto (tgt := 17) F.hx F.hb d_Formula_isName_13 (by decide) ?_
      subst hT
      exact r_zret F hlk hr hS (Or.inr rfl) d_Formula_isName_17
theorem wn_Formula_readPart_0 : ∀ i, i < 96 → bA b_Formula_readPart (0 + i) = wB [27, 16, 41, 160, 0, 54, 42, 180, 0, 39, 16, 8, 161, 0, 5, 5, 172, 42, 89, 180, 0, 39, 4, 96, 181, 0, 39, 42, 89, 180, 0, 42, 4, 42, 180, 0, 39, 120, 2, 130, 126, 181, 0, 42, 42, 4, 181, 0, 48, 42, 16, 41, 182, 0, 73, 3, 172, 27, 16, 17, 160, 0, 14, 42, 180, 0, 48, 153, 0, 7, 4, 167, 0, 4, 3, 54, 4, 21, 4, 154, 0, 18, 27, 16, 31, 159, 0, 12, 27, 184, 0, 76, 154, 0, 5, 4] i := wB_of (by decide +kernel)
theorem d_Formula_readPart_0 : decode b_Formula_readPart 0 = .ok (.iload_n 1, 1) := dc_27 (q0_win (r := 0) wn_Formula_readPart_0 (by decide +kernel))
theorem d_Formula_readPart_1 : decode b_Formula_readPart 1 = .ok (.bipush 41, 2) := dc_16 (qS1_win (r := 1) wn_Formula_readPart_0 (by decide +kernel))
theorem d_Formula_readPart_3 : decode b_Formula_readPart 3 = .ok (.if_icmp .ne 54, 3) := dc_160 (qS2_win (r := 3) wn_Formula_readPart_0 (by decide +kernel))
theorem d_Formula_readPart_6 : decode b_Formula_readPart 6 = .ok (.aload_n 0, 1) := dc_42 (q0_win (r := 6) wn_Formula_readPart_0 (by decide +kernel))
theorem d_Formula_readPart_7 : decode b_Formula_readPart 7 = .ok (.getfield 39, 3) := dc_180 (qU2_win (r := 7) wn_Formula_readPart_0 (by decide +kernel))
theorem d_Formula_readPart_10 : decode b_Formula_readPart 10 = .ok (.bipush 8, 2) := dc_16 (qS1_win (r := 10) wn_Formula_readPart_0 (by decide +kernel))
theorem d_Formula_readPart_12 : decode b_Formula_readPart 12 = .ok (.if_icmp .lt 5, 3) := dc_161 (qS2_win (r := 12) wn_Formula_readPart_0 (by decide +kernel))
theorem d_Formula_readPart_15 : decode b_Formula_readPart 15 = .ok (.iconst 2, 1) := dc_5 (q0_win (r := 15) wn_Formula_readPart_0 (by decide +kernel))
theorem d_Formula_readPart_16 : decode b_Formula_readPart 16 = .ok (.ireturn, 1) := dc_172 (q0_win (r := 16) wn_Formula_readPart_0 (by decide +kernel))
theorem d_Formula_readPart_17 : decode b_Formula_readPart 17 = .ok (.aload_n 0, 1) := dc_42 (q0_win (r := 17) wn_Formula_readPart_0 (by decide +kernel))
theorem d_Formula_readPart_18 : decode b_Formula_readPart 18 = .ok (.dup, 1) := dc_89 (q0_win (r := 18) wn_Formula_readPart_0 (by decide +kernel))
theorem d_Formula_readPart_19 : decode b_Formula_readPart 19 = .ok (.getfield 39, 3) := dc_180 (qU2_win (r := 19) wn_Formula_readPart_0 (by decide +kernel))
theorem d_Formula_readPart_22 : decode b_Formula_readPart 22 = .ok (.iconst 1, 1) := dc_4 (q0_win (r := 22) wn_Formula_readPart_0 (by decide +kernel))
theorem d_Formula_readPart_23 : decode b_Formula_readPart 23 = .ok (.iadd, 1) := dc_96 (q0_win (r := 23) wn_Formula_readPart_0 (by decide +kernel))
theorem d_Formula_readPart_24 : decode b_Formula_readPart 24 = .ok (.putfield 39, 3) := dc_181 (qU2_win (r := 24) wn_Formula_readPart_0 (by decide +kernel))
theorem d_Formula_readPart_27 : decode b_Formula_readPart 27 = .ok (.aload_n 0, 1) := dc_42 (q0_win (r := 27) wn_Formula_readPart_0 (by decide +kernel))
theorem d_Formula_readPart_28 : decode b_Formula_readPart 28 = .ok (.dup, 1) := dc_89 (q0_win (r := 28) wn_Formula_readPart_0 (by decide +kernel))
theorem d_Formula_readPart_29 : decode b_Formula_readPart 29 = .ok (.getfield 42, 3) := dc_180 (qU2_win (r := 29) wn_Formula_readPart_0 (by decide +kernel))
theorem d_Formula_readPart_32 : decode b_Formula_readPart 32 = .ok (.iconst 1, 1) := dc_4 (q0_win (r := 32) wn_Formula_readPart_0 (by decide +kernel))
theorem d_Formula_readPart_33 : decode b_Formula_readPart 33 = .ok (.aload_n 0, 1) := dc_42 (q0_win (r := 33) wn_Formula_readPart_0 (by decide +kernel))
theorem d_Formula_readPart_34 : decode b_Formula_readPart 34 = .ok (.getfield 39, 3) := dc_180 (qU2_win (r := 34) wn_Formula_readPart_0 (by decide +kernel))
theorem d_Formula_readPart_37 : decode b_Formula_readPart 37 = .ok (.ishl, 1) := dc_120 (q0_win (r := 37) wn_Formula_readPart_0 (by decide +kernel))
theorem d_Formula_readPart_38 : decode b_Formula_readPart 38 = .ok (.iconst (-1), 1) := dc_2 (q0_win (r := 38) wn_Formula_readPart_0 (by decide +kernel))
theorem d_Formula_readPart_39 : decode b_Formula_readPart 39 = .ok (.ixor, 1) := dc_130 (q0_win (r := 39) wn_Formula_readPart_0 (by decide +kernel))
theorem d_Formula_readPart_40 : decode b_Formula_readPart 40 = .ok (.iand, 1) := dc_126 (q0_win (r := 40) wn_Formula_readPart_0 (by decide +kernel))
theorem d_Formula_readPart_41 : decode b_Formula_readPart 41 = .ok (.putfield 42, 3) := dc_181 (qU2_win (r := 41) wn_Formula_readPart_0 (by decide +kernel))
theorem d_Formula_readPart_44 : decode b_Formula_readPart 44 = .ok (.aload_n 0, 1) := dc_42 (q0_win (r := 44) wn_Formula_readPart_0 (by decide +kernel))
theorem d_Formula_readPart_45 : decode b_Formula_readPart 45 = .ok (.iconst 1, 1) := dc_4 (q0_win (r := 45) wn_Formula_readPart_0 (by decide +kernel))
theorem d_Formula_readPart_46 : decode b_Formula_readPart 46 = .ok (.putfield 48, 3) := dc_181 (qU2_win (r := 46) wn_Formula_readPart_0 (by decide +kernel))
theorem d_Formula_readPart_49 : decode b_Formula_readPart 49 = .ok (.aload_n 0, 1) := dc_42 (q0_win (r := 49) wn_Formula_readPart_0 (by decide +kernel))
theorem d_Formula_readPart_50 : decode b_Formula_readPart 50 = .ok (.bipush 41, 2) := dc_16 (qS1_win (r := 50) wn_Formula_readPart_0 (by decide +kernel))
theorem d_Formula_readPart_52 : decode b_Formula_readPart 52 = .ok (.invokevirtual 73, 3) := dc_182 (qU2_win (r := 52) wn_Formula_readPart_0 (by decide +kernel))
theorem d_Formula_readPart_55 : decode b_Formula_readPart 55 = .ok (.iconst 0, 1) := dc_3 (q0_win (r := 55) wn_Formula_readPart_0 (by decide +kernel))
theorem d_Formula_readPart_56 : decode b_Formula_readPart 56 = .ok (.ireturn, 1) := dc_172 (q0_win (r := 56) wn_Formula_readPart_0 (by decide +kernel))
theorem d_Formula_readPart_57 : decode b_Formula_readPart 57 = .ok (.iload_n 1, 1) := dc_27 (q0_win (r := 57) wn_Formula_readPart_0 (by decide +kernel))
theorem d_Formula_readPart_58 : decode b_Formula_readPart 58 = .ok (.bipush 17, 2) := dc_16 (qS1_win (r := 58) wn_Formula_readPart_0 (by decide +kernel))
theorem d_Formula_readPart_60 : decode b_Formula_readPart 60 = .ok (.if_icmp .ne 14, 3) := dc_160 (qS2_win (r := 60) wn_Formula_readPart_0 (by decide +kernel))
theorem d_Formula_readPart_63 : decode b_Formula_readPart 63 = .ok (.aload_n 0, 1) := dc_42 (q0_win (r := 63) wn_Formula_readPart_0 (by decide +kernel))
theorem d_Formula_readPart_64 : decode b_Formula_readPart 64 = .ok (.getfield 48, 3) := dc_180 (qU2_win (r := 64) wn_Formula_readPart_0 (by decide +kernel))
theorem d_Formula_readPart_67 : decode b_Formula_readPart 67 = .ok (.ifCond .eq 7, 3) := dc_153 (qS2_win (r := 67) wn_Formula_readPart_0 (by decide +kernel))
theorem d_Formula_readPart_70 : decode b_Formula_readPart 70 = .ok (.iconst 1, 1) := dc_4 (q0_win (r := 70) wn_Formula_readPart_0 (by decide +kernel))
theorem d_Formula_readPart_71 : decode b_Formula_readPart 71 = .ok (.goto 4, 3) := dc_167 (qS2_win (r := 71) wn_Formula_readPart_0 (by decide +kernel))
theorem d_Formula_readPart_74 : decode b_Formula_readPart 74 = .ok (.iconst 0, 1) := dc_3 (q0_win (r := 74) wn_Formula_readPart_0 (by decide +kernel))
theorem d_Formula_readPart_75 : decode b_Formula_readPart 75 = .ok (.istore 4, 2) := dc_54 (qU1_win (r := 75) wn_Formula_readPart_0 (by decide +kernel))
theorem d_Formula_readPart_77 : decode b_Formula_readPart 77 = .ok (.iload 4, 2) := dc_21 (qU1_win (r := 77) wn_Formula_readPart_0 (by decide +kernel))
theorem d_Formula_readPart_79 : decode b_Formula_readPart 79 = .ok (.ifCond .ne 18, 3) := dc_154 (qS2_win (r := 79) wn_Formula_readPart_0 (by decide +kernel))
theorem d_Formula_readPart_82 : decode b_Formula_readPart 82 = .ok (.iload_n 1, 1) := dc_27 (q0_win (r := 82) wn_Formula_readPart_0 (by decide +kernel))
theorem d_Formula_readPart_83 : decode b_Formula_readPart 83 = .ok (.bipush 31, 2) := dc_16 (qS1_win (r := 83) wn_Formula_readPart_0 (by decide +kernel))
theorem d_Formula_readPart_85 : decode b_Formula_readPart 85 = .ok (.if_icmp .eq 12, 3) := dc_159 (qS2_win (r := 85) wn_Formula_readPart_0 (by decide +kernel))
theorem d_Formula_readPart_88 : decode b_Formula_readPart 88 = .ok (.iload_n 1, 1) := dc_27 (q0_win (r := 88) wn_Formula_readPart_0 (by decide +kernel))
theorem d_Formula_readPart_89 : decode b_Formula_readPart 89 = .ok (.invokestatic 76, 3) := dc_184 (qU2_win (r := 89) wn_Formula_readPart_0 (by decide +kernel))
theorem d_Formula_readPart_92 : decode b_Formula_readPart 92 = .ok (.ifCond .ne 5, 3) := dc_154 (qS2_win (r := 92) wn_Formula_readPart_0 (by decide +kernel))
theorem d_Formula_readPart_95 : decode b_Formula_readPart 95 = .ok (.iconst 1, 1) := dc_4 (q0_win (r := 95) wn_Formula_readPart_0 (by decide +kernel))
theorem wn_Formula_readPart_96 : ∀ i, i < 62 → bA b_Formula_readPart (96 + i) = wB [172, 45, 180, 0, 80, 16, 64, 162, 0, 16, 27, 16, 31, 160, 0, 12, 28, 17, 39, 15, 164, 0, 5, 5, 172, 45, 89, 180, 0, 80, 4, 96, 181, 0, 80, 21, 4, 153, 0, 12, 42, 16, 17, 182, 0, 73, 167, 0, 14, 42, 27, 28, 182, 0, 85, 42, 3, 181, 0, 45, 3, 172] i := wB_of (by decide +kernel)
theorem d_Formula_readPart_96 : decode b_Formula_readPart 96 = .ok (.ireturn, 1) := dc_172 (q0_win (r := 0) wn_Formula_readPart_96 (by decide +kernel))
theorem d_Formula_readPart_97 : decode b_Formula_readPart 97 = .ok (.aload_n 3, 1) := dc_45 (q0_win (r := 1) wn_Formula_readPart_96 (by decide +kernel))
theorem d_Formula_readPart_98 : decode b_Formula_readPart 98 = .ok (.getfield 80, 3) := dc_180 (qU2_win (r := 2) wn_Formula_readPart_96 (by decide +kernel))
theorem d_Formula_readPart_101 : decode b_Formula_readPart 101 = .ok (.bipush 64, 2) := dc_16 (qS1_win (r := 5) wn_Formula_readPart_96 (by decide +kernel))
theorem d_Formula_readPart_103 : decode b_Formula_readPart 103 = .ok (.if_icmp .ge 16, 3) := dc_162 (qS2_win (r := 7) wn_Formula_readPart_96 (by decide +kernel))
theorem d_Formula_readPart_106 : decode b_Formula_readPart 106 = .ok (.iload_n 1, 1) := dc_27 (q0_win (r := 10) wn_Formula_readPart_96 (by decide +kernel))
theorem d_Formula_readPart_107 : decode b_Formula_readPart 107 = .ok (.bipush 31, 2) := dc_16 (qS1_win (r := 11) wn_Formula_readPart_96 (by decide +kernel))
theorem d_Formula_readPart_109 : decode b_Formula_readPart 109 = .ok (.if_icmp .ne 12, 3) := dc_160 (qS2_win (r := 13) wn_Formula_readPart_96 (by decide +kernel))
theorem d_Formula_readPart_112 : decode b_Formula_readPart 112 = .ok (.iload_n 2, 1) := dc_28 (q0_win (r := 16) wn_Formula_readPart_96 (by decide +kernel))
theorem d_Formula_readPart_113 : decode b_Formula_readPart 113 = .ok (.sipush 9999, 3) := dc_17 (qS2_win (r := 17) wn_Formula_readPart_96 (by decide +kernel))
theorem d_Formula_readPart_116 : decode b_Formula_readPart 116 = .ok (.if_icmp .le 5, 3) := dc_164 (qS2_win (r := 20) wn_Formula_readPart_96 (by decide +kernel))
theorem d_Formula_readPart_119 : decode b_Formula_readPart 119 = .ok (.iconst 2, 1) := dc_5 (q0_win (r := 23) wn_Formula_readPart_96 (by decide +kernel))
theorem d_Formula_readPart_120 : decode b_Formula_readPart 120 = .ok (.ireturn, 1) := dc_172 (q0_win (r := 24) wn_Formula_readPart_96 (by decide +kernel))
theorem d_Formula_readPart_121 : decode b_Formula_readPart 121 = .ok (.aload_n 3, 1) := dc_45 (q0_win (r := 25) wn_Formula_readPart_96 (by decide +kernel))
theorem d_Formula_readPart_122 : decode b_Formula_readPart 122 = .ok (.dup, 1) := dc_89 (q0_win (r := 26) wn_Formula_readPart_96 (by decide +kernel))
theorem d_Formula_readPart_123 : decode b_Formula_readPart 123 = .ok (.getfield 80, 3) := dc_180 (qU2_win (r := 27) wn_Formula_readPart_96 (by decide +kernel))
theorem d_Formula_readPart_126 : decode b_Formula_readPart 126 = .ok (.iconst 1, 1) := dc_4 (q0_win (r := 30) wn_Formula_readPart_96 (by decide +kernel))
theorem d_Formula_readPart_127 : decode b_Formula_readPart 127 = .ok (.iadd, 1) := dc_96 (q0_win (r := 31) wn_Formula_readPart_96 (by decide +kernel))
theorem d_Formula_readPart_128 : decode b_Formula_readPart 128 = .ok (.putfield 80, 3) := dc_181 (qU2_win (r := 32) wn_Formula_readPart_96 (by decide +kernel))
theorem d_Formula_readPart_131 : decode b_Formula_readPart 131 = .ok (.iload 4, 2) := dc_21 (qU1_win (r := 35) wn_Formula_readPart_96 (by decide +kernel))
theorem d_Formula_readPart_133 : decode b_Formula_readPart 133 = .ok (.ifCond .eq 12, 3) := dc_153 (qS2_win (r := 37) wn_Formula_readPart_96 (by decide +kernel))
theorem d_Formula_readPart_136 : decode b_Formula_readPart 136 = .ok (.aload_n 0, 1) := dc_42 (q0_win (r := 40) wn_Formula_readPart_96 (by decide +kernel))
theorem d_Formula_readPart_137 : decode b_Formula_readPart 137 = .ok (.bipush 17, 2) := dc_16 (qS1_win (r := 41) wn_Formula_readPart_96 (by decide +kernel))
theorem d_Formula_readPart_139 : decode b_Formula_readPart 139 = .ok (.invokevirtual 73, 3) := dc_182 (qU2_win (r := 43) wn_Formula_readPart_96 (by decide +kernel))
theorem d_Formula_readPart_142 : decode b_Formula_readPart 142 = .ok (.goto 14, 3) := dc_167 (qS2_win (r := 46) wn_Formula_readPart_96 (by decide +kernel))
theorem d_Formula_readPart_145 : decode b_Formula_readPart 145 = .ok (.aload_n 0, 1) := dc_42 (q0_win (r := 49) wn_Formula_readPart_96 (by decide +kernel))
theorem d_Formula_readPart_146 : decode b_Formula_readPart 146 = .ok (.iload_n 1, 1) := dc_27 (q0_win (r := 50) wn_Formula_readPart_96 (by decide +kernel))
theorem d_Formula_readPart_147 : decode b_Formula_readPart 147 = .ok (.iload_n 2, 1) := dc_28 (q0_win (r := 51) wn_Formula_readPart_96 (by decide +kernel))
theorem d_Formula_readPart_148 : decode b_Formula_readPart 148 = .ok (.invokevirtual 85, 3) := dc_182 (qU2_win (r := 52) wn_Formula_readPart_96 (by decide +kernel))
theorem d_Formula_readPart_151 : decode b_Formula_readPart 151 = .ok (.aload_n 0, 1) := dc_42 (q0_win (r := 55) wn_Formula_readPart_96 (by decide +kernel))
theorem d_Formula_readPart_152 : decode b_Formula_readPart 152 = .ok (.iconst 0, 1) := dc_3 (q0_win (r := 56) wn_Formula_readPart_96 (by decide +kernel))
theorem d_Formula_readPart_153 : decode b_Formula_readPart 153 = .ok (.putfield 45, 3) := dc_181 (qU2_win (r := 57) wn_Formula_readPart_96 (by decide +kernel))
theorem d_Formula_readPart_156 : decode b_Formula_readPart 156 = .ok (.iconst 0, 1) := dc_3 (q0_win (r := 60) wn_Formula_readPart_96 (by decide +kernel))
theorem d_Formula_readPart_157 : decode b_Formula_readPart 157 = .ok (.ireturn, 1) := dc_172 (q0_win (r := 61) wn_Formula_readPart_96 (by decide +kernel))
def t_Formula_readPart_L121 (k0 : Nat) (x1 : Int) (x2 : Int) (k3 : Nat)  (M : Mem) (v4_ : Int) : Mem × Int := (qlet (setI M k3 16 (w32 ((M.1 k3 16) + 1))) fun M25 => (if v4_ = 0 then (qlet (t_Formula_add M25 k0 x1 x2) fun q27 => (qlet (setI q27 k0 10 0) fun M29 => (M29, 0))) else (qlet (t_Formula_await M25 k0 17) fun q30 => (q30, 0))))
def t_Formula_readPart_L97 (k0 : Nat) (x1 : Int) (x2 : Int) (k3 : Nat)  (M : Mem) (v4_ : Int) : Mem × Int := (if 64 ≤ (M.1 k3 16) then (M, 2) else (if x1 = 31 then (if x2 ≤ 9999 then (t_Formula_readPart_L121 k0 x1 x2 k3 M v4_) else (M, 2)) else (t_Formula_readPart_L121 k0 x1 x2 k3 M v4_)))
def t_Formula_readPart_L75 (k0 : Nat) (x1 : Int) (x2 : Int) (k3 : Nat)  (M : Mem) (v4_ : Int) : Mem × Int := (if v4_ = 0 then (if x1 = 31 then (t_Formula_readPart_L97 k0 x1 x2 k3 M v4_) else (qlet (t_Formula_isName M x1) fun q17 => (if q17 = 0 then (M, 1) else (t_Formula_readPart_L97 k0 x1 x2 k3 M v4_)))) else (t_Formula_readPart_L97 k0 x1 x2 k3 M v4_))
def t_Formula_readPart_L74 (k0 : Nat) (x1 : Int) (x2 : Int) (k3 : Nat)  (M : Mem)  : Mem × Int := (t_Formula_readPart_L75 k0 x1 x2 k3 M 0)
def t_Formula_readPart (M : Mem) (k0 : Nat) (x1 : Int) (x2 : Int) (k3 : Nat) : Mem × Int := (if x1 = 41 then (if (M.1 k0 8) < 8 then (qlet (setI M k0 8 (w32 ((M.1 k0 8) + 1))) fun M8 => (qlet (setI M8 k0 9 (q_and (M8.1 k0 9) (q_xor (q_shl 1 (M8.1 k0 8)) (-1)))) fun M11 => (qlet (setI M11 k0 11 1) fun M12 => (qlet (t_Formula_await M12 k0 41) fun q13 => (q13, 0))))) else (M, 2)) else (if x1 = 17 then (if (M.1 k0 11) = 0 then (t_Formula_readPart_L74 k0 x1 x2 k3 M) else (t_Formula_readPart_L75 k0 x1 x2 k3 M 1)) else (t_Formula_readPart_L74 k0 x1 x2 k3 M)))
set_option maxHeartbeats 4000000 in
set_option maxRecDepth 100000 in
theorem k_Formula_readPart_L121 (l : Launch) {p : Program} {e : Env} {s : State} {m : MethodId} {below : List Frame} {meth : Method} {c : Code} {b n : Nat} {C : CT} (hlo : 191 ≤ n) (k0 : Nat) (x1 : Int) (x2 : Int) (k3 : Nat) (hk0 : isFormula k0) (hx1 : InR x1) (hx2 : InR x2) (hk3 : isTown k3) (F : Cx b p m c b_Formula_readPart 5 s ([.ref (b + k0), vI x1, vI x2, .ref (b + k3)] : List Value).toArray "WardFalls$Formula" C n 191) (hlk : meth.locks = false) (hr : meth.sig.returnType = some .int) {res : Mem × Int} (M : Mem) (v4_ : Int) (hv4_ : v4_ = 0 ∨ v4_ = 1) (H : Heap) (locs : List Loc) (ls : Array Slot) (hS : St b C n M s H locs) (hl : lv_has ls 5 [(0, .ref (b + k0)), (1, vI x1), (2, vI x2), (3, .ref (b + k3)), (4, vI v4_)]) (hT : t_Formula_readPart_L121 k0 x1 x2 k3 M v4_ = res) : W p l e (headSpec (wsM y_Formula_readPart b_Formula_readPart 5 (some .int)) (rmD 2)).room s m ([.ref (b + k0), vI x1, vI x2, .ref (b + k3)] : List Value).toArray below meth c H locs 0 0 (MQ below (QI b C n res.1 res.2) ([.ref (b + k0), vI x1, vI x2, .ref (b + k3)] : List Value).toArray s 0 0 (frb b)) (F0 m 121 ls []) := by
  unfold t_Formula_readPart_L121 at hT
  refine lv_aload_n F.hx F.hb d_Formula_readPart_121 rfl (lv_at hl 3 rfl) ?_
  refine lv_dup F.hx F.hb d_Formula_readPart_122 rfl ?_
  refine r_get (v := vI (M.1 k3 16)) (N := 20) (T := T11) (j := 16) F hS (Town_lt hk3) (Town_sh hk3) (Town_N hk3) rfl (Nat.le_of_ble_eq_true rfl) ing11 mw_146 (fv_int rfl) d_Formula_readPart_123 ?_
  have i24 := hS.rng k3 16
  refine r_iconst F.hx F.hb d_Formula_readPart_126 ?_
  refine r_iadd F.hx F.hb d_Formula_readPart_127 ?_
  refine r_putI (N := 20) (T := T11) (j := 16) F hS (Town_lt hk3) (Town_sh hk3) (Town_N hk3) rfl (Nat.le_of_ble_eq_true rfl) ing11 tyok11 nm11 rfl rfl rfl rfl rfl (Town_dyn hk3 _) mw_146 (inr_w32 _) d_Formula_readPart_128 (fun H locs hS => ?_)
  obtain ⟨M25, eM25⟩ : ∃ q, q = (setI M k3 16 (w32 ((M.1 k3 16) + 1))) := ⟨_, rfl⟩
  replace hS : St b C n M25 s H locs := by rw [eM25]; exact hS
  replace hT := qlet_eq hT eM25
  refine lv_iload F.hx F.hb d_Formula_readPart_131 (lv_at hl 4 rfl) ?_
  refine r_if_eq (tgt := 145) F.hx F.hb (inr_z hv4_) d_Formula_readPart_133 (by decide) (fun c26 => ?_) (fun c26 => ?_)
  · replace hT := (if_pos c26).symm.trans hT
    refine lv_aload_n F.hx F.hb d_Formula_readPart_145 rfl (lv_at hl 0 rfl) ?_
    refine lv_iload_n F.hx F.hb d_Formula_readPart_146 rfl (lv_at hl 1 rfl) ?_
    refine lv_iload_n F.hx F.hb d_Formula_readPart_147 rfl (lv_at hl 2 rfl) ?_
    obtain ⟨q27, hq27⟩ : ∃ q, q = (t_Formula_add M25 k0 x1 x2) := ⟨_, rfl⟩
    replace hT := qlet_eq hT hq27
    refine r_backV F hS (r_runV (k := k0) (N := 12) (T := T3) (As := [vI x1, vI x2]) F hS (Formula_lt hk0) (Formula_sh hk0) rfl (c_Formula_add l F.2.2.1 M25 k0 x1 x2 hk0 hx1 hx2 _ hq27.symm) gs_Formula_85 hd_Formula_add ⟨Nat.le_of_ble_eq_true rfl, Nat.le_of_ble_eq_true rfl⟩ rfl hl.1 (Nat.le_of_ble_eq_true rfl) ⟨Nat.zero_le _, Nat.zero_le _⟩ rfl d_Formula_readPart_148) (fun H locs hS => ?_)
    refine lv_aload_n F.hx F.hb d_Formula_readPart_151 rfl (lv_at hl 0 rfl) ?_
    refine r_iconst F.hx F.hb d_Formula_readPart_152 ?_
    refine r_putI (N := 12) (T := T3) (j := 10) F hS (Formula_lt hk0) (Formula_sh hk0) (Formula_N hk0) rfl (Nat.le_of_ble_eq_true rfl) ing3 tyok3 nm3 rfl rfl (nar_z (Or.inl rfl)) (fit_z (Or.inl rfl)) rfl (Formula_dyn hk0 _) mw_59 (inr_c rfl) d_Formula_readPart_153 (fun H locs hS => ?_)
    obtain ⟨M29, eM29⟩ : ∃ q, q = (setI q27 k0 10 0) := ⟨_, rfl⟩
    replace hS : St b C n M29 s H locs := by rw [eM29]; exact hS
    replace hT := qlet_eq hT eM29
    refine r_iconst F.hx F.hb d_Formula_readPart_156 ?_
    subst hT
    exact r_iret F hlk hr rfl hS (inr_c rfl) d_Formula_readPart_157
  · replace hT := (if_neg c26).symm.trans hT
    refine lv_aload_n F.hx F.hb d_Formula_readPart_136 rfl (lv_at hl 0 rfl) ?_
    refine r_bipush F.hx F.hb d_Formula_readPart_137 rfl ?_
    obtain ⟨q30, hq30⟩ : ∃ q, q = (t_Formula_await M25 k0 17) := ⟨_, rfl⟩
    replace hT := qlet_eq hT hq30
    refine r_backV F hS (r_runV (k := k0) (N := 12) (T := T3) (As := [vI 17]) F hS (Formula_lt hk0) (Formula_sh hk0) rfl (c_Formula_await l F.2.2.1 M25 k0 17 hk0 (inr_c rfl) _ hq30.symm) gs_Formula_73 hd_Formula_await ⟨Nat.le_of_ble_eq_true rfl, Nat.le_of_ble_eq_true rfl⟩ rfl hl.1 (Nat.le_of_ble_eq_true rfl) ⟨Nat.zero_le _, Nat.zero_le _⟩ rfl d_Formula_readPart_139) (fun H locs hS => ?_)
    refine lv_goto (tgt := 156) F.hx F.hb d_Formula_readPart_142 (by decide) ?_
    refine r_iconst F.hx F.hb d_Formula_readPart_156 ?_
    subst hT
    exact r_iret F hlk hr rfl hS (inr_c rfl) d_Formula_readPart_157
set_option maxHeartbeats 4000000 in
set_option maxRecDepth 100000 in
theorem k_Formula_readPart_L97 (l : Launch) {p : Program} {e : Env} {s : State} {m : MethodId} {below : List Frame} {meth : Method} {c : Code} {b n : Nat} {C : CT} (hlo : 191 ≤ n) (k0 : Nat) (x1 : Int) (x2 : Int) (k3 : Nat) (hk0 : isFormula k0) (hx1 : InR x1) (hx2 : InR x2) (hk3 : isTown k3) (F : Cx b p m c b_Formula_readPart 5 s ([.ref (b + k0), vI x1, vI x2, .ref (b + k3)] : List Value).toArray "WardFalls$Formula" C n 191) (hlk : meth.locks = false) (hr : meth.sig.returnType = some .int) {res : Mem × Int} (M : Mem) (v4_ : Int) (hv4_ : v4_ = 0 ∨ v4_ = 1) (H : Heap) (locs : List Loc) (ls : Array Slot) (hS : St b C n M s H locs) (hl : lv_has ls 5 [(0, .ref (b + k0)), (1, vI x1), (2, vI x2), (3, .ref (b + k3)), (4, vI v4_)]) (hT : t_Formula_readPart_L97 k0 x1 x2 k3 M v4_ = res) : W p l e (headSpec (wsM y_Formula_readPart b_Formula_readPart 5 (some .int)) (rmD 2)).room s m ([.ref (b + k0), vI x1, vI x2, .ref (b + k3)] : List Value).toArray below meth c H locs 0 0 (MQ below (QI b C n res.1 res.2) ([.ref (b + k0), vI x1, vI x2, .ref (b + k3)] : List Value).toArray s 0 0 (frb b)) (F0 m 97 ls []) := by
  unfold t_Formula_readPart_L97 at hT
  refine lv_aload_n F.hx F.hb d_Formula_readPart_97 rfl (lv_at hl 3 rfl) ?_
  refine r_get (v := vI (M.1 k3 16)) (N := 20) (T := T11) (j := 16) F hS (Town_lt hk3) (Town_sh hk3) (Town_N hk3) rfl (Nat.le_of_ble_eq_true rfl) ing11 mw_146 (fv_int rfl) d_Formula_readPart_98 ?_
  have i20 := hS.rng k3 16
  refine r_bipush F.hx F.hb d_Formula_readPart_101 rfl ?_
  refine r_icmp_ge (tgt := 119) F.hx F.hb i20 (inr_c rfl) d_Formula_readPart_103 (by decide) (fun c21 => ?_) (fun c21 => ?_)
  · replace hT := (if_pos c21).symm.trans hT
    refine r_iconst F.hx F.hb d_Formula_readPart_119 ?_
    subst hT
    exact r_iret F hlk hr rfl hS (inr_c rfl) d_Formula_readPart_120
  · replace hT := (if_neg c21).symm.trans hT
    refine lv_iload_n F.hx F.hb d_Formula_readPart_106 rfl (lv_at hl 1 rfl) ?_
    refine r_bipush F.hx F.hb d_Formula_readPart_107 rfl ?_
    refine r_icmp_ne (tgt := 121) F.hx F.hb hx1 (inr_c rfl) d_Formula_readPart_109 (by decide) (fun c22 => ?_) (fun c22 => ?_)
    · replace hT := (if_neg c22).symm.trans hT
      exact k_Formula_readPart_L121 l hlo k0 x1 x2 k3 hk0 hx1 hx2 hk3 F hlk hr M v4_ hv4_ _ _ _ hS (lv_sub hl [0, 1, 2, 3, 4] rfl) hT
    · replace hT := (if_pos c22).symm.trans hT
      refine lv_iload_n F.hx F.hb d_Formula_readPart_112 rfl (lv_at hl 2 rfl) ?_
      refine r_sipush F.hx F.hb d_Formula_readPart_113 rfl ?_
      refine r_icmp_le (tgt := 121) F.hx F.hb hx2 (inr_c rfl) d_Formula_readPart_116 (by decide) (fun c23 => ?_) (fun c23 => ?_)
      · replace hT := (if_pos c23).symm.trans hT
        exact k_Formula_readPart_L121 l hlo k0 x1 x2 k3 hk0 hx1 hx2 hk3 F hlk hr M v4_ hv4_ _ _ _ hS (lv_sub hl [0, 1, 2, 3, 4] rfl) hT
      · replace hT := (if_neg c23).symm.trans hT
        refine r_iconst F.hx F.hb d_Formula_readPart_119 ?_
        subst hT
        exact r_iret F hlk hr rfl hS (inr_c rfl) d_Formula_readPart_120
set_option maxHeartbeats 4000000 in
set_option maxRecDepth 100000 in
theorem k_Formula_readPart_L75 (l : Launch) {p : Program} {e : Env} {s : State} {m : MethodId} {below : List Frame} {meth : Method} {c : Code} {b n : Nat} {C : CT} (hlo : 191 ≤ n) (k0 : Nat) (x1 : Int) (x2 : Int) (k3 : Nat) (hk0 : isFormula k0) (hx1 : InR x1) (hx2 : InR x2) (hk3 : isTown k3) (F : Cx b p m c b_Formula_readPart 5 s ([.ref (b + k0), vI x1, vI x2, .ref (b + k3)] : List Value).toArray "WardFalls$Formula" C n 191) (hlk : meth.locks = false) (hr : meth.sig.returnType = some .int) {res : Mem × Int} (M : Mem) (v4_ : Int) (hv4_ : v4_ = 0 ∨ v4_ = 1) (H : Heap) (locs : List Loc) (ls : Array Slot) (hS : St b C n M s H locs) (hl : lv_has ls 5 [(0, .ref (b + k0)), (1, vI x1), (2, vI x2), (3, .ref (b + k3))]) (hT : t_Formula_readPart_L75 k0 x1 x2 k3 M v4_ = res) : W p l e (headSpec (wsM y_Formula_readPart b_Formula_readPart 5 (some .int)) (rmD 2)).room s m ([.ref (b + k0), vI x1, vI x2, .ref (b + k3)] : List Value).toArray below meth c H locs 0 0 (MQ below (QI b C n res.1 res.2) ([.ref (b + k0), vI x1, vI x2, .ref (b + k3)] : List Value).toArray s 0 0 (frb b)) (F0 m 75 ls [vI v4_]) := by
  unfold t_Formula_readPart_L75 at hT
  refine lv_istore (lv' := [(4, vI v4_), (0, .ref (b + k0)), (1, vI x1), (2, vI x2), (3, .ref (b + k3))]) F.hx F.hb d_Formula_readPart_75 hl (Nat.le_of_ble_eq_true rfl) rfl (fun ls hl => ?_)
  refine lv_iload F.hx F.hb d_Formula_readPart_77 (lv_at hl 0 rfl) ?_
  refine r_if_ne (tgt := 97) F.hx F.hb (inr_z hv4_) d_Formula_readPart_79 (by decide) (fun c15 => ?_) (fun c15 => ?_)
  · replace hT := (if_neg c15).symm.trans hT
    exact k_Formula_readPart_L97 l hlo k0 x1 x2 k3 hk0 hx1 hx2 hk3 F hlk hr M v4_ hv4_ _ _ _ hS (lv_sub hl [1, 2, 3, 4, 0] rfl) hT
  · replace hT := (if_pos c15).symm.trans hT
    refine lv_iload_n F.hx F.hb d_Formula_readPart_82 rfl (lv_at hl 2 rfl) ?_
    refine r_bipush F.hx F.hb d_Formula_readPart_83 rfl ?_
    refine r_icmp_eq (tgt := 97) F.hx F.hb hx1 (inr_c rfl) d_Formula_readPart_85 (by decide) (fun c16 => ?_) (fun c16 => ?_)
    · replace hT := (if_pos c16).symm.trans hT
      exact k_Formula_readPart_L97 l hlo k0 x1 x2 k3 hk0 hx1 hx2 hk3 F hlk hr M v4_ hv4_ _ _ _ hS (lv_sub hl [1, 2, 3, 4, 0] rfl) hT
    · replace hT := (if_neg c16).symm.trans hT
      refine lv_iload_n F.hx F.hb d_Formula_readPart_88 rfl (lv_at hl 2 rfl) ?_
      obtain ⟨q17, hq17⟩ : ∃ q, q = (t_Formula_isName M x1) := ⟨_, rfl⟩
      replace hT := qlet_eq hT hq17
      refine r_backZ F hS (r_runS (As := [vI x1]) F hS (c_Formula_isName l F.2.2.1 M x1 hx1 _ hq17.symm) gs_Formula_76 hd_Formula_isName ⟨Nat.le_of_ble_eq_true rfl, Nat.le_of_ble_eq_true rfl⟩ rfl hl.1 (Nat.le_of_ble_eq_true rfl) ⟨Nat.zero_le _, Nat.zero_le _⟩ rfl d_Formula_readPart_89) (fun H locs hS h18 => ?_)
      refine r_if_ne (tgt := 97) F.hx F.hb (inr_z h18) d_Formula_readPart_92 (by decide) (fun c19 => ?_) (fun c19 => ?_)
      · replace hT := (if_neg c19).symm.trans hT
        exact k_Formula_readPart_L97 l hlo k0 x1 x2 k3 hk0 hx1 hx2 hk3 F hlk hr M v4_ hv4_ _ _ _ hS (lv_sub hl [1, 2, 3, 4, 0] rfl) hT
      · replace hT := (if_pos c19).symm.trans hT
        refine r_iconst F.hx F.hb d_Formula_readPart_95 ?_
        subst hT
        exact r_iret F hlk hr rfl hS (inr_c rfl) d_Formula_readPart_96
set_option maxHeartbeats 4000000 in
set_option maxRecDepth 100000 in
theorem k_Formula_readPart_L74 (l : Launch) {p : Program} {e : Env} {s : State} {m : MethodId} {below : List Frame} {meth : Method} {c : Code} {b n : Nat} {C : CT} (hlo : 191 ≤ n) (k0 : Nat) (x1 : Int) (x2 : Int) (k3 : Nat) (hk0 : isFormula k0) (hx1 : InR x1) (hx2 : InR x2) (hk3 : isTown k3) (F : Cx b p m c b_Formula_readPart 5 s ([.ref (b + k0), vI x1, vI x2, .ref (b + k3)] : List Value).toArray "WardFalls$Formula" C n 191) (hlk : meth.locks = false) (hr : meth.sig.returnType = some .int) {res : Mem × Int} (M : Mem)  (H : Heap) (locs : List Loc) (ls : Array Slot) (hS : St b C n M s H locs) (hl : lv_has ls 5 [(0, .ref (b + k0)), (1, vI x1), (2, vI x2), (3, .ref (b + k3))]) (hT : t_Formula_readPart_L74 k0 x1 x2 k3 M = res) : W p l e (headSpec (wsM y_Formula_readPart b_Formula_readPart 5 (some .int)) (rmD 2)).room s m ([.ref (b + k0), vI x1, vI x2, .ref (b + k3)] : List Value).toArray below meth c H locs 0 0 (MQ below (QI b C n res.1 res.2) ([.ref (b + k0), vI x1, vI x2, .ref (b + k3)] : List Value).toArray s 0 0 (frb b)) (F0 m 74 ls []) := by
  unfold t_Formula_readPart_L74 at hT
  refine r_iconst F.hx F.hb d_Formula_readPart_74 ?_
  exact k_Formula_readPart_L75 l hlo k0 x1 x2 k3 hk0 hx1 hx2 hk3 F hlk hr M 0 (Or.inl rfl) _ _ _ hS (lv_sub hl [0, 1, 2, 3] rfl) hT
set_option maxHeartbeats 4000000 in
set_option maxRecDepth 100000 in
theorem c_Formula_readPart (l : Launch) {b n : Nat} {C : CT} (hlo : 191 ≤ n) (M : Mem) (k0 : Nat) (x1 : Int) (x2 : Int) (k3 : Nat) (hk0 : isFormula k0) (hx1 : InR x1) (hx2 : InR x2) (hk3 : isTown k3) (res : Mem × Int) (hT : t_Formula_readPart M k0 x1 x2 k3 = res) : CM l b C n 2 y_Formula_readPart b_Formula_readPart 5 (some .int) [.ref (b + k0), vI x1, vI x2, .ref (b + k3)] M (QI b C n res.1 res.2) := by
  refine CM.of (lo := 191) (ow := "WardFalls$Formula") (by decide) rfl (Nat.le_of_ble_eq_true rfl) hlo (fun p e s m below meth c F hlk hr hS ls hl => ?_)
  have hl : lv_has ls 5 [(0, .ref (b + k0)), (1, vI x1), (2, vI x2), (3, .ref (b + k3))] := hl
  unfold t_Formula_readPart at hT
  refine lv_iload_n F.hx F.hb d_Formula_readPart_0 rfl (lv_at hl 1 rfl) ?_
  refine r_bipush F.hx F.hb d_Formula_readPart_1 rfl ?_
  refine r_icmp_ne (tgt := 57) F.hx F.hb hx1 (inr_c rfl) d_Formula_readPart_3 (by decide) (fun c1 => ?_) (fun c1 => ?_)
  · replace hT := (if_neg c1).symm.trans hT
    refine lv_iload_n F.hx F.hb d_Formula_readPart_57 rfl (lv_at hl 1 rfl) ?_
    refine r_bipush F.hx F.hb d_Formula_readPart_58 rfl ?_
    refine r_icmp_ne (tgt := 74) F.hx F.hb hx1 (inr_c rfl) d_Formula_readPart_60 (by decide) (fun c2 => ?_) (fun c2 => ?_)
    · replace hT := (if_neg c2).symm.trans hT
      exact k_Formula_readPart_L74 l hlo k0 x1 x2 k3 hk0 hx1 hx2 hk3 F hlk hr M _ _ _ hS (lv_sub hl [0, 1, 2, 3] rfl) hT
    · replace hT := (if_pos c2).symm.trans hT
      refine lv_aload_n F.hx F.hb d_Formula_readPart_63 rfl (lv_at hl 0 rfl) ?_
      refine r_get (v := vI (M.1 k0 11)) (N := 12) (T := T3) (j := 11) F hS (Formula_lt hk0) (Formula_sh hk0) (Formula_N hk0) rfl (Nat.le_of_ble_eq_true rfl) ing3 mw_60 (fv_int rfl) d_Formula_readPart_64 ?_
      have i3 := hS.rng k0 11
      refine r_if_eq (tgt := 74) F.hx F.hb i3 d_Formula_readPart_67 (by decide) (fun c4 => ?_) (fun c4 => ?_)
      · replace hT := (if_pos c4).symm.trans hT
        exact k_Formula_readPart_L74 l hlo k0 x1 x2 k3 hk0 hx1 hx2 hk3 F hlk hr M _ _ _ hS (lv_sub hl [0, 1, 2, 3] rfl) hT
      · replace hT := (if_neg c4).symm.trans hT
        refine r_iconst F.hx F.hb d_Formula_readPart_70 ?_
        refine lv_goto (tgt := 75) F.hx F.hb d_Formula_readPart_71 (by decide) ?_
        exact k_Formula_readPart_L75 l hlo k0 x1 x2 k3 hk0 hx1 hx2 hk3 F hlk hr M 1 (Or.inr rfl) _ _ _ hS (lv_sub hl [0, 1, 2, 3] rfl) hT
  · replace hT := (if_pos c1).symm.trans hT
    refine lv_aload_n F.hx F.hb d_Formula_readPart_6 rfl (lv_at hl 0 rfl) ?_
    refine r_get (v := vI (M.1 k0 8)) (N := 12) (T := T3) (j := 8) F hS (Formula_lt hk0) (Formula_sh hk0) (Formula_N hk0) rfl (Nat.le_of_ble_eq_true rfl) ing3 mw_57 (fv_int rfl) d_Formula_readPart_7 ?_
    have i5 := hS.rng k0 8
    refine r_bipush F.hx F.hb d_Formula_readPart_10 rfl ?_
    refine r_icmp_lt (tgt := 17) F.hx F.hb i5 (inr_c rfl) d_Formula_readPart_12 (by decide) (fun c6 => ?_) (fun c6 => ?_)
    · replace hT := (if_pos c6).symm.trans hT
      refine lv_aload_n F.hx F.hb d_Formula_readPart_17 rfl (lv_at hl 0 rfl) ?_
      refine lv_dup F.hx F.hb d_Formula_readPart_18 rfl ?_
      refine r_get (v := vI (M.1 k0 8)) (N := 12) (T := T3) (j := 8) F hS (Formula_lt hk0) (Formula_sh hk0) (Formula_N hk0) rfl (Nat.le_of_ble_eq_true rfl) ing3 mw_57 (fv_int rfl) d_Formula_readPart_19 ?_
      have i7 := hS.rng k0 8
      refine r_iconst F.hx F.hb d_Formula_readPart_22 ?_
      refine r_iadd F.hx F.hb d_Formula_readPart_23 ?_
      refine r_putI (N := 12) (T := T3) (j := 8) F hS (Formula_lt hk0) (Formula_sh hk0) (Formula_N hk0) rfl (Nat.le_of_ble_eq_true rfl) ing3 tyok3 nm3 rfl rfl rfl rfl rfl (Formula_dyn hk0 _) mw_57 (inr_w32 _) d_Formula_readPart_24 (fun H locs hS => ?_)
      obtain ⟨M8, eM8⟩ : ∃ q, q = (setI M k0 8 (w32 ((M.1 k0 8) + 1))) := ⟨_, rfl⟩
      replace hS : St b C n M8 s H locs := by rw [eM8]; exact hS
      replace hT := qlet_eq hT eM8
      refine lv_aload_n F.hx F.hb d_Formula_readPart_27 rfl (lv_at hl 0 rfl) ?_
      refine lv_dup F.hx F.hb d_Formula_readPart_28 rfl ?_
      refine r_get (v := vI (M8.1 k0 9)) (N := 12) (T := T3) (j := 9) F hS (Formula_lt hk0) (Formula_sh hk0) (Formula_N hk0) rfl (Nat.le_of_ble_eq_true rfl) ing3 mw_58 (fv_int rfl) d_Formula_readPart_29 ?_
      have i9 := hS.rng k0 9
      refine r_iconst F.hx F.hb d_Formula_readPart_32 ?_
      refine lv_aload_n F.hx F.hb d_Formula_readPart_33 rfl (lv_at hl 0 rfl) ?_
      refine r_get (v := vI (M8.1 k0 8)) (N := 12) (T := T3) (j := 8) F hS (Formula_lt hk0) (Formula_sh hk0) (Formula_N hk0) rfl (Nat.le_of_ble_eq_true rfl) ing3 mw_57 (fv_int rfl) d_Formula_readPart_34 ?_
      have i10 := hS.rng k0 8
      refine r_ishl F.hx F.hb d_Formula_readPart_37 ?_
      refine r_iconst F.hx F.hb d_Formula_readPart_38 ?_
      refine r_ixor F.hx F.hb d_Formula_readPart_39 ?_
      refine r_iand F.hx F.hb d_Formula_readPart_40 ?_
      refine r_putI (N := 12) (T := T3) (j := 9) F hS (Formula_lt hk0) (Formula_sh hk0) (Formula_N hk0) rfl (Nat.le_of_ble_eq_true rfl) ing3 tyok3 nm3 rfl rfl rfl rfl rfl (Formula_dyn hk0 _) mw_58 (q_inr_toInt _) d_Formula_readPart_41 (fun H locs hS => ?_)
      obtain ⟨M11, eM11⟩ : ∃ q, q = (setI M8 k0 9 (q_and (M8.1 k0 9) (q_xor (q_shl 1 (M8.1 k0 8)) (-1)))) := ⟨_, rfl⟩
      replace hS : St b C n M11 s H locs := by rw [eM11]; exact hS
      replace hT := qlet_eq hT eM11
      refine lv_aload_n F.hx F.hb d_Formula_readPart_44 rfl (lv_at hl 0 rfl) ?_
      refine r_iconst F.hx F.hb d_Formula_readPart_45 ?_
      refine r_putI (N := 12) (T := T3) (j := 11) F hS (Formula_lt hk0) (Formula_sh hk0) (Formula_N hk0) rfl (Nat.le_of_ble_eq_true rfl) ing3 tyok3 nm3 rfl rfl (nar_z (Or.inr rfl)) (fit_z (Or.inr rfl)) rfl (Formula_dyn hk0 _) mw_60 (inr_c rfl) d_Formula_readPart_46 (fun H locs hS => ?_)
      obtain ⟨M12, eM12⟩ : ∃ q, q = (setI M11 k0 11 1) := ⟨_, rfl⟩
      replace hS : St b C n M12 s H locs := by rw [eM12]; exact hS
      replace hT := qlet_eq hT eM12
      refine lv_aload_n F.hx F.hb d_Formula_readPart_49 rfl (lv_at hl 0 rfl) ?_
      refine r_bipush F.hx F.hb d_Formula_readPart_50 rfl ?_
      obtain ⟨q13, hq13⟩ : ∃ q, q = (t_Formula_await M12 k0 41) := ⟨_, rfl⟩
      replace hT := qlet_eq hT hq13
      refine r_backV F hS (r_runV (k := k0) (N := 12) (T := T3) (As := [vI 41]) F hS (Formula_lt hk0) (Formula_sh hk0) rfl (c_Formula_await l F.2.2.1 M12 k0 41 hk0 (inr_c rfl) _ hq13.symm) gs_Formula_73 hd_Formula_await ⟨Nat.le_of_ble_eq_true rfl, Nat.le_of_ble_eq_true rfl⟩ rfl hl.1 (Nat.le_of_ble_eq_true rfl) ⟨Nat.zero_le _, Nat.zero_le _⟩ rfl d_Formula_readPart_52) (fun H locs hS => ?_)
      refine r_iconst F.hx F.hb d_Formula_readPart_55 ?_
      subst hT
      exact r_iret F hlk hr rfl hS (inr_c rfl) d_Formula_readPart_56
    · replace hT := (if_neg c6).symm.trans hT
      refine r_iconst F.hx F.hb d_Formula_readPart_15 ?_
      subst hT
      exact r_iret F hlk hr rfl hS (inr_c rfl) d_Formula_readPart_16
theorem wn_Formula_readSign_0 : ∀ i, i < 96 → bA b_Formula_readSign (0 + i) = wB [27, 16, 42, 160, 0, 39, 42, 180, 0, 39, 154, 0, 5, 4, 172, 42, 4, 182, 0, 58, 42, 89, 180, 0, 36, 4, 100, 181, 0, 36, 42, 89, 180, 0, 39, 4, 100, 181, 0, 39, 3, 172, 27, 184, 0, 89, 62, 29, 7, 160, 0, 7, 4, 167, 0, 4, 3, 54, 4, 29, 153, 0, 24, 21, 4, 153, 0, 21, 42, 180, 0, 42, 133, 42, 180, 0, 39, 184, 0, 93, 4, 160, 0, 5, 4, 172, 44, 180, 0, 80, 16, 64, 161, 0, 5, 5] i := wB_of (by decide +kernel)
theorem d_Formula_readSign_0 : decode b_Formula_readSign 0 = .ok (.iload_n 1, 1) := dc_27 (q0_win (r := 0) wn_Formula_readSign_0 (by decide +kernel))
theorem d_Formula_readSign_1 : decode b_Formula_readSign 1 = .ok (.bipush 42, 2) := dc_16 (qS1_win (r := 1) wn_Formula_readSign_0 (by decide +kernel))
theorem d_Formula_readSign_3 : decode b_Formula_readSign 3 = .ok (.if_icmp .ne 39, 3) := dc_160 (qS2_win (r := 3) wn_Formula_readSign_0 (by decide +kernel))
theorem d_Formula_readSign_6 : decode b_Formula_readSign 6 = .ok (.aload_n 0, 1) := dc_42 (q0_win (r := 6) wn_Formula_readSign_0 (by decide +kernel))
theorem d_Formula_readSign_7 : decode b_Formula_readSign 7 = .ok (.getfield 39, 3) := dc_180 (qU2_win (r := 7) wn_Formula_readSign_0 (by decide +kernel))
theorem d_Formula_readSign_10 : decode b_Formula_readSign 10 = .ok (.ifCond .ne 5, 3) := dc_154 (qS2_win (r := 10) wn_Formula_readSign_0 (by decide +kernel))
theorem d_Formula_readSign_13 : decode b_Formula_readSign 13 = .ok (.iconst 1, 1) := dc_4 (q0_win (r := 13) wn_Formula_readSign_0 (by decide +kernel))
theorem d_Formula_readSign_14 : decode b_Formula_readSign 14 = .ok (.ireturn, 1) := dc_172 (q0_win (r := 14) wn_Formula_readSign_0 (by decide +kernel))
theorem d_Formula_readSign_15 : decode b_Formula_readSign 15 = .ok (.aload_n 0, 1) := dc_42 (q0_win (r := 15) wn_Formula_readSign_0 (by decide +kernel))
theorem d_Formula_readSign_16 : decode b_Formula_readSign 16 = .ok (.iconst 1, 1) := dc_4 (q0_win (r := 16) wn_Formula_readSign_0 (by decide +kernel))
theorem d_Formula_readSign_17 : decode b_Formula_readSign 17 = .ok (.invokevirtual 58, 3) := dc_182 (qU2_win (r := 17) wn_Formula_readSign_0 (by decide +kernel))
theorem d_Formula_readSign_20 : decode b_Formula_readSign 20 = .ok (.aload_n 0, 1) := dc_42 (q0_win (r := 20) wn_Formula_readSign_0 (by decide +kernel))
theorem d_Formula_readSign_21 : decode b_Formula_readSign 21 = .ok (.dup, 1) := dc_89 (q0_win (r := 21) wn_Formula_readSign_0 (by decide +kernel))
theorem d_Formula_readSign_22 : decode b_Formula_readSign 22 = .ok (.getfield 36, 3) := dc_180 (qU2_win (r := 22) wn_Formula_readSign_0 (by decide +kernel))
theorem d_Formula_readSign_25 : decode b_Formula_readSign 25 = .ok (.iconst 1, 1) := dc_4 (q0_win (r := 25) wn_Formula_readSign_0 (by decide +kernel))
theorem d_Formula_readSign_26 : decode b_Formula_readSign 26 = .ok (.isub, 1) := dc_100 (q0_win (r := 26) wn_Formula_readSign_0 (by decide +kernel))
theorem d_Formula_readSign_27 : decode b_Formula_readSign 27 = .ok (.putfield 36, 3) := dc_181 (qU2_win (r := 27) wn_Formula_readSign_0 (by decide +kernel))
theorem d_Formula_readSign_30 : decode b_Formula_readSign 30 = .ok (.aload_n 0, 1) := dc_42 (q0_win (r := 30) wn_Formula_readSign_0 (by decide +kernel))
theorem d_Formula_readSign_31 : decode b_Formula_readSign 31 = .ok (.dup, 1) := dc_89 (q0_win (r := 31) wn_Formula_readSign_0 (by decide +kernel))
theorem d_Formula_readSign_32 : decode b_Formula_readSign 32 = .ok (.getfield 39, 3) := dc_180 (qU2_win (r := 32) wn_Formula_readSign_0 (by decide +kernel))
theorem d_Formula_readSign_35 : decode b_Formula_readSign 35 = .ok (.iconst 1, 1) := dc_4 (q0_win (r := 35) wn_Formula_readSign_0 (by decide +kernel))
theorem d_Formula_readSign_36 : decode b_Formula_readSign 36 = .ok (.isub, 1) := dc_100 (q0_win (r := 36) wn_Formula_readSign_0 (by decide +kernel))
theorem d_Formula_readSign_37 : decode b_Formula_readSign 37 = .ok (.putfield 39, 3) := dc_181 (qU2_win (r := 37) wn_Formula_readSign_0 (by decide +kernel))
theorem d_Formula_readSign_40 : decode b_Formula_readSign 40 = .ok (.iconst 0, 1) := dc_3 (q0_win (r := 40) wn_Formula_readSign_0 (by decide +kernel))
theorem d_Formula_readSign_41 : decode b_Formula_readSign 41 = .ok (.ireturn, 1) := dc_172 (q0_win (r := 41) wn_Formula_readSign_0 (by decide +kernel))
theorem d_Formula_readSign_42 : decode b_Formula_readSign 42 = .ok (.iload_n 1, 1) := dc_27 (q0_win (r := 42) wn_Formula_readSign_0 (by decide +kernel))
theorem d_Formula_readSign_43 : decode b_Formula_readSign 43 = .ok (.invokestatic 89, 3) := dc_184 (qU2_win (r := 43) wn_Formula_readSign_0 (by decide +kernel))
theorem d_Formula_readSign_46 : decode b_Formula_readSign 46 = .ok (.istore_n 3, 1) := dc_62 (q0_win (r := 46) wn_Formula_readSign_0 (by decide +kernel))
theorem d_Formula_readSign_47 : decode b_Formula_readSign 47 = .ok (.iload_n 3, 1) := dc_29 (q0_win (r := 47) wn_Formula_readSign_0 (by decide +kernel))
theorem d_Formula_readSign_48 : decode b_Formula_readSign 48 = .ok (.iconst 4, 1) := dc_7 (q0_win (r := 48) wn_Formula_readSign_0 (by decide +kernel))
theorem d_Formula_readSign_49 : decode b_Formula_readSign 49 = .ok (.if_icmp .ne 7, 3) := dc_160 (qS2_win (r := 49) wn_Formula_readSign_0 (by decide +kernel))
theorem d_Formula_readSign_52 : decode b_Formula_readSign 52 = .ok (.iconst 1, 1) := dc_4 (q0_win (r := 52) wn_Formula_readSign_0 (by decide +kernel))
theorem d_Formula_readSign_53 : decode b_Formula_readSign 53 = .ok (.goto 4, 3) := dc_167 (qS2_win (r := 53) wn_Formula_readSign_0 (by decide +kernel))
theorem d_Formula_readSign_56 : decode b_Formula_readSign 56 = .ok (.iconst 0, 1) := dc_3 (q0_win (r := 56) wn_Formula_readSign_0 (by decide +kernel))
theorem d_Formula_readSign_57 : decode b_Formula_readSign 57 = .ok (.istore 4, 2) := dc_54 (qU1_win (r := 57) wn_Formula_readSign_0 (by decide +kernel))
theorem d_Formula_readSign_59 : decode b_Formula_readSign 59 = .ok (.iload_n 3, 1) := dc_29 (q0_win (r := 59) wn_Formula_readSign_0 (by decide +kernel))
theorem d_Formula_readSign_60 : decode b_Formula_readSign 60 = .ok (.ifCond .eq 24, 3) := dc_153 (qS2_win (r := 60) wn_Formula_readSign_0 (by decide +kernel))
theorem d_Formula_readSign_63 : decode b_Formula_readSign 63 = .ok (.iload 4, 2) := dc_21 (qU1_win (r := 63) wn_Formula_readSign_0 (by decide +kernel))
theorem d_Formula_readSign_65 : decode b_Formula_readSign 65 = .ok (.ifCond .eq 21, 3) := dc_153 (qS2_win (r := 65) wn_Formula_readSign_0 (by decide +kernel))
theorem d_Formula_readSign_68 : decode b_Formula_readSign 68 = .ok (.aload_n 0, 1) := dc_42 (q0_win (r := 68) wn_Formula_readSign_0 (by decide +kernel))
theorem d_Formula_readSign_69 : decode b_Formula_readSign 69 = .ok (.getfield 42, 3) := dc_180 (qU2_win (r := 69) wn_Formula_readSign_0 (by decide +kernel))
theorem d_Formula_readSign_72 : decode b_Formula_readSign 72 = .ok (.i2l, 1) := dc_133 (q0_win (r := 72) wn_Formula_readSign_0 (by decide +kernel))
theorem d_Formula_readSign_73 : decode b_Formula_readSign 73 = .ok (.aload_n 0, 1) := dc_42 (q0_win (r := 73) wn_Formula_readSign_0 (by decide +kernel))
theorem d_Formula_readSign_74 : decode b_Formula_readSign 74 = .ok (.getfield 39, 3) := dc_180 (qU2_win (r := 74) wn_Formula_readSign_0 (by decide +kernel))
theorem d_Formula_readSign_77 : decode b_Formula_readSign 77 = .ok (.invokestatic 93, 3) := dc_184 (qU2_win (r := 77) wn_Formula_readSign_0 (by decide +kernel))
theorem d_Formula_readSign_80 : decode b_Formula_readSign 80 = .ok (.iconst 1, 1) := dc_4 (q0_win (r := 80) wn_Formula_readSign_0 (by decide +kernel))
theorem d_Formula_readSign_81 : decode b_Formula_readSign 81 = .ok (.if_icmp .ne 5, 3) := dc_160 (qS2_win (r := 81) wn_Formula_readSign_0 (by decide +kernel))
theorem d_Formula_readSign_84 : decode b_Formula_readSign 84 = .ok (.iconst 1, 1) := dc_4 (q0_win (r := 84) wn_Formula_readSign_0 (by decide +kernel))
theorem d_Formula_readSign_85 : decode b_Formula_readSign 85 = .ok (.ireturn, 1) := dc_172 (q0_win (r := 85) wn_Formula_readSign_0 (by decide +kernel))
theorem d_Formula_readSign_86 : decode b_Formula_readSign 86 = .ok (.aload_n 2, 1) := dc_44 (q0_win (r := 86) wn_Formula_readSign_0 (by decide +kernel))
theorem d_Formula_readSign_87 : decode b_Formula_readSign 87 = .ok (.getfield 80, 3) := dc_180 (qU2_win (r := 87) wn_Formula_readSign_0 (by decide +kernel))
theorem d_Formula_readSign_90 : decode b_Formula_readSign 90 = .ok (.bipush 64, 2) := dc_16 (qS1_win (r := 90) wn_Formula_readSign_0 (by decide +kernel))
theorem d_Formula_readSign_92 : decode b_Formula_readSign 92 = .ok (.if_icmp .lt 5, 3) := dc_161 (qS2_win (r := 92) wn_Formula_readSign_0 (by decide +kernel))
theorem d_Formula_readSign_95 : decode b_Formula_readSign 95 = .ok (.iconst 2, 1) := dc_5 (q0_win (r := 95) wn_Formula_readSign_0 (by decide +kernel))
theorem wn_Formula_readSign_96 : ∀ i, i < 89 → bA b_Formula_readSign (96 + i) = wB [172, 44, 89, 180, 0, 80, 4, 96, 181, 0, 80, 42, 29, 182, 0, 58, 42, 27, 182, 0, 73, 42, 4, 181, 0, 45, 42, 29, 7, 162, 0, 7, 4, 167, 0, 4, 3, 181, 0, 48, 21, 4, 153, 0, 21, 42, 89, 180, 0, 42, 4, 42, 180, 0, 39, 120, 128, 181, 0, 42, 167, 0, 27, 42, 180, 0, 48, 153, 0, 20, 42, 89, 180, 0, 42, 4, 42, 180, 0, 39, 120, 2, 130, 126, 181, 0, 42, 3, 172] i := wB_of (by decide +kernel)
theorem d_Formula_readSign_96 : decode b_Formula_readSign 96 = .ok (.ireturn, 1) := dc_172 (q0_win (r := 0) wn_Formula_readSign_96 (by decide +kernel))
theorem d_Formula_readSign_97 : decode b_Formula_readSign 97 = .ok (.aload_n 2, 1) := dc_44 (q0_win (r := 1) wn_Formula_readSign_96 (by decide +kernel))
theorem d_Formula_readSign_98 : decode b_Formula_readSign 98 = .ok (.dup, 1) := dc_89 (q0_win (r := 2) wn_Formula_readSign_96 (by decide +kernel))
theorem d_Formula_readSign_99 : decode b_Formula_readSign 99 = .ok (.getfield 80, 3) := dc_180 (qU2_win (r := 3) wn_Formula_readSign_96 (by decide +kernel))
theorem d_Formula_readSign_102 : decode b_Formula_readSign 102 = .ok (.iconst 1, 1) := dc_4 (q0_win (r := 6) wn_Formula_readSign_96 (by decide +kernel))
theorem d_Formula_readSign_103 : decode b_Formula_readSign 103 = .ok (.iadd, 1) := dc_96 (q0_win (r := 7) wn_Formula_readSign_96 (by decide +kernel))
theorem d_Formula_readSign_104 : decode b_Formula_readSign 104 = .ok (.putfield 80, 3) := dc_181 (qU2_win (r := 8) wn_Formula_readSign_96 (by decide +kernel))
theorem d_Formula_readSign_107 : decode b_Formula_readSign 107 = .ok (.aload_n 0, 1) := dc_42 (q0_win (r := 11) wn_Formula_readSign_96 (by decide +kernel))
theorem d_Formula_readSign_108 : decode b_Formula_readSign 108 = .ok (.iload_n 3, 1) := dc_29 (q0_win (r := 12) wn_Formula_readSign_96 (by decide +kernel))
theorem d_Formula_readSign_109 : decode b_Formula_readSign 109 = .ok (.invokevirtual 58, 3) := dc_182 (qU2_win (r := 13) wn_Formula_readSign_96 (by decide +kernel))
theorem d_Formula_readSign_112 : decode b_Formula_readSign 112 = .ok (.aload_n 0, 1) := dc_42 (q0_win (r := 16) wn_Formula_readSign_96 (by decide +kernel))
theorem d_Formula_readSign_113 : decode b_Formula_readSign 113 = .ok (.iload_n 1, 1) := dc_27 (q0_win (r := 17) wn_Formula_readSign_96 (by decide +kernel))
theorem d_Formula_readSign_114 : decode b_Formula_readSign 114 = .ok (.invokevirtual 73, 3) := dc_182 (qU2_win (r := 18) wn_Formula_readSign_96 (by decide +kernel))
theorem d_Formula_readSign_117 : decode b_Formula_readSign 117 = .ok (.aload_n 0, 1) := dc_42 (q0_win (r := 21) wn_Formula_readSign_96 (by decide +kernel))
theorem d_Formula_readSign_118 : decode b_Formula_readSign 118 = .ok (.iconst 1, 1) := dc_4 (q0_win (r := 22) wn_Formula_readSign_96 (by decide +kernel))
theorem d_Formula_readSign_119 : decode b_Formula_readSign 119 = .ok (.putfield 45, 3) := dc_181 (qU2_win (r := 23) wn_Formula_readSign_96 (by decide +kernel))
theorem d_Formula_readSign_122 : decode b_Formula_readSign 122 = .ok (.aload_n 0, 1) := dc_42 (q0_win (r := 26) wn_Formula_readSign_96 (by decide +kernel))
theorem d_Formula_readSign_123 : decode b_Formula_readSign 123 = .ok (.iload_n 3, 1) := dc_29 (q0_win (r := 27) wn_Formula_readSign_96 (by decide +kernel))
theorem d_Formula_readSign_124 : decode b_Formula_readSign 124 = .ok (.iconst 4, 1) := dc_7 (q0_win (r := 28) wn_Formula_readSign_96 (by decide +kernel))
theorem d_Formula_readSign_125 : decode b_Formula_readSign 125 = .ok (.if_icmp .ge 7, 3) := dc_162 (qS2_win (r := 29) wn_Formula_readSign_96 (by decide +kernel))
theorem d_Formula_readSign_128 : decode b_Formula_readSign 128 = .ok (.iconst 1, 1) := dc_4 (q0_win (r := 32) wn_Formula_readSign_96 (by decide +kernel))
theorem d_Formula_readSign_129 : decode b_Formula_readSign 129 = .ok (.goto 4, 3) := dc_167 (qS2_win (r := 33) wn_Formula_readSign_96 (by decide +kernel))
theorem d_Formula_readSign_132 : decode b_Formula_readSign 132 = .ok (.iconst 0, 1) := dc_3 (q0_win (r := 36) wn_Formula_readSign_96 (by decide +kernel))
theorem d_Formula_readSign_133 : decode b_Formula_readSign 133 = .ok (.putfield 48, 3) := dc_181 (qU2_win (r := 37) wn_Formula_readSign_96 (by decide +kernel))
theorem d_Formula_readSign_136 : decode b_Formula_readSign 136 = .ok (.iload 4, 2) := dc_21 (qU1_win (r := 40) wn_Formula_readSign_96 (by decide +kernel))
theorem d_Formula_readSign_138 : decode b_Formula_readSign 138 = .ok (.ifCond .eq 21, 3) := dc_153 (qS2_win (r := 42) wn_Formula_readSign_96 (by decide +kernel))
theorem d_Formula_readSign_141 : decode b_Formula_readSign 141 = .ok (.aload_n 0, 1) := dc_42 (q0_win (r := 45) wn_Formula_readSign_96 (by decide +kernel))
theorem d_Formula_readSign_142 : decode b_Formula_readSign 142 = .ok (.dup, 1) := dc_89 (q0_win (r := 46) wn_Formula_readSign_96 (by decide +kernel))
theorem d_Formula_readSign_143 : decode b_Formula_readSign 143 = .ok (.getfield 42, 3) := dc_180 (qU2_win (r := 47) wn_Formula_readSign_96 (by decide +kernel))
theorem d_Formula_readSign_146 : decode b_Formula_readSign 146 = .ok (.iconst 1, 1) := dc_4 (q0_win (r := 50) wn_Formula_readSign_96 (by decide +kernel))
theorem d_Formula_readSign_147 : decode b_Formula_readSign 147 = .ok (.aload_n 0, 1) := dc_42 (q0_win (r := 51) wn_Formula_readSign_96 (by decide +kernel))
theorem d_Formula_readSign_148 : decode b_Formula_readSign 148 = .ok (.getfield 39, 3) := dc_180 (qU2_win (r := 52) wn_Formula_readSign_96 (by decide +kernel))
theorem d_Formula_readSign_151 : decode b_Formula_readSign 151 = .ok (.ishl, 1) := dc_120 (q0_win (r := 55) wn_Formula_readSign_96 (by decide +kernel))
theorem d_Formula_readSign_152 : decode b_Formula_readSign 152 = .ok (.ior, 1) := dc_128 (q0_win (r := 56) wn_Formula_readSign_96 (by decide +kernel))
theorem d_Formula_readSign_153 : decode b_Formula_readSign 153 = .ok (.putfield 42, 3) := dc_181 (qU2_win (r := 57) wn_Formula_readSign_96 (by decide +kernel))
theorem d_Formula_readSign_156 : decode b_Formula_readSign 156 = .ok (.goto 27, 3) := dc_167 (qS2_win (r := 60) wn_Formula_readSign_96 (by decide +kernel))
theorem d_Formula_readSign_159 : decode b_Formula_readSign 159 = .ok (.aload_n 0, 1) := dc_42 (q0_win (r := 63) wn_Formula_readSign_96 (by decide +kernel))
theorem d_Formula_readSign_160 : decode b_Formula_readSign 160 = .ok (.getfield 48, 3) := dc_180 (qU2_win (r := 64) wn_Formula_readSign_96 (by decide +kernel))
theorem d_Formula_readSign_163 : decode b_Formula_readSign 163 = .ok (.ifCond .eq 20, 3) := dc_153 (qS2_win (r := 67) wn_Formula_readSign_96 (by decide +kernel))
theorem d_Formula_readSign_166 : decode b_Formula_readSign 166 = .ok (.aload_n 0, 1) := dc_42 (q0_win (r := 70) wn_Formula_readSign_96 (by decide +kernel))
theorem d_Formula_readSign_167 : decode b_Formula_readSign 167 = .ok (.dup, 1) := dc_89 (q0_win (r := 71) wn_Formula_readSign_96 (by decide +kernel))
theorem d_Formula_readSign_168 : decode b_Formula_readSign 168 = .ok (.getfield 42, 3) := dc_180 (qU2_win (r := 72) wn_Formula_readSign_96 (by decide +kernel))
theorem d_Formula_readSign_171 : decode b_Formula_readSign 171 = .ok (.iconst 1, 1) := dc_4 (q0_win (r := 75) wn_Formula_readSign_96 (by decide +kernel))
theorem d_Formula_readSign_172 : decode b_Formula_readSign 172 = .ok (.aload_n 0, 1) := dc_42 (q0_win (r := 76) wn_Formula_readSign_96 (by decide +kernel))
theorem d_Formula_readSign_173 : decode b_Formula_readSign 173 = .ok (.getfield 39, 3) := dc_180 (qU2_win (r := 77) wn_Formula_readSign_96 (by decide +kernel))
theorem d_Formula_readSign_176 : decode b_Formula_readSign 176 = .ok (.ishl, 1) := dc_120 (q0_win (r := 80) wn_Formula_readSign_96 (by decide +kernel))
theorem d_Formula_readSign_177 : decode b_Formula_readSign 177 = .ok (.iconst (-1), 1) := dc_2 (q0_win (r := 81) wn_Formula_readSign_96 (by decide +kernel))
theorem d_Formula_readSign_178 : decode b_Formula_readSign 178 = .ok (.ixor, 1) := dc_130 (q0_win (r := 82) wn_Formula_readSign_96 (by decide +kernel))
theorem d_Formula_readSign_179 : decode b_Formula_readSign 179 = .ok (.iand, 1) := dc_126 (q0_win (r := 83) wn_Formula_readSign_96 (by decide +kernel))
theorem d_Formula_readSign_180 : decode b_Formula_readSign 180 = .ok (.putfield 42, 3) := dc_181 (qU2_win (r := 84) wn_Formula_readSign_96 (by decide +kernel))
theorem d_Formula_readSign_183 : decode b_Formula_readSign 183 = .ok (.iconst 0, 1) := dc_3 (q0_win (r := 87) wn_Formula_readSign_96 (by decide +kernel))
theorem d_Formula_readSign_184 : decode b_Formula_readSign 184 = .ok (.ireturn, 1) := dc_172 (q0_win (r := 88) wn_Formula_readSign_96 (by decide +kernel))
def t_Formula_readSign_L133 (k0 : Nat) (x1 : Int) (k2 : Nat)  (M : Mem) (v1_ : Int) (v3_ : Int) : Option (Mem × Int) := (qlet (setI M k0 11 v3_) fun M30 => (if v1_ = 0 then (if (M30.1 k0 11) = 0 then (some (M30, 0)) else (qlet (setI M30 k0 9 (q_and (M30.1 k0 9) (q_xor (q_shl 1 (M30.1 k0 8)) (-1)))) fun M36 => (some (M36, 0)))) else (qlet (setI M30 k0 9 (q_or (M30.1 k0 9) (q_shl 1 (M30.1 k0 8)))) fun M39 => (some (M39, 0)))))
def t_Formula_readSign_L86 (k0 : Nat) (x1 : Int) (k2 : Nat)  (M : Mem) (v3_ : Int) (v4_ : Int) : Option (Mem × Int) := (if (M.1 k2 16) < 64 then (qlet (setI M k2 16 (w32 ((M.1 k2 16) + 1))) fun M23 => (obind (t_Formula_release M23 k0 v3_) fun q24 => (qlet (t_Formula_await q24 k0 x1) fun q26 => (qlet (setI q26 k0 10 1) fun M28 => (if 4 ≤ v3_ then (t_Formula_readSign_L133 k0 x1 k2 M28 v4_ 0) else (t_Formula_readSign_L133 k0 x1 k2 M28 v4_ 1)))))) else (some (M, 2)))
def t_Formula_readSign_L57 (k0 : Nat) (x1 : Int) (k2 : Nat)  (M : Mem) (v3_ : Int) (v4_ : Int) : Option (Mem × Int) := (if v3_ = 0 then (some (M, 1)) else (if v4_ = 0 then (t_Formula_readSign_L86 k0 x1 k2 M v3_ v4_) else (qlet (t_WF_bitOf M (q_i2l (M.1 k0 9)) (M.1 k0 8)) fun q17 => (if q17 = 1 then (some (M, 1)) else (t_Formula_readSign_L86 k0 x1 k2 M v3_ v4_)))))
def t_Formula_readSign (M : Mem) (k0 : Nat) (x1 : Int) (k2 : Nat) : Option (Mem × Int) := (if x1 = 42 then (if (M.1 k0 8) = 0 then (some (M, 1)) else (obind (t_Formula_release M k0 1) fun q7 => (qlet (setI q7 k0 6 (w32 ((q7.1 k0 6) - 1))) fun M10 => (qlet (setI M10 k0 8 (w32 ((M10.1 k0 8) - 1))) fun M12 => (some (M12, 0)))))) else (qlet (t_Formula_strengthOf M x1) fun q2 => (if q2 = 4 then (t_Formula_readSign_L57 k0 x1 k2 M q2 1) else (t_Formula_readSign_L57 k0 x1 k2 M q2 0))))
set_option maxHeartbeats 4000000 in
set_option maxRecDepth 100000 in
theorem k_Formula_readSign_L133 (l : Launch) {p : Program} {e : Env} {s : State} {m : MethodId} {below : List Frame} {meth : Method} {c : Code} {b n : Nat} {C : CT} (hlo : 191 ≤ n) (k0 : Nat) (x1 : Int) (k2 : Nat) (hk0 : isFormula k0) (hx1 : InR x1) (hk2 : isTown k2) (F : Cx b p m c b_Formula_readSign 5 s ([.ref (b + k0), vI x1, .ref (b + k2)] : List Value).toArray "WardFalls$Formula" C n 191) (hlk : meth.locks = false) (hr : meth.sig.returnType = some .int) {res : Mem × Int} (M : Mem) (v1_ : Int) (hv1_ : v1_ = 0 ∨ v1_ = 1) (v3_ : Int) (hv3_ : v3_ = 0 ∨ v3_ = 1) (H : Heap) (locs : List Loc) (ls : Array Slot) (hS : St b C n M s H locs) (hl : lv_has ls 5 [(0, .ref (b + k0)), (4, vI v1_)]) (hT : t_Formula_readSign_L133 k0 x1 k2 M v1_ v3_ = some res) : W p l e (headSpec (wsM y_Formula_readSign b_Formula_readSign 5 (some .int)) (rmD 3)).room s m ([.ref (b + k0), vI x1, .ref (b + k2)] : List Value).toArray below meth c H locs 0 0 (MQ below (QI b C n res.1 res.2) ([.ref (b + k0), vI x1, .ref (b + k2)] : List Value).toArray s 0 0 (frb b)) (F0 m 133 ls [vI v3_, .ref (b + k0)]) := by
  unfold t_Formula_readSign_L133 at hT
  refine r_putI (N := 12) (T := T3) (j := 11) F hS (Formula_lt hk0) (Formula_sh hk0) (Formula_N hk0) rfl (Nat.le_of_ble_eq_true rfl) ing3 tyok3 nm3 rfl rfl (nar_z hv3_) (fit_z hv3_) rfl (Formula_dyn hk0 _) mw_60 (inr_z hv3_) d_Formula_readSign_133 (fun H locs hS => ?_)
  obtain ⟨M30, eM30⟩ : ∃ q, q = (setI M k0 11 v3_) := ⟨_, rfl⟩
  replace hS : St b C n M30 s H locs := by rw [eM30]; exact hS
  replace hT := qlet_eq hT eM30
  refine lv_iload F.hx F.hb d_Formula_readSign_136 (lv_at hl 1 rfl) ?_
  refine r_if_eq (tgt := 159) F.hx F.hb (inr_z hv1_) d_Formula_readSign_138 (by decide) (fun c31 => ?_) (fun c31 => ?_)
  · replace hT := (if_pos c31).symm.trans hT
    refine lv_aload_n F.hx F.hb d_Formula_readSign_159 rfl (lv_at hl 0 rfl) ?_
    refine r_get (v := vI (M30.1 k0 11)) (N := 12) (T := T3) (j := 11) F hS (Formula_lt hk0) (Formula_sh hk0) (Formula_N hk0) rfl (Nat.le_of_ble_eq_true rfl) ing3 mw_60 (fv_int rfl) d_Formula_readSign_160 ?_
    have i32 := hS.rng k0 11
    refine r_if_eq (tgt := 183) F.hx F.hb i32 d_Formula_readSign_163 (by decide) (fun c33 => ?_) (fun c33 => ?_)
    · replace hT := (if_pos c33).symm.trans hT
      refine r_iconst F.hx F.hb d_Formula_readSign_183 ?_
      cases hT
      exact r_iret F hlk hr rfl hS (inr_c rfl) d_Formula_readSign_184
    · replace hT := (if_neg c33).symm.trans hT
      refine lv_aload_n F.hx F.hb d_Formula_readSign_166 rfl (lv_at hl 0 rfl) ?_
      refine lv_dup F.hx F.hb d_Formula_readSign_167 rfl ?_
      refine r_get (v := vI (M30.1 k0 9)) (N := 12) (T := T3) (j := 9) F hS (Formula_lt hk0) (Formula_sh hk0) (Formula_N hk0) rfl (Nat.le_of_ble_eq_true rfl) ing3 mw_58 (fv_int rfl) d_Formula_readSign_168 ?_
      have i34 := hS.rng k0 9
      refine r_iconst F.hx F.hb d_Formula_readSign_171 ?_
      refine lv_aload_n F.hx F.hb d_Formula_readSign_172 rfl (lv_at hl 0 rfl) ?_
      refine r_get (v := vI (M30.1 k0 8)) (N := 12) (T := T3) (j := 8) F hS (Formula_lt hk0) (Formula_sh hk0) (Formula_N hk0) rfl (Nat.le_of_ble_eq_true rfl) ing3 mw_57 (fv_int rfl) d_Formula_readSign_173 ?_
      have i35 := hS.rng k0 8
      refine r_ishl F.hx F.hb d_Formula_readSign_176 ?_
      refine r_iconst F.hx F.hb d_Formula_readSign_177 ?_
      refine r_ixor F.hx F.hb d_Formula_readSign_178 ?_
      refine r_iand F.hx F.hb d_Formula_readSign_179 ?_
      refine r_putI (N := 12) (T := T3) (j := 9) F hS (Formula_lt hk0) (Formula_sh hk0) (Formula_N hk0) rfl (Nat.le_of_ble_eq_true rfl) ing3 tyok3 nm3 rfl rfl rfl rfl rfl (Formula_dyn hk0 _) mw_58 (q_inr_toInt _) d_Formula_readSign_180 (fun H locs hS => ?_)
      obtain ⟨M36, eM36⟩ : ∃ q, q = (setI M30 k0 9 (q_and (M30.1 k0 9) (q_xor (q_shl 1 (M30.1 k0 8)) (-1)))) := ⟨_, rfl⟩
      replace hS : St b C n M36 s H locs := by rw [eM36]; exact hS
      replace hT := qlet_eq hT eM36
      refine r_iconst F.hx F.hb d_Formula_readSign_183 ?_
      cases hT
      exact r_iret F hlk hr rfl hS (inr_c rfl) d_Formula_readSign_184
  · replace hT := (if_neg c31).symm.trans hT
    refine lv_aload_n F.hx F.hb d_Formula_readSign_141 rfl (lv_at hl 0 rfl) ?_
    refine lv_dup F.hx F.hb d_Formula_readSign_142 rfl ?_
    refine r_get (v := vI (M30.1 k0 9)) (N := 12) (T := T3) (j := 9) F hS (Formula_lt hk0) (Formula_sh hk0) (Formula_N hk0) rfl (Nat.le_of_ble_eq_true rfl) ing3 mw_58 (fv_int rfl) d_Formula_readSign_143 ?_
    have i37 := hS.rng k0 9
    refine r_iconst F.hx F.hb d_Formula_readSign_146 ?_
    refine lv_aload_n F.hx F.hb d_Formula_readSign_147 rfl (lv_at hl 0 rfl) ?_
    refine r_get (v := vI (M30.1 k0 8)) (N := 12) (T := T3) (j := 8) F hS (Formula_lt hk0) (Formula_sh hk0) (Formula_N hk0) rfl (Nat.le_of_ble_eq_true rfl) ing3 mw_57 (fv_int rfl) d_Formula_readSign_148 ?_
    have i38 := hS.rng k0 8
    refine r_ishl F.hx F.hb d_Formula_readSign_151 ?_
    refine r_ior F.hx F.hb d_Formula_readSign_152 ?_
    refine r_putI (N := 12) (T := T3) (j := 9) F hS (Formula_lt hk0) (Formula_sh hk0) (Formula_N hk0) rfl (Nat.le_of_ble_eq_true rfl) ing3 tyok3 nm3 rfl rfl rfl rfl rfl (Formula_dyn hk0 _) mw_58 (q_inr_toInt _) d_Formula_readSign_153 (fun H locs hS => ?_)
    obtain ⟨M39, eM39⟩ : ∃ q, q = (setI M30 k0 9 (q_or (M30.1 k0 9) (q_shl 1 (M30.1 k0 8)))) := ⟨_, rfl⟩
    replace hS : St b C n M39 s H locs := by rw [eM39]; exact hS
    replace hT := qlet_eq hT eM39
    refine lv_goto (tgt := 183) F.hx F.hb d_Formula_readSign_156 (by decide) ?_
    refine r_iconst F.hx F.hb d_Formula_readSign_183 ?_
    cases hT
    exact r_iret F hlk hr rfl hS (inr_c rfl) d_Formula_readSign_184
set_option maxHeartbeats 4000000 in
set_option maxRecDepth 100000 in
theorem k_Formula_readSign_L86 (l : Launch) {p : Program} {e : Env} {s : State} {m : MethodId} {below : List Frame} {meth : Method} {c : Code} {b n : Nat} {C : CT} (hlo : 191 ≤ n) (k0 : Nat) (x1 : Int) (k2 : Nat) (hk0 : isFormula k0) (hx1 : InR x1) (hk2 : isTown k2) (F : Cx b p m c b_Formula_readSign 5 s ([.ref (b + k0), vI x1, .ref (b + k2)] : List Value).toArray "WardFalls$Formula" C n 191) (hlk : meth.locks = false) (hr : meth.sig.returnType = some .int) {res : Mem × Int} (M : Mem) (v3_ : Int) (hv3_ : InR v3_) (v4_ : Int) (hv4_ : v4_ = 0 ∨ v4_ = 1) (H : Heap) (locs : List Loc) (ls : Array Slot) (hS : St b C n M s H locs) (hl : lv_has ls 5 [(0, .ref (b + k0)), (1, vI x1), (2, .ref (b + k2)), (3, vI v3_), (4, vI v4_)]) (hT : t_Formula_readSign_L86 k0 x1 k2 M v3_ v4_ = some res) : W p l e (headSpec (wsM y_Formula_readSign b_Formula_readSign 5 (some .int)) (rmD 3)).room s m ([.ref (b + k0), vI x1, .ref (b + k2)] : List Value).toArray below meth c H locs 0 0 (MQ below (QI b C n res.1 res.2) ([.ref (b + k0), vI x1, .ref (b + k2)] : List Value).toArray s 0 0 (frb b)) (F0 m 86 ls []) := by
  unfold t_Formula_readSign_L86 at hT
  refine lv_aload_n F.hx F.hb d_Formula_readSign_86 rfl (lv_at hl 2 rfl) ?_
  refine r_get (v := vI (M.1 k2 16)) (N := 20) (T := T11) (j := 16) F hS (Town_lt hk2) (Town_sh hk2) (Town_N hk2) rfl (Nat.le_of_ble_eq_true rfl) ing11 mw_146 (fv_int rfl) d_Formula_readSign_87 ?_
  have i20 := hS.rng k2 16
  refine r_bipush F.hx F.hb d_Formula_readSign_90 rfl ?_
  refine r_icmp_lt (tgt := 97) F.hx F.hb i20 (inr_c rfl) d_Formula_readSign_92 (by decide) (fun c21 => ?_) (fun c21 => ?_)
  · replace hT := (if_pos c21).symm.trans hT
    refine lv_aload_n F.hx F.hb d_Formula_readSign_97 rfl (lv_at hl 2 rfl) ?_
    refine lv_dup F.hx F.hb d_Formula_readSign_98 rfl ?_
    refine r_get (v := vI (M.1 k2 16)) (N := 20) (T := T11) (j := 16) F hS (Town_lt hk2) (Town_sh hk2) (Town_N hk2) rfl (Nat.le_of_ble_eq_true rfl) ing11 mw_146 (fv_int rfl) d_Formula_readSign_99 ?_
    have i22 := hS.rng k2 16
    refine r_iconst F.hx F.hb d_Formula_readSign_102 ?_
    refine r_iadd F.hx F.hb d_Formula_readSign_103 ?_
    refine r_putI (N := 20) (T := T11) (j := 16) F hS (Town_lt hk2) (Town_sh hk2) (Town_N hk2) rfl (Nat.le_of_ble_eq_true rfl) ing11 tyok11 nm11 rfl rfl rfl rfl rfl (Town_dyn hk2 _) mw_146 (inr_w32 _) d_Formula_readSign_104 (fun H locs hS => ?_)
    obtain ⟨M23, eM23⟩ : ∃ q, q = (setI M k2 16 (w32 ((M.1 k2 16) + 1))) := ⟨_, rfl⟩
    replace hS : St b C n M23 s H locs := by rw [eM23]; exact hS
    replace hT := qlet_eq hT eM23
    refine lv_aload_n F.hx F.hb d_Formula_readSign_107 rfl (lv_at hl 0 rfl) ?_
    refine lv_iload_n F.hx F.hb d_Formula_readSign_108 rfl (lv_at hl 3 rfl) ?_
    obtain ⟨q24, hq24, hT⟩ := q_obind hT
    refine r_backV F hS (r_runV (k := k0) (N := 12) (T := T3) (As := [vI v3_]) F hS (Formula_lt hk0) (Formula_sh hk0) rfl (c_Formula_release l F.2.2.1 M23 k0 v3_ hk0 hv3_ _ hq24) gs_Formula_58 hd_Formula_release ⟨Nat.le_of_ble_eq_true rfl, Nat.le_of_ble_eq_true rfl⟩ rfl hl.1 (Nat.le_of_ble_eq_true rfl) ⟨Nat.zero_le _, Nat.zero_le _⟩ rfl d_Formula_readSign_109) (fun H locs hS => ?_)
    refine lv_aload_n F.hx F.hb d_Formula_readSign_112 rfl (lv_at hl 0 rfl) ?_
    refine lv_iload_n F.hx F.hb d_Formula_readSign_113 rfl (lv_at hl 1 rfl) ?_
    obtain ⟨q26, hq26⟩ : ∃ q, q = (t_Formula_await q24 k0 x1) := ⟨_, rfl⟩
    replace hT := qlet_eq hT hq26
    refine r_backV F hS (r_runV (k := k0) (N := 12) (T := T3) (As := [vI x1]) F hS (Formula_lt hk0) (Formula_sh hk0) rfl (c_Formula_await l F.2.2.1 q24 k0 x1 hk0 hx1 _ hq26.symm) gs_Formula_73 hd_Formula_await ⟨Nat.le_of_ble_eq_true rfl, Nat.le_of_ble_eq_true rfl⟩ rfl hl.1 (Nat.le_of_ble_eq_true rfl) ⟨Nat.zero_le _, Nat.zero_le _⟩ rfl d_Formula_readSign_114) (fun H locs hS => ?_)
    refine lv_aload_n F.hx F.hb d_Formula_readSign_117 rfl (lv_at hl 0 rfl) ?_
    refine r_iconst F.hx F.hb d_Formula_readSign_118 ?_
    refine r_putI (N := 12) (T := T3) (j := 10) F hS (Formula_lt hk0) (Formula_sh hk0) (Formula_N hk0) rfl (Nat.le_of_ble_eq_true rfl) ing3 tyok3 nm3 rfl rfl (nar_z (Or.inr rfl)) (fit_z (Or.inr rfl)) rfl (Formula_dyn hk0 _) mw_59 (inr_c rfl) d_Formula_readSign_119 (fun H locs hS => ?_)
    obtain ⟨M28, eM28⟩ : ∃ q, q = (setI q26 k0 10 1) := ⟨_, rfl⟩
    replace hS : St b C n M28 s H locs := by rw [eM28]; exact hS
    replace hT := qlet_eq hT eM28
    refine lv_aload_n F.hx F.hb d_Formula_readSign_122 rfl (lv_at hl 0 rfl) ?_
    refine lv_iload_n F.hx F.hb d_Formula_readSign_123 rfl (lv_at hl 3 rfl) ?_
    refine r_iconst F.hx F.hb d_Formula_readSign_124 ?_
    refine r_icmp_ge (tgt := 132) F.hx F.hb hv3_ (inr_c rfl) d_Formula_readSign_125 (by decide) (fun c29 => ?_) (fun c29 => ?_)
    · replace hT := (if_pos c29).symm.trans hT
      refine r_iconst F.hx F.hb d_Formula_readSign_132 ?_
      exact k_Formula_readSign_L133 l hlo k0 x1 k2 hk0 hx1 hk2 F hlk hr M28 v4_ hv4_ 0 (Or.inl rfl) _ _ _ hS (lv_sub hl [0, 4] rfl) hT
    · replace hT := (if_neg c29).symm.trans hT
      refine r_iconst F.hx F.hb d_Formula_readSign_128 ?_
      refine lv_goto (tgt := 133) F.hx F.hb d_Formula_readSign_129 (by decide) ?_
      exact k_Formula_readSign_L133 l hlo k0 x1 k2 hk0 hx1 hk2 F hlk hr M28 v4_ hv4_ 1 (Or.inr rfl) _ _ _ hS (lv_sub hl [0, 4] rfl) hT
  · replace hT := (if_neg c21).symm.trans hT
    refine r_iconst F.hx F.hb d_Formula_readSign_95 ?_
    cases hT
    exact r_iret F hlk hr rfl hS (inr_c rfl) d_Formula_readSign_96
set_option maxHeartbeats 4000000 in
set_option maxRecDepth 100000 in
theorem k_Formula_readSign_L57 (l : Launch) {p : Program} {e : Env} {s : State} {m : MethodId} {below : List Frame} {meth : Method} {c : Code} {b n : Nat} {C : CT} (hlo : 191 ≤ n) (k0 : Nat) (x1 : Int) (k2 : Nat) (hk0 : isFormula k0) (hx1 : InR x1) (hk2 : isTown k2) (F : Cx b p m c b_Formula_readSign 5 s ([.ref (b + k0), vI x1, .ref (b + k2)] : List Value).toArray "WardFalls$Formula" C n 191) (hlk : meth.locks = false) (hr : meth.sig.returnType = some .int) {res : Mem × Int} (M : Mem) (v3_ : Int) (hv3_ : InR v3_) (v4_ : Int) (hv4_ : v4_ = 0 ∨ v4_ = 1) (H : Heap) (locs : List Loc) (ls : Array Slot) (hS : St b C n M s H locs) (hl : lv_has ls 5 [(0, .ref (b + k0)), (1, vI x1), (2, .ref (b + k2)), (3, vI v3_)]) (hT : t_Formula_readSign_L57 k0 x1 k2 M v3_ v4_ = some res) : W p l e (headSpec (wsM y_Formula_readSign b_Formula_readSign 5 (some .int)) (rmD 3)).room s m ([.ref (b + k0), vI x1, .ref (b + k2)] : List Value).toArray below meth c H locs 0 0 (MQ below (QI b C n res.1 res.2) ([.ref (b + k0), vI x1, .ref (b + k2)] : List Value).toArray s 0 0 (frb b)) (F0 m 57 ls [vI v4_]) := by
  unfold t_Formula_readSign_L57 at hT
  refine lv_istore (lv' := [(4, vI v4_), (0, .ref (b + k0)), (1, vI x1), (2, .ref (b + k2)), (3, vI v3_)]) F.hx F.hb d_Formula_readSign_57 hl (Nat.le_of_ble_eq_true rfl) rfl (fun ls hl => ?_)
  refine lv_iload_n F.hx F.hb d_Formula_readSign_59 rfl (lv_at hl 4 rfl) ?_
  refine r_if_eq (tgt := 84) F.hx F.hb hv3_ d_Formula_readSign_60 (by decide) (fun c13 => ?_) (fun c13 => ?_)
  · replace hT := (if_pos c13).symm.trans hT
    refine r_iconst F.hx F.hb d_Formula_readSign_84 ?_
    cases hT
    exact r_iret F hlk hr rfl hS (inr_c rfl) d_Formula_readSign_85
  · replace hT := (if_neg c13).symm.trans hT
    refine lv_iload F.hx F.hb d_Formula_readSign_63 (lv_at hl 0 rfl) ?_
    refine r_if_eq (tgt := 86) F.hx F.hb (inr_z hv4_) d_Formula_readSign_65 (by decide) (fun c14 => ?_) (fun c14 => ?_)
    · replace hT := (if_pos c14).symm.trans hT
      exact k_Formula_readSign_L86 l hlo k0 x1 k2 hk0 hx1 hk2 F hlk hr M v3_ hv3_ v4_ hv4_ _ _ _ hS (lv_sub hl [1, 2, 3, 4, 0] rfl) hT
    · replace hT := (if_neg c14).symm.trans hT
      refine lv_aload_n F.hx F.hb d_Formula_readSign_68 rfl (lv_at hl 1 rfl) ?_
      refine r_get (v := vI (M.1 k0 9)) (N := 12) (T := T3) (j := 9) F hS (Formula_lt hk0) (Formula_sh hk0) (Formula_N hk0) rfl (Nat.le_of_ble_eq_true rfl) ing3 mw_58 (fv_int rfl) d_Formula_readSign_69 ?_
      have i15 := hS.rng k0 9
      refine r_i2l F.hx F.hb d_Formula_readSign_72 ?_
      refine lv_aload_n F.hx F.hb d_Formula_readSign_73 rfl (lv_at hl 1 rfl) ?_
      refine r_get (v := vI (M.1 k0 8)) (N := 12) (T := T3) (j := 8) F hS (Formula_lt hk0) (Formula_sh hk0) (Formula_N hk0) rfl (Nat.le_of_ble_eq_true rfl) ing3 mw_57 (fv_int rfl) d_Formula_readSign_74 ?_
      have i16 := hS.rng k0 8
      obtain ⟨q17, hq17⟩ : ∃ q, q = (t_WF_bitOf M (q_i2l (M.1 k0 9)) (M.1 k0 8)) := ⟨_, rfl⟩
      replace hT := qlet_eq hT hq17
      refine r_backI F hS (r_runSN (As := [.long (q_i2l (M.1 k0 9)), vI (M.1 k0 8)]) F hS (c_WF_bitOf l F.2.2.1 M (q_i2l (M.1 k0 9)) (M.1 k0 8) i16 _ hq17.symm) mw_773 mw_772 mw_1 gs_Formula_93 hd_WF_bitOf ⟨Nat.le_of_ble_eq_true rfl, Nat.le_of_ble_eq_true rfl⟩ rfl hl.1 (Nat.le_of_ble_eq_true rfl) ⟨Nat.zero_le _, Nat.zero_le _⟩ rfl d_Formula_readSign_77) (fun H locs hS h18 => ?_)
      refine r_iconst F.hx F.hb d_Formula_readSign_80 ?_
      refine r_icmp_ne (tgt := 86) F.hx F.hb h18 (inr_c rfl) d_Formula_readSign_81 (by decide) (fun c19 => ?_) (fun c19 => ?_)
      · replace hT := (if_neg c19).symm.trans hT
        exact k_Formula_readSign_L86 l hlo k0 x1 k2 hk0 hx1 hk2 F hlk hr M v3_ hv3_ v4_ hv4_ _ _ _ hS (lv_sub hl [1, 2, 3, 4, 0] rfl) hT
      · replace hT := (if_pos c19).symm.trans hT
        refine r_iconst F.hx F.hb d_Formula_readSign_84 ?_
        cases hT
        exact r_iret F hlk hr rfl hS (inr_c rfl) d_Formula_readSign_85
set_option maxHeartbeats 4000000 in
set_option maxRecDepth 100000 in
theorem c_Formula_readSign (l : Launch) {b n : Nat} {C : CT} (hlo : 191 ≤ n) (M : Mem) (k0 : Nat) (x1 : Int) (k2 : Nat) (hk0 : isFormula k0) (hx1 : InR x1) (hk2 : isTown k2) (res : Mem × Int) (hT : t_Formula_readSign M k0 x1 k2 = some res) : CM l b C n 3 y_Formula_readSign b_Formula_readSign 5 (some .int) [.ref (b + k0), vI x1, .ref (b + k2)] M (QI b C n res.1 res.2) := by
  refine CM.of (lo := 191) (ow := "WardFalls$Formula") (by decide) rfl (Nat.le_of_ble_eq_true rfl) hlo (fun p e s m below meth c F hlk hr hS ls hl => ?_)
  have hl : lv_has ls 5 [(0, .ref (b + k0)), (1, vI x1), (2, .ref (b + k2))] := hl
  unfold t_Formula_readSign at hT
  refine lv_iload_n F.hx F.hb d_Formula_readSign_0 rfl (lv_at hl 1 rfl) ?_
  refine r_bipush F.hx F.hb d_Formula_readSign_1 rfl ?_
  refine r_icmp_ne (tgt := 42) F.hx F.hb hx1 (inr_c rfl) d_Formula_readSign_3 (by decide) (fun c1 => ?_) (fun c1 => ?_)
  · replace hT := (if_neg c1).symm.trans hT
    refine lv_iload_n F.hx F.hb d_Formula_readSign_42 rfl (lv_at hl 1 rfl) ?_
    obtain ⟨q2, hq2⟩ : ∃ q, q = (t_Formula_strengthOf M x1) := ⟨_, rfl⟩
    replace hT := qlet_eq hT hq2
    refine r_backI F hS (r_runS (As := [vI x1]) F hS (c_Formula_strengthOf l F.2.2.1 M x1 hx1 _ hq2.symm) gs_Formula_89 hd_Formula_strengthOf ⟨Nat.le_of_ble_eq_true rfl, Nat.le_of_ble_eq_true rfl⟩ rfl hl.1 (Nat.le_of_ble_eq_true rfl) ⟨Nat.zero_le _, Nat.zero_le _⟩ rfl d_Formula_readSign_43) (fun H locs hS h3 => ?_)
    refine lv_istore_n (lv' := [(3, vI q2), (0, .ref (b + k0)), (1, vI x1), (2, .ref (b + k2))]) F.hx F.hb d_Formula_readSign_46 rfl hl (Nat.le_of_ble_eq_true rfl) rfl (fun ls hl => ?_)
    refine lv_iload_n F.hx F.hb d_Formula_readSign_47 rfl (lv_at hl 0 rfl) ?_
    refine r_iconst F.hx F.hb d_Formula_readSign_48 ?_
    refine r_icmp_ne (tgt := 56) F.hx F.hb h3 (inr_c rfl) d_Formula_readSign_49 (by decide) (fun c4 => ?_) (fun c4 => ?_)
    · replace hT := (if_neg c4).symm.trans hT
      refine r_iconst F.hx F.hb d_Formula_readSign_56 ?_
      exact k_Formula_readSign_L57 l hlo k0 x1 k2 hk0 hx1 hk2 F hlk hr M q2 h3 0 (Or.inl rfl) _ _ _ hS (lv_sub hl [1, 2, 3, 0] rfl) hT
    · replace hT := (if_pos c4).symm.trans hT
      refine r_iconst F.hx F.hb d_Formula_readSign_52 ?_
      refine lv_goto (tgt := 57) F.hx F.hb d_Formula_readSign_53 (by decide) ?_
      exact k_Formula_readSign_L57 l hlo k0 x1 k2 hk0 hx1 hk2 F hlk hr M q2 h3 1 (Or.inr rfl) _ _ _ hS (lv_sub hl [1, 2, 3, 0] rfl) hT
  · replace hT := (if_pos c1).symm.trans hT
    refine lv_aload_n F.hx F.hb d_Formula_readSign_6 rfl (lv_at hl 0 rfl) ?_
    refine r_get (v := vI (M.1 k0 8)) (N := 12) (T := T3) (j := 8) F hS (Formula_lt hk0) (Formula_sh hk0) (Formula_N hk0) rfl (Nat.le_of_ble_eq_true rfl) ing3 mw_57 (fv_int rfl) d_Formula_readSign_7 ?_
    have i5 := hS.rng k0 8
    refine r_if_ne (tgt := 15) F.hx F.hb i5 d_Formula_readSign_10 (by decide) (fun c6 => ?_) (fun c6 => ?_)
    · replace hT := (if_neg c6).symm.trans hT
      refine lv_aload_n F.hx F.hb d_Formula_readSign_15 rfl (lv_at hl 0 rfl) ?_
      refine r_iconst F.hx F.hb d_Formula_readSign_16 ?_
      obtain ⟨q7, hq7, hT⟩ := q_obind hT
      refine r_backV F hS (r_runV (k := k0) (N := 12) (T := T3) (As := [vI 1]) F hS (Formula_lt hk0) (Formula_sh hk0) rfl (c_Formula_release l F.2.2.1 M k0 1 hk0 (inr_c rfl) _ hq7) gs_Formula_58 hd_Formula_release ⟨Nat.le_of_ble_eq_true rfl, Nat.le_of_ble_eq_true rfl⟩ rfl hl.1 (Nat.le_of_ble_eq_true rfl) ⟨Nat.zero_le _, Nat.zero_le _⟩ rfl d_Formula_readSign_17) (fun H locs hS => ?_)
      refine lv_aload_n F.hx F.hb d_Formula_readSign_20 rfl (lv_at hl 0 rfl) ?_
      refine lv_dup F.hx F.hb d_Formula_readSign_21 rfl ?_
      refine r_get (v := vI (q7.1 k0 6)) (N := 12) (T := T3) (j := 6) F hS (Formula_lt hk0) (Formula_sh hk0) (Formula_N hk0) rfl (Nat.le_of_ble_eq_true rfl) ing3 mw_54 (fv_int rfl) d_Formula_readSign_22 ?_
      have i9 := hS.rng k0 6
      refine r_iconst F.hx F.hb d_Formula_readSign_25 ?_
      refine r_isub F.hx F.hb d_Formula_readSign_26 ?_
      refine r_putI (N := 12) (T := T3) (j := 6) F hS (Formula_lt hk0) (Formula_sh hk0) (Formula_N hk0) rfl (Nat.le_of_ble_eq_true rfl) ing3 tyok3 nm3 rfl rfl rfl rfl rfl (Formula_dyn hk0 _) mw_54 (inr_w32 _) d_Formula_readSign_27 (fun H locs hS => ?_)
      obtain ⟨M10, eM10⟩ : ∃ q, q = (setI q7 k0 6 (w32 ((q7.1 k0 6) - 1))) := ⟨_, rfl⟩
      replace hS : St b C n M10 s H locs := by rw [eM10]; exact hS
      replace hT := qlet_eq hT eM10
      refine lv_aload_n F.hx F.hb d_Formula_readSign_30 rfl (lv_at hl 0 rfl) ?_
      refine lv_dup F.hx F.hb d_Formula_readSign_31 rfl ?_
      refine r_get (v := vI (M10.1 k0 8)) (N := 12) (T := T3) (j := 8) F hS (Formula_lt hk0) (Formula_sh hk0) (Formula_N hk0) rfl (Nat.le_of_ble_eq_true rfl) ing3 mw_57 (fv_int rfl) d_Formula_readSign_32 ?_
      have i11 := hS.rng k0 8
      refine r_iconst F.hx F.hb d_Formula_readSign_35 ?_
      refine r_isub F.hx F.hb d_Formula_readSign_36 ?_
      refine r_putI (N := 12) (T := T3) (j := 8) F hS (Formula_lt hk0) (Formula_sh hk0) (Formula_N hk0) rfl (Nat.le_of_ble_eq_true rfl) ing3 tyok3 nm3 rfl rfl rfl rfl rfl (Formula_dyn hk0 _) mw_57 (inr_w32 _) d_Formula_readSign_37 (fun H locs hS => ?_)
      obtain ⟨M12, eM12⟩ : ∃ q, q = (setI M10 k0 8 (w32 ((M10.1 k0 8) - 1))) := ⟨_, rfl⟩
      replace hS : St b C n M12 s H locs := by rw [eM12]; exact hS
      replace hT := qlet_eq hT eM12
      refine r_iconst F.hx F.hb d_Formula_readSign_40 ?_
      cases hT
      exact r_iret F hlk hr rfl hS (inr_c rfl) d_Formula_readSign_41
    · replace hT := (if_pos c6).symm.trans hT
      refine r_iconst F.hx F.hb d_Formula_readSign_13 ?_
      cases hT
      exact r_iret F hlk hr rfl hS (inr_c rfl) d_Formula_readSign_14
theorem wn_Formula_read_0 : ∀ i, i < 95 → bA b_Formula_read (0 + i) = wB [42, 28, 181, 0, 33, 42, 3, 181, 0, 36, 42, 3, 181, 0, 39, 42, 3, 181, 0, 42, 42, 4, 181, 0, 45, 42, 4, 181, 0, 48, 3, 54, 4, 21, 4, 17, 2, 188, 163, 0, 110, 43, 180, 0, 51, 42, 180, 0, 33, 184, 0, 54, 54, 5, 21, 5, 16, 40, 160, 0, 29, 42, 180, 0, 45, 154, 0, 22, 42, 180, 0, 39, 154, 0, 15, 42, 4, 182, 0, 58, 42, 4, 181, 0, 29, 3, 172, 42, 180, 0, 45, 153, 0, 24, 42] i := wB_of (by decide +kernel)
theorem d_Formula_read_0 : decode b_Formula_read 0 = .ok (.aload_n 0, 1) := dc_42 (q0_win (r := 0) wn_Formula_read_0 (by decide +kernel))
theorem d_Formula_read_1 : decode b_Formula_read 1 = .ok (.iload_n 2, 1) := dc_28 (q0_win (r := 1) wn_Formula_read_0 (by decide +kernel))
theorem d_Formula_read_2 : decode b_Formula_read 2 = .ok (.putfield 33, 3) := dc_181 (qU2_win (r := 2) wn_Formula_read_0 (by decide +kernel))
theorem d_Formula_read_5 : decode b_Formula_read 5 = .ok (.aload_n 0, 1) := dc_42 (q0_win (r := 5) wn_Formula_read_0 (by decide +kernel))
theorem d_Formula_read_6 : decode b_Formula_read 6 = .ok (.iconst 0, 1) := dc_3 (q0_win (r := 6) wn_Formula_read_0 (by decide +kernel))
theorem d_Formula_read_7 : decode b_Formula_read 7 = .ok (.putfield 36, 3) := dc_181 (qU2_win (r := 7) wn_Formula_read_0 (by decide +kernel))
theorem d_Formula_read_10 : decode b_Formula_read 10 = .ok (.aload_n 0, 1) := dc_42 (q0_win (r := 10) wn_Formula_read_0 (by decide +kernel))
theorem d_Formula_read_11 : decode b_Formula_read 11 = .ok (.iconst 0, 1) := dc_3 (q0_win (r := 11) wn_Formula_read_0 (by decide +kernel))
theorem d_Formula_read_12 : decode b_Formula_read 12 = .ok (.putfield 39, 3) := dc_181 (qU2_win (r := 12) wn_Formula_read_0 (by decide +kernel))
theorem d_Formula_read_15 : decode b_Formula_read 15 = .ok (.aload_n 0, 1) := dc_42 (q0_win (r := 15) wn_Formula_read_0 (by decide +kernel))
theorem d_Formula_read_16 : decode b_Formula_read 16 = .ok (.iconst 0, 1) := dc_3 (q0_win (r := 16) wn_Formula_read_0 (by decide +kernel))
theorem d_Formula_read_17 : decode b_Formula_read 17 = .ok (.putfield 42, 3) := dc_181 (qU2_win (r := 17) wn_Formula_read_0 (by decide +kernel))
theorem d_Formula_read_20 : decode b_Formula_read 20 = .ok (.aload_n 0, 1) := dc_42 (q0_win (r := 20) wn_Formula_read_0 (by decide +kernel))
theorem d_Formula_read_21 : decode b_Formula_read 21 = .ok (.iconst 1, 1) := dc_4 (q0_win (r := 21) wn_Formula_read_0 (by decide +kernel))
theorem d_Formula_read_22 : decode b_Formula_read 22 = .ok (.putfield 45, 3) := dc_181 (qU2_win (r := 22) wn_Formula_read_0 (by decide +kernel))
theorem d_Formula_read_25 : decode b_Formula_read 25 = .ok (.aload_n 0, 1) := dc_42 (q0_win (r := 25) wn_Formula_read_0 (by decide +kernel))
theorem d_Formula_read_26 : decode b_Formula_read 26 = .ok (.iconst 1, 1) := dc_4 (q0_win (r := 26) wn_Formula_read_0 (by decide +kernel))
theorem d_Formula_read_27 : decode b_Formula_read 27 = .ok (.putfield 48, 3) := dc_181 (qU2_win (r := 27) wn_Formula_read_0 (by decide +kernel))
theorem d_Formula_read_30 : decode b_Formula_read 30 = .ok (.iconst 0, 1) := dc_3 (q0_win (r := 30) wn_Formula_read_0 (by decide +kernel))
theorem d_Formula_read_31 : decode b_Formula_read 31 = .ok (.istore 4, 2) := dc_54 (qU1_win (r := 31) wn_Formula_read_0 (by decide +kernel))
theorem d_Formula_read_33 : decode b_Formula_read 33 = .ok (.iload 4, 2) := dc_21 (qU1_win (r := 33) wn_Formula_read_0 (by decide +kernel))
theorem d_Formula_read_35 : decode b_Formula_read 35 = .ok (.sipush 700, 3) := dc_17 (qS2_win (r := 35) wn_Formula_read_0 (by decide +kernel))
theorem d_Formula_read_38 : decode b_Formula_read 38 = .ok (.if_icmp .gt 110, 3) := dc_163 (qS2_win (r := 38) wn_Formula_read_0 (by decide +kernel))
theorem d_Formula_read_41 : decode b_Formula_read 41 = .ok (.aload_n 1, 1) := dc_43 (q0_win (r := 41) wn_Formula_read_0 (by decide +kernel))
theorem d_Formula_read_42 : decode b_Formula_read 42 = .ok (.getfield 51, 3) := dc_180 (qU2_win (r := 42) wn_Formula_read_0 (by decide +kernel))
theorem d_Formula_read_45 : decode b_Formula_read 45 = .ok (.aload_n 0, 1) := dc_42 (q0_win (r := 45) wn_Formula_read_0 (by decide +kernel))
theorem d_Formula_read_46 : decode b_Formula_read 46 = .ok (.getfield 33, 3) := dc_180 (qU2_win (r := 46) wn_Formula_read_0 (by decide +kernel))
theorem d_Formula_read_49 : decode b_Formula_read 49 = .ok (.invokestatic 54, 3) := dc_184 (qU2_win (r := 49) wn_Formula_read_0 (by decide +kernel))
theorem d_Formula_read_52 : decode b_Formula_read 52 = .ok (.istore 5, 2) := dc_54 (qU1_win (r := 52) wn_Formula_read_0 (by decide +kernel))
theorem d_Formula_read_54 : decode b_Formula_read 54 = .ok (.iload 5, 2) := dc_21 (qU1_win (r := 54) wn_Formula_read_0 (by decide +kernel))
theorem d_Formula_read_56 : decode b_Formula_read 56 = .ok (.bipush 40, 2) := dc_16 (qS1_win (r := 56) wn_Formula_read_0 (by decide +kernel))
theorem d_Formula_read_58 : decode b_Formula_read 58 = .ok (.if_icmp .ne 29, 3) := dc_160 (qS2_win (r := 58) wn_Formula_read_0 (by decide +kernel))
theorem d_Formula_read_61 : decode b_Formula_read 61 = .ok (.aload_n 0, 1) := dc_42 (q0_win (r := 61) wn_Formula_read_0 (by decide +kernel))
theorem d_Formula_read_62 : decode b_Formula_read 62 = .ok (.getfield 45, 3) := dc_180 (qU2_win (r := 62) wn_Formula_read_0 (by decide +kernel))
theorem d_Formula_read_65 : decode b_Formula_read 65 = .ok (.ifCond .ne 22, 3) := dc_154 (qS2_win (r := 65) wn_Formula_read_0 (by decide +kernel))
theorem d_Formula_read_68 : decode b_Formula_read 68 = .ok (.aload_n 0, 1) := dc_42 (q0_win (r := 68) wn_Formula_read_0 (by decide +kernel))
theorem d_Formula_read_69 : decode b_Formula_read 69 = .ok (.getfield 39, 3) := dc_180 (qU2_win (r := 69) wn_Formula_read_0 (by decide +kernel))
theorem d_Formula_read_72 : decode b_Formula_read 72 = .ok (.ifCond .ne 15, 3) := dc_154 (qS2_win (r := 72) wn_Formula_read_0 (by decide +kernel))
theorem d_Formula_read_75 : decode b_Formula_read 75 = .ok (.aload_n 0, 1) := dc_42 (q0_win (r := 75) wn_Formula_read_0 (by decide +kernel))
theorem d_Formula_read_76 : decode b_Formula_read 76 = .ok (.iconst 1, 1) := dc_4 (q0_win (r := 76) wn_Formula_read_0 (by decide +kernel))
theorem d_Formula_read_77 : decode b_Formula_read 77 = .ok (.invokevirtual 58, 3) := dc_182 (qU2_win (r := 77) wn_Formula_read_0 (by decide +kernel))
theorem d_Formula_read_80 : decode b_Formula_read 80 = .ok (.aload_n 0, 1) := dc_42 (q0_win (r := 80) wn_Formula_read_0 (by decide +kernel))
theorem d_Formula_read_81 : decode b_Formula_read 81 = .ok (.iconst 1, 1) := dc_4 (q0_win (r := 81) wn_Formula_read_0 (by decide +kernel))
theorem d_Formula_read_82 : decode b_Formula_read 82 = .ok (.putfield 29, 3) := dc_181 (qU2_win (r := 82) wn_Formula_read_0 (by decide +kernel))
theorem d_Formula_read_85 : decode b_Formula_read 85 = .ok (.iconst 0, 1) := dc_3 (q0_win (r := 85) wn_Formula_read_0 (by decide +kernel))
theorem d_Formula_read_86 : decode b_Formula_read 86 = .ok (.ireturn, 1) := dc_172 (q0_win (r := 86) wn_Formula_read_0 (by decide +kernel))
theorem d_Formula_read_87 : decode b_Formula_read 87 = .ok (.aload_n 0, 1) := dc_42 (q0_win (r := 87) wn_Formula_read_0 (by decide +kernel))
theorem d_Formula_read_88 : decode b_Formula_read 88 = .ok (.getfield 45, 3) := dc_180 (qU2_win (r := 88) wn_Formula_read_0 (by decide +kernel))
theorem d_Formula_read_91 : decode b_Formula_read 91 = .ok (.ifCond .eq 24, 3) := dc_153 (qS2_win (r := 91) wn_Formula_read_0 (by decide +kernel))
theorem d_Formula_read_94 : decode b_Formula_read 94 = .ok (.aload_n 0, 1) := dc_42 (q0_win (r := 94) wn_Formula_read_0 (by decide +kernel))
theorem wn_Formula_read_95 : ∀ i, i < 55 → bA b_Formula_read (95 + i) = wB [21, 5, 43, 180, 0, 62, 42, 180, 0, 33, 184, 0, 54, 45, 182, 0, 65, 167, 0, 10, 42, 21, 5, 45, 182, 0, 69, 54, 6, 21, 6, 153, 0, 6, 21, 6, 172, 42, 89, 180, 0, 33, 4, 96, 181, 0, 33, 132, 4, 1, 167, 255, 144, 4, 172] i := wB_of (by decide +kernel)
theorem d_Formula_read_95 : decode b_Formula_read 95 = .ok (.iload 5, 2) := dc_21 (qU1_win (r := 0) wn_Formula_read_95 (by decide +kernel))
theorem d_Formula_read_97 : decode b_Formula_read 97 = .ok (.aload_n 1, 1) := dc_43 (q0_win (r := 2) wn_Formula_read_95 (by decide +kernel))
theorem d_Formula_read_98 : decode b_Formula_read 98 = .ok (.getfield 62, 3) := dc_180 (qU2_win (r := 3) wn_Formula_read_95 (by decide +kernel))
theorem d_Formula_read_101 : decode b_Formula_read 101 = .ok (.aload_n 0, 1) := dc_42 (q0_win (r := 6) wn_Formula_read_95 (by decide +kernel))
theorem d_Formula_read_102 : decode b_Formula_read 102 = .ok (.getfield 33, 3) := dc_180 (qU2_win (r := 7) wn_Formula_read_95 (by decide +kernel))
theorem d_Formula_read_105 : decode b_Formula_read 105 = .ok (.invokestatic 54, 3) := dc_184 (qU2_win (r := 10) wn_Formula_read_95 (by decide +kernel))
theorem d_Formula_read_108 : decode b_Formula_read 108 = .ok (.aload_n 3, 1) := dc_45 (q0_win (r := 13) wn_Formula_read_95 (by decide +kernel))
theorem d_Formula_read_109 : decode b_Formula_read 109 = .ok (.invokevirtual 65, 3) := dc_182 (qU2_win (r := 14) wn_Formula_read_95 (by decide +kernel))
theorem d_Formula_read_112 : decode b_Formula_read 112 = .ok (.goto 10, 3) := dc_167 (qS2_win (r := 17) wn_Formula_read_95 (by decide +kernel))
theorem d_Formula_read_115 : decode b_Formula_read 115 = .ok (.aload_n 0, 1) := dc_42 (q0_win (r := 20) wn_Formula_read_95 (by decide +kernel))
theorem d_Formula_read_116 : decode b_Formula_read 116 = .ok (.iload 5, 2) := dc_21 (qU1_win (r := 21) wn_Formula_read_95 (by decide +kernel))
theorem d_Formula_read_118 : decode b_Formula_read 118 = .ok (.aload_n 3, 1) := dc_45 (q0_win (r := 23) wn_Formula_read_95 (by decide +kernel))
theorem d_Formula_read_119 : decode b_Formula_read 119 = .ok (.invokevirtual 69, 3) := dc_182 (qU2_win (r := 24) wn_Formula_read_95 (by decide +kernel))
theorem d_Formula_read_122 : decode b_Formula_read 122 = .ok (.istore 6, 2) := dc_54 (qU1_win (r := 27) wn_Formula_read_95 (by decide +kernel))
theorem d_Formula_read_124 : decode b_Formula_read 124 = .ok (.iload 6, 2) := dc_21 (qU1_win (r := 29) wn_Formula_read_95 (by decide +kernel))
theorem d_Formula_read_126 : decode b_Formula_read 126 = .ok (.ifCond .eq 6, 3) := dc_153 (qS2_win (r := 31) wn_Formula_read_95 (by decide +kernel))
theorem d_Formula_read_129 : decode b_Formula_read 129 = .ok (.iload 6, 2) := dc_21 (qU1_win (r := 34) wn_Formula_read_95 (by decide +kernel))
theorem d_Formula_read_131 : decode b_Formula_read 131 = .ok (.ireturn, 1) := dc_172 (q0_win (r := 36) wn_Formula_read_95 (by decide +kernel))
theorem d_Formula_read_132 : decode b_Formula_read 132 = .ok (.aload_n 0, 1) := dc_42 (q0_win (r := 37) wn_Formula_read_95 (by decide +kernel))
theorem d_Formula_read_133 : decode b_Formula_read 133 = .ok (.dup, 1) := dc_89 (q0_win (r := 38) wn_Formula_read_95 (by decide +kernel))
theorem d_Formula_read_134 : decode b_Formula_read 134 = .ok (.getfield 33, 3) := dc_180 (qU2_win (r := 39) wn_Formula_read_95 (by decide +kernel))
theorem d_Formula_read_137 : decode b_Formula_read 137 = .ok (.iconst 1, 1) := dc_4 (q0_win (r := 42) wn_Formula_read_95 (by decide +kernel))
theorem d_Formula_read_138 : decode b_Formula_read 138 = .ok (.iadd, 1) := dc_96 (q0_win (r := 43) wn_Formula_read_95 (by decide +kernel))
theorem d_Formula_read_139 : decode b_Formula_read 139 = .ok (.putfield 33, 3) := dc_181 (qU2_win (r := 44) wn_Formula_read_95 (by decide +kernel))
theorem d_Formula_read_142 : decode b_Formula_read 142 = .ok (.iinc 4 1, 3) := dc_132 (qI_win (r := 47) wn_Formula_read_95 (by decide +kernel))
theorem d_Formula_read_145 : decode b_Formula_read 145 = .ok (.goto (-112), 3) := dc_167 (qS2_win (r := 50) wn_Formula_read_95 (by decide +kernel))
theorem d_Formula_read_148 : decode b_Formula_read 148 = .ok (.iconst 1, 1) := dc_4 (q0_win (r := 53) wn_Formula_read_95 (by decide +kernel))
theorem d_Formula_read_149 : decode b_Formula_read 149 = .ok (.ireturn, 1) := dc_172 (q0_win (r := 54) wn_Formula_read_95 (by decide +kernel))
def t_Formula_read_L122 (k0 : Nat) (x2 : Int) (k3 : Nat) (bk33 : Mem → Int → Option (Mem × Int)) (M : Mem) (v3_ : Int) (v4_ : Int) : Option (Mem × Int) := (if v4_ = 0 then (qlet (setI M k0 7 (w32 ((M.1 k0 7) + 1))) fun M30 => (bk33 M30 (w32 (v3_ + 1)))) else (some (M, v4_)))
def t_Formula_read_L87 (k0 : Nat) (x2 : Int) (k3 : Nat) (bk33 : Mem → Int → Option (Mem × Int)) (M : Mem) (v3_ : Int) (v4_ : Int) : Option (Mem × Int) := (if (M.1 k0 10) = 0 then (obind (t_Formula_readSign M k0 v4_ k3) fun q21 => (t_Formula_read_L122 k0 x2 k3 bk33 (q21.1) v3_ (q21.2))) else (qlet (t_WF_look M 44 701 (M.1 k0 7)) fun q24 => (qlet (t_Formula_readPart M k0 v4_ q24 k3) fun q26 => (t_Formula_read_L122 k0 x2 k3 bk33 (q26.1) v3_ (q26.2)))))
def t_Formula_read_L33 (k0 : Nat) (x2 : Int) (k3 : Nat)  : Nat → Mem → Int → Option (Mem × Int)
  | 0, _, _ => none
  | fu + 1, M, v3_ => (if 700 < v3_ then (some (M, 1)) else (qlet (t_WF_look M 43 701 (M.1 k0 7)) fun q9 => (if q9 = 40 then (if (M.1 k0 10) = 0 then (if (M.1 k0 8) = 0 then (obind (t_Formula_release M k0 1) fun q16 => (qlet (setI q16 k0 4 1) fun M18 => (some (M18, 0)))) else (t_Formula_read_L87 k0 x2 k3 (fun a0_ a1_ => t_Formula_read_L33 k0 x2 k3 fu a0_ a1_) M v3_ q9)) else (t_Formula_read_L87 k0 x2 k3 (fun a0_ a1_ => t_Formula_read_L33 k0 x2 k3 fu a0_ a1_) M v3_ q9)) else (t_Formula_read_L87 k0 x2 k3 (fun a0_ a1_ => t_Formula_read_L33 k0 x2 k3 fu a0_ a1_) M v3_ q9))))
def t_Formula_read (M : Mem) (k0 : Nat) (x2 : Int) (k3 : Nat) : Option (Mem × Int) := (qlet (setI M k0 7 x2) fun M1 => (qlet (setI M1 k0 6 0) fun M2 => (qlet (setI M2 k0 8 0) fun M3 => (qlet (setI M3 k0 9 0) fun M4 => (qlet (setI M4 k0 10 1) fun M5 => (qlet (setI M5 k0 11 1) fun M6 => (t_Formula_read_L33 k0 x2 k3 FU M6 0)))))))
set_option maxHeartbeats 4000000 in
set_option maxRecDepth 100000 in
theorem k_Formula_read_L122 (l : Launch) {p : Program} {e : Env} {s : State} {m : MethodId} {below : List Frame} {meth : Method} {c : Code} {b n : Nat} {C : CT} (hlo : 191 ≤ n) (k0 : Nat) (x2 : Int) (k3 : Nat) (hk0 : isFormula k0) (hx2 : InR x2) (hk3 : isTown k3) (F : Cx b p m c b_Formula_read 7 s ([.ref (b + k0), .ref (b + 42), vI x2, .ref (b + k3)] : List Value).toArray "WardFalls$Formula" C n 191) (hlk : meth.locks = false) (hr : meth.sig.returnType = some .int) {res : Mem × Int} (bk33 : Mem → Int → Option (Mem × Int)) (hbk33 : ∀ (M : Mem) (v3_ : Int) (hv3_ : InR v3_) (H : Heap) (locs : List Loc) (ls : Array Slot), St b C n M s H locs → lv_has ls 7 [(0, .ref (b + k0)), (1, .ref (b + 42)), (3, .ref (b + k3)), (4, vI v3_)] → bk33 M v3_ = some res → W p l e (headSpec (wsM y_Formula_read b_Formula_read 7 (some .int)) (rmD 4)).room s m ([.ref (b + k0), .ref (b + 42), vI x2, .ref (b + k3)] : List Value).toArray below meth c H locs 0 0 (MQ below (QI b C n res.1 res.2) ([.ref (b + k0), .ref (b + 42), vI x2, .ref (b + k3)] : List Value).toArray s 0 0 (frb b)) (F0 m 33 ls [])) (M : Mem) (v3_ : Int) (hv3_ : InR v3_) (v4_ : Int) (hv4_ : InR v4_) (H : Heap) (locs : List Loc) (ls : Array Slot) (hS : St b C n M s H locs) (hl : lv_has ls 7 [(0, .ref (b + k0)), (1, .ref (b + 42)), (3, .ref (b + k3)), (4, vI v3_)]) (hT : t_Formula_read_L122 k0 x2 k3 bk33 M v3_ v4_ = some res) : W p l e (headSpec (wsM y_Formula_read b_Formula_read 7 (some .int)) (rmD 4)).room s m ([.ref (b + k0), .ref (b + 42), vI x2, .ref (b + k3)] : List Value).toArray below meth c H locs 0 0 (MQ below (QI b C n res.1 res.2) ([.ref (b + k0), .ref (b + 42), vI x2, .ref (b + k3)] : List Value).toArray s 0 0 (frb b)) (F0 m 122 ls [vI v4_]) := by
  unfold t_Formula_read_L122 at hT
  refine lv_istore (lv' := [(6, vI v4_), (0, .ref (b + k0)), (1, .ref (b + 42)), (3, .ref (b + k3)), (4, vI v3_)]) F.hx F.hb d_Formula_read_122 hl (Nat.le_of_ble_eq_true rfl) rfl (fun ls hl => ?_)
  refine lv_iload F.hx F.hb d_Formula_read_124 (lv_at hl 0 rfl) ?_
  refine r_if_eq (tgt := 132) F.hx F.hb hv4_ d_Formula_read_126 (by decide) (fun c28 => ?_) (fun c28 => ?_)
  · replace hT := (if_pos c28).symm.trans hT
    refine lv_aload_n F.hx F.hb d_Formula_read_132 rfl (lv_at hl 1 rfl) ?_
    refine lv_dup F.hx F.hb d_Formula_read_133 rfl ?_
    refine r_get (v := vI (M.1 k0 7)) (N := 12) (T := T3) (j := 7) F hS (Formula_lt hk0) (Formula_sh hk0) (Formula_N hk0) rfl (Nat.le_of_ble_eq_true rfl) ing3 mw_55 (fv_int rfl) d_Formula_read_134 ?_
    have i29 := hS.rng k0 7
    refine r_iconst F.hx F.hb d_Formula_read_137 ?_
    refine r_iadd F.hx F.hb d_Formula_read_138 ?_
    refine r_putI (N := 12) (T := T3) (j := 7) F hS (Formula_lt hk0) (Formula_sh hk0) (Formula_N hk0) rfl (Nat.le_of_ble_eq_true rfl) ing3 tyok3 nm3 rfl rfl rfl rfl rfl (Formula_dyn hk0 _) mw_55 (inr_w32 _) d_Formula_read_139 (fun H locs hS => ?_)
    obtain ⟨M30, eM30⟩ : ∃ q, q = (setI M k0 7 (w32 ((M.1 k0 7) + 1))) := ⟨_, rfl⟩
    replace hS : St b C n M30 s H locs := by rw [eM30]; exact hS
    replace hT := qlet_eq hT eM30
    refine lv_iinc (v := Int32.ofInt (w32 (v3_ + 1))) (lv' := [(4, vI (w32 (v3_ + 1))), (6, vI v4_), (0, .ref (b + k0)), (1, .ref (b + 42)), (3, .ref (b + k3))]) F.hx F.hb d_Formula_read_142 hl (k := 4) rfl (q_of_add _ _) (Nat.le_of_ble_eq_true rfl) rfl (fun ls hl => ?_)
    refine lv_goto (tgt := 33) F.hx F.hb d_Formula_read_145 (by decide) ?_
    exact hbk33 M30 (w32 (v3_ + 1)) (inr_w32 _) _ _ _ hS (lv_sub hl [2, 3, 4, 0] rfl) hT
  · replace hT := (if_neg c28).symm.trans hT
    refine lv_iload F.hx F.hb d_Formula_read_129 (lv_at hl 0 rfl) ?_
    cases hT
    exact r_iret F hlk hr rfl hS hv4_ d_Formula_read_131
set_option maxHeartbeats 4000000 in
set_option maxRecDepth 100000 in
theorem k_Formula_read_L87 (l : Launch) {p : Program} {e : Env} {s : State} {m : MethodId} {below : List Frame} {meth : Method} {c : Code} {b n : Nat} {C : CT} (hlo : 191 ≤ n) (k0 : Nat) (x2 : Int) (k3 : Nat) (hk0 : isFormula k0) (hx2 : InR x2) (hk3 : isTown k3) (F : Cx b p m c b_Formula_read 7 s ([.ref (b + k0), .ref (b + 42), vI x2, .ref (b + k3)] : List Value).toArray "WardFalls$Formula" C n 191) (hlk : meth.locks = false) (hr : meth.sig.returnType = some .int) {res : Mem × Int} (bk33 : Mem → Int → Option (Mem × Int)) (hbk33 : ∀ (M : Mem) (v3_ : Int) (hv3_ : InR v3_) (H : Heap) (locs : List Loc) (ls : Array Slot), St b C n M s H locs → lv_has ls 7 [(0, .ref (b + k0)), (1, .ref (b + 42)), (3, .ref (b + k3)), (4, vI v3_)] → bk33 M v3_ = some res → W p l e (headSpec (wsM y_Formula_read b_Formula_read 7 (some .int)) (rmD 4)).room s m ([.ref (b + k0), .ref (b + 42), vI x2, .ref (b + k3)] : List Value).toArray below meth c H locs 0 0 (MQ below (QI b C n res.1 res.2) ([.ref (b + k0), .ref (b + 42), vI x2, .ref (b + k3)] : List Value).toArray s 0 0 (frb b)) (F0 m 33 ls [])) (M : Mem) (v3_ : Int) (hv3_ : InR v3_) (v4_ : Int) (hv4_ : InR v4_) (H : Heap) (locs : List Loc) (ls : Array Slot) (hS : St b C n M s H locs) (hl : lv_has ls 7 [(0, .ref (b + k0)), (1, .ref (b + 42)), (3, .ref (b + k3)), (4, vI v3_), (5, vI v4_)]) (hT : t_Formula_read_L87 k0 x2 k3 bk33 M v3_ v4_ = some res) : W p l e (headSpec (wsM y_Formula_read b_Formula_read 7 (some .int)) (rmD 4)).room s m ([.ref (b + k0), .ref (b + 42), vI x2, .ref (b + k3)] : List Value).toArray below meth c H locs 0 0 (MQ below (QI b C n res.1 res.2) ([.ref (b + k0), .ref (b + 42), vI x2, .ref (b + k3)] : List Value).toArray s 0 0 (frb b)) (F0 m 87 ls []) := by
  unfold t_Formula_read_L87 at hT
  refine lv_aload_n F.hx F.hb d_Formula_read_87 rfl (lv_at hl 0 rfl) ?_
  refine r_get (v := vI (M.1 k0 10)) (N := 12) (T := T3) (j := 10) F hS (Formula_lt hk0) (Formula_sh hk0) (Formula_N hk0) rfl (Nat.le_of_ble_eq_true rfl) ing3 mw_59 (fv_int rfl) d_Formula_read_88 ?_
  have i19 := hS.rng k0 10
  refine r_if_eq (tgt := 115) F.hx F.hb i19 d_Formula_read_91 (by decide) (fun c20 => ?_) (fun c20 => ?_)
  · replace hT := (if_pos c20).symm.trans hT
    refine lv_aload_n F.hx F.hb d_Formula_read_115 rfl (lv_at hl 0 rfl) ?_
    refine lv_iload F.hx F.hb d_Formula_read_116 (lv_at hl 4 rfl) ?_
    refine lv_aload_n F.hx F.hb d_Formula_read_118 rfl (lv_at hl 2 rfl) ?_
    obtain ⟨q21, hq21, hT⟩ := q_obind hT
    refine r_backI F hS (r_runV (k := k0) (N := 12) (T := T3) (As := [vI v4_, .ref (b + k3)]) F hS (Formula_lt hk0) (Formula_sh hk0) rfl (c_Formula_readSign l F.2.2.1 M k0 v4_ k3 hk0 hv4_ hk3 _ hq21) gs_Formula_69 hd_Formula_readSign ⟨Nat.le_of_ble_eq_true rfl, Nat.le_of_ble_eq_true rfl⟩ rfl hl.1 (Nat.le_of_ble_eq_true rfl) ⟨Nat.zero_le _, Nat.zero_le _⟩ rfl d_Formula_read_119) (fun H locs hS h22 => ?_)
    exact k_Formula_read_L122 l hlo k0 x2 k3 hk0 hx2 hk3 F hlk hr bk33 hbk33 (q21.1) v3_ hv3_ (q21.2) h22 _ _ _ hS (lv_sub hl [0, 1, 2, 3] rfl) hT
  · replace hT := (if_neg c20).symm.trans hT
    refine lv_aload_n F.hx F.hb d_Formula_read_94 rfl (lv_at hl 0 rfl) ?_
    refine lv_iload F.hx F.hb d_Formula_read_95 (lv_at hl 4 rfl) ?_
    refine lv_aload_n F.hx F.hb d_Formula_read_97 rfl (lv_at hl 1 rfl) ?_
    refine r_get (v := .ref (b + 44)) (N := 4) (T := T10) (j := 1) F hS (show 42 < 191 by decide) (show shK 42 = 14 from rfl) (show shN 42 = 4 from rfl) rfl (Nat.le_of_ble_eq_true rfl) ing10 mw_210 (fv_sg rfl rfl rfl) d_Formula_read_98 ?_
    refine lv_aload_n F.hx F.hb d_Formula_read_101 rfl (lv_at hl 0 rfl) ?_
    refine r_get (v := vI (M.1 k0 7)) (N := 12) (T := T3) (j := 7) F hS (Formula_lt hk0) (Formula_sh hk0) (Formula_N hk0) rfl (Nat.le_of_ble_eq_true rfl) ing3 mw_55 (fv_int rfl) d_Formula_read_102 ?_
    have i23 := hS.rng k0 7
    obtain ⟨q24, hq24⟩ : ∃ q, q = (t_WF_look M 44 701 (M.1 k0 7)) := ⟨_, rfl⟩
    replace hT := qlet_eq hT hq24
    refine r_backI F hS (r_runSN (As := [.ref (b + 44), vI (M.1 k0 7)]) F hS (c_WF_look l F.2.2.1 M 44 701 (M.1 k0 7) (show arrP 0 44 701 191 from ⟨rfl, rfl, by decide⟩) i23 _ hq24.symm) mw_519 mw_518 mw_1 gs_Formula_54 hd_WF_look ⟨Nat.le_of_ble_eq_true rfl, Nat.le_of_ble_eq_true rfl⟩ rfl hl.1 (Nat.le_of_ble_eq_true rfl) ⟨Nat.zero_le _, Nat.zero_le _⟩ rfl d_Formula_read_105) (fun H locs hS h25 => ?_)
    refine lv_aload_n F.hx F.hb d_Formula_read_108 rfl (lv_at hl 2 rfl) ?_
    obtain ⟨q26, hq26⟩ : ∃ q, q = (t_Formula_readPart M k0 v4_ q24 k3) := ⟨_, rfl⟩
    replace hT := qlet_eq hT hq26
    refine r_backI F hS (r_runV (k := k0) (N := 12) (T := T3) (As := [vI v4_, vI q24, .ref (b + k3)]) F hS (Formula_lt hk0) (Formula_sh hk0) rfl (c_Formula_readPart l F.2.2.1 M k0 v4_ q24 k3 hk0 hv4_ h25 hk3 _ hq26.symm) gs_Formula_65 hd_Formula_readPart ⟨Nat.le_of_ble_eq_true rfl, Nat.le_of_ble_eq_true rfl⟩ rfl hl.1 (Nat.le_of_ble_eq_true rfl) ⟨Nat.zero_le _, Nat.zero_le _⟩ rfl d_Formula_read_109) (fun H locs hS h27 => ?_)
    refine lv_goto (tgt := 122) F.hx F.hb d_Formula_read_112 (by decide) ?_
    exact k_Formula_read_L122 l hlo k0 x2 k3 hk0 hx2 hk3 F hlk hr bk33 hbk33 (q26.1) v3_ hv3_ (q26.2) h27 _ _ _ hS (lv_sub hl [0, 1, 2, 3] rfl) hT
set_option maxHeartbeats 4000000 in
set_option maxRecDepth 100000 in
theorem k_Formula_read_L33 (l : Launch) {p : Program} {e : Env} {s : State} {m : MethodId} {below : List Frame} {meth : Method} {c : Code} {b n : Nat} {C : CT} (hlo : 191 ≤ n) (k0 : Nat) (x2 : Int) (k3 : Nat) (hk0 : isFormula k0) (hx2 : InR x2) (hk3 : isTown k3) (F : Cx b p m c b_Formula_read 7 s ([.ref (b + k0), .ref (b + 42), vI x2, .ref (b + k3)] : List Value).toArray "WardFalls$Formula" C n 191) (hlk : meth.locks = false) (hr : meth.sig.returnType = some .int) {res : Mem × Int} : ∀ (fu : Nat) (M : Mem) (v3_ : Int) (hv3_ : InR v3_) (H : Heap) (locs : List Loc) (ls : Array Slot), St b C n M s H locs → lv_has ls 7 [(0, .ref (b + k0)), (1, .ref (b + 42)), (3, .ref (b + k3)), (4, vI v3_)] → t_Formula_read_L33 k0 x2 k3 fu M v3_ = some res → W p l e (headSpec (wsM y_Formula_read b_Formula_read 7 (some .int)) (rmD 4)).room s m ([.ref (b + k0), .ref (b + 42), vI x2, .ref (b + k3)] : List Value).toArray below meth c H locs 0 0 (MQ below (QI b C n res.1 res.2) ([.ref (b + k0), .ref (b + 42), vI x2, .ref (b + k3)] : List Value).toArray s 0 0 (frb b)) (F0 m 33 ls []) := by
  intro fu
  induction fu with
  | zero => intro M v3_ hv3_ H locs ls hS hl hT; exact absurd hT (by simp [t_Formula_read_L33])
  | succ fu ih =>
    intro M v3_ hv3_ H locs ls hS hl hT
    rw [t_Formula_read_L33] at hT
    refine lv_iload F.hx F.hb d_Formula_read_33 (lv_at hl 3 rfl) ?_
    refine r_sipush F.hx F.hb d_Formula_read_35 rfl ?_
    refine r_icmp_gt (tgt := 148) F.hx F.hb hv3_ (inr_c rfl) d_Formula_read_38 (by decide) (fun c7 => ?_) (fun c7 => ?_)
    · replace hT := (if_pos c7).symm.trans hT
      refine r_iconst F.hx F.hb d_Formula_read_148 ?_
      cases hT
      exact r_iret F hlk hr rfl hS (inr_c rfl) d_Formula_read_149
    · replace hT := (if_neg c7).symm.trans hT
      refine lv_aload_n F.hx F.hb d_Formula_read_41 rfl (lv_at hl 1 rfl) ?_
      refine r_get (v := .ref (b + 43)) (N := 4) (T := T10) (j := 0) F hS (show 42 < 191 by decide) (show shK 42 = 14 from rfl) (show shN 42 = 4 from rfl) rfl (Nat.le_of_ble_eq_true rfl) ing10 mw_207 (fv_sg rfl rfl rfl) d_Formula_read_42 ?_
      refine lv_aload_n F.hx F.hb d_Formula_read_45 rfl (lv_at hl 0 rfl) ?_
      refine r_get (v := vI (M.1 k0 7)) (N := 12) (T := T3) (j := 7) F hS (Formula_lt hk0) (Formula_sh hk0) (Formula_N hk0) rfl (Nat.le_of_ble_eq_true rfl) ing3 mw_55 (fv_int rfl) d_Formula_read_46 ?_
      have i8 := hS.rng k0 7
      obtain ⟨q9, hq9⟩ : ∃ q, q = (t_WF_look M 43 701 (M.1 k0 7)) := ⟨_, rfl⟩
      replace hT := qlet_eq hT hq9
      refine r_backI F hS (r_runSN (As := [.ref (b + 43), vI (M.1 k0 7)]) F hS (c_WF_look l F.2.2.1 M 43 701 (M.1 k0 7) (show arrP 0 43 701 191 from ⟨rfl, rfl, by decide⟩) i8 _ hq9.symm) mw_519 mw_518 mw_1 gs_Formula_54 hd_WF_look ⟨Nat.le_of_ble_eq_true rfl, Nat.le_of_ble_eq_true rfl⟩ rfl hl.1 (Nat.le_of_ble_eq_true rfl) ⟨Nat.zero_le _, Nat.zero_le _⟩ rfl d_Formula_read_49) (fun H locs hS h10 => ?_)
      refine lv_istore (lv' := [(5, vI q9), (0, .ref (b + k0)), (1, .ref (b + 42)), (3, .ref (b + k3)), (4, vI v3_)]) F.hx F.hb d_Formula_read_52 hl (Nat.le_of_ble_eq_true rfl) rfl (fun ls hl => ?_)
      refine lv_iload F.hx F.hb d_Formula_read_54 (lv_at hl 0 rfl) ?_
      refine r_bipush F.hx F.hb d_Formula_read_56 rfl ?_
      refine r_icmp_ne (tgt := 87) F.hx F.hb h10 (inr_c rfl) d_Formula_read_58 (by decide) (fun c11 => ?_) (fun c11 => ?_)
      · replace hT := (if_neg c11).symm.trans hT
        exact k_Formula_read_L87 l hlo k0 x2 k3 hk0 hx2 hk3 F hlk hr (fun a0_ a1_ => t_Formula_read_L33 k0 x2 k3 fu a0_ a1_) ih M v3_ hv3_ q9 h10 _ _ _ hS (lv_sub hl [1, 2, 3, 4, 0] rfl) hT
      · replace hT := (if_pos c11).symm.trans hT
        refine lv_aload_n F.hx F.hb d_Formula_read_61 rfl (lv_at hl 1 rfl) ?_
        refine r_get (v := vI (M.1 k0 10)) (N := 12) (T := T3) (j := 10) F hS (Formula_lt hk0) (Formula_sh hk0) (Formula_N hk0) rfl (Nat.le_of_ble_eq_true rfl) ing3 mw_59 (fv_int rfl) d_Formula_read_62 ?_
        have i12 := hS.rng k0 10
        refine r_if_ne (tgt := 87) F.hx F.hb i12 d_Formula_read_65 (by decide) (fun c13 => ?_) (fun c13 => ?_)
        · replace hT := (if_neg c13).symm.trans hT
          exact k_Formula_read_L87 l hlo k0 x2 k3 hk0 hx2 hk3 F hlk hr (fun a0_ a1_ => t_Formula_read_L33 k0 x2 k3 fu a0_ a1_) ih M v3_ hv3_ q9 h10 _ _ _ hS (lv_sub hl [1, 2, 3, 4, 0] rfl) hT
        · replace hT := (if_pos c13).symm.trans hT
          refine lv_aload_n F.hx F.hb d_Formula_read_68 rfl (lv_at hl 1 rfl) ?_
          refine r_get (v := vI (M.1 k0 8)) (N := 12) (T := T3) (j := 8) F hS (Formula_lt hk0) (Formula_sh hk0) (Formula_N hk0) rfl (Nat.le_of_ble_eq_true rfl) ing3 mw_57 (fv_int rfl) d_Formula_read_69 ?_
          have i14 := hS.rng k0 8
          refine r_if_ne (tgt := 87) F.hx F.hb i14 d_Formula_read_72 (by decide) (fun c15 => ?_) (fun c15 => ?_)
          · replace hT := (if_neg c15).symm.trans hT
            exact k_Formula_read_L87 l hlo k0 x2 k3 hk0 hx2 hk3 F hlk hr (fun a0_ a1_ => t_Formula_read_L33 k0 x2 k3 fu a0_ a1_) ih M v3_ hv3_ q9 h10 _ _ _ hS (lv_sub hl [1, 2, 3, 4, 0] rfl) hT
          · replace hT := (if_pos c15).symm.trans hT
            refine lv_aload_n F.hx F.hb d_Formula_read_75 rfl (lv_at hl 1 rfl) ?_
            refine r_iconst F.hx F.hb d_Formula_read_76 ?_
            obtain ⟨q16, hq16, hT⟩ := q_obind hT
            refine r_backV F hS (r_runV (k := k0) (N := 12) (T := T3) (As := [vI 1]) F hS (Formula_lt hk0) (Formula_sh hk0) rfl (c_Formula_release l F.2.2.1 M k0 1 hk0 (inr_c rfl) _ hq16) gs_Formula_58 hd_Formula_release ⟨Nat.le_of_ble_eq_true rfl, Nat.le_of_ble_eq_true rfl⟩ rfl hl.1 (Nat.le_of_ble_eq_true rfl) ⟨Nat.zero_le _, Nat.zero_le _⟩ rfl d_Formula_read_77) (fun H locs hS => ?_)
            refine lv_aload_n F.hx F.hb d_Formula_read_80 rfl (lv_at hl 1 rfl) ?_
            refine r_iconst F.hx F.hb d_Formula_read_81 ?_
            refine r_putI (N := 12) (T := T3) (j := 4) F hS (Formula_lt hk0) (Formula_sh hk0) (Formula_N hk0) rfl (Nat.le_of_ble_eq_true rfl) ing3 tyok3 nm3 rfl rfl (nar_z (Or.inr rfl)) (fit_z (Or.inr rfl)) rfl (Formula_dyn hk0 _) mw_51 (inr_c rfl) d_Formula_read_82 (fun H locs hS => ?_)
            obtain ⟨M18, eM18⟩ : ∃ q, q = (setI q16 k0 4 1) := ⟨_, rfl⟩
            replace hS : St b C n M18 s H locs := by rw [eM18]; exact hS
            replace hT := qlet_eq hT eM18
            refine r_iconst F.hx F.hb d_Formula_read_85 ?_
            cases hT
            exact r_iret F hlk hr rfl hS (inr_c rfl) d_Formula_read_86
set_option maxHeartbeats 4000000 in
set_option maxRecDepth 100000 in
theorem c_Formula_read (l : Launch) {b n : Nat} {C : CT} (hlo : 191 ≤ n) (M : Mem) (k0 : Nat) (x2 : Int) (k3 : Nat) (hk0 : isFormula k0) (hx2 : InR x2) (hk3 : isTown k3) (res : Mem × Int) (hT : t_Formula_read M k0 x2 k3 = some res) : CM l b C n 4 y_Formula_read b_Formula_read 7 (some .int) [.ref (b + k0), .ref (b + 42), vI x2, .ref (b + k3)] M (QI b C n res.1 res.2) := by
  refine CM.of (lo := 191) (ow := "WardFalls$Formula") (by decide) rfl (Nat.le_of_ble_eq_true rfl) hlo (fun p e s m below meth c F hlk hr hS ls hl => ?_)
  have hl : lv_has ls 7 [(0, .ref (b + k0)), (1, .ref (b + 42)), (2, vI x2), (3, .ref (b + k3))] := hl
  unfold t_Formula_read at hT
  refine lv_aload_n F.hx F.hb d_Formula_read_0 rfl (lv_at hl 0 rfl) ?_
  refine lv_iload_n F.hx F.hb d_Formula_read_1 rfl (lv_at hl 2 rfl) ?_
  refine r_putI (N := 12) (T := T3) (j := 7) F hS (Formula_lt hk0) (Formula_sh hk0) (Formula_N hk0) rfl (Nat.le_of_ble_eq_true rfl) ing3 tyok3 nm3 rfl rfl rfl rfl rfl (Formula_dyn hk0 _) mw_55 hx2 d_Formula_read_2 (fun H locs hS => ?_)
  obtain ⟨M1, eM1⟩ : ∃ q, q = (setI M k0 7 x2) := ⟨_, rfl⟩
  replace hS : St b C n M1 s H locs := by rw [eM1]; exact hS
  replace hT := qlet_eq hT eM1
  refine lv_aload_n F.hx F.hb d_Formula_read_5 rfl (lv_at hl 0 rfl) ?_
  refine r_iconst F.hx F.hb d_Formula_read_6 ?_
  refine r_putI (N := 12) (T := T3) (j := 6) F hS (Formula_lt hk0) (Formula_sh hk0) (Formula_N hk0) rfl (Nat.le_of_ble_eq_true rfl) ing3 tyok3 nm3 rfl rfl rfl rfl rfl (Formula_dyn hk0 _) mw_54 (inr_c rfl) d_Formula_read_7 (fun H locs hS => ?_)
  obtain ⟨M2, eM2⟩ : ∃ q, q = (setI M1 k0 6 0) := ⟨_, rfl⟩
  replace hS : St b C n M2 s H locs := by rw [eM2]; exact hS
  replace hT := qlet_eq hT eM2
  refine lv_aload_n F.hx F.hb d_Formula_read_10 rfl (lv_at hl 0 rfl) ?_
  refine r_iconst F.hx F.hb d_Formula_read_11 ?_
  refine r_putI (N := 12) (T := T3) (j := 8) F hS (Formula_lt hk0) (Formula_sh hk0) (Formula_N hk0) rfl (Nat.le_of_ble_eq_true rfl) ing3 tyok3 nm3 rfl rfl rfl rfl rfl (Formula_dyn hk0 _) mw_57 (inr_c rfl) d_Formula_read_12 (fun H locs hS => ?_)
  obtain ⟨M3, eM3⟩ : ∃ q, q = (setI M2 k0 8 0) := ⟨_, rfl⟩
  replace hS : St b C n M3 s H locs := by rw [eM3]; exact hS
  replace hT := qlet_eq hT eM3
  refine lv_aload_n F.hx F.hb d_Formula_read_15 rfl (lv_at hl 0 rfl) ?_
  refine r_iconst F.hx F.hb d_Formula_read_16 ?_
  refine r_putI (N := 12) (T := T3) (j := 9) F hS (Formula_lt hk0) (Formula_sh hk0) (Formula_N hk0) rfl (Nat.le_of_ble_eq_true rfl) ing3 tyok3 nm3 rfl rfl rfl rfl rfl (Formula_dyn hk0 _) mw_58 (inr_c rfl) d_Formula_read_17 (fun H locs hS => ?_)
  obtain ⟨M4, eM4⟩ : ∃ q, q = (setI M3 k0 9 0) := ⟨_, rfl⟩
  replace hS : St b C n M4 s H locs := by rw [eM4]; exact hS
  replace hT := qlet_eq hT eM4
  refine lv_aload_n F.hx F.hb d_Formula_read_20 rfl (lv_at hl 0 rfl) ?_
  refine r_iconst F.hx F.hb d_Formula_read_21 ?_
  refine r_putI (N := 12) (T := T3) (j := 10) F hS (Formula_lt hk0) (Formula_sh hk0) (Formula_N hk0) rfl (Nat.le_of_ble_eq_true rfl) ing3 tyok3 nm3 rfl rfl (nar_z (Or.inr rfl)) (fit_z (Or.inr rfl)) rfl (Formula_dyn hk0 _) mw_59 (inr_c rfl) d_Formula_read_22 (fun H locs hS => ?_)
  obtain ⟨M5, eM5⟩ : ∃ q, q = (setI M4 k0 10 1) := ⟨_, rfl⟩
  replace hS : St b C n M5 s H locs := by rw [eM5]; exact hS
  replace hT := qlet_eq hT eM5
  refine lv_aload_n F.hx F.hb d_Formula_read_25 rfl (lv_at hl 0 rfl) ?_
  refine r_iconst F.hx F.hb d_Formula_read_26 ?_
  refine r_putI (N := 12) (T := T3) (j := 11) F hS (Formula_lt hk0) (Formula_sh hk0) (Formula_N hk0) rfl (Nat.le_of_ble_eq_true rfl) ing3 tyok3 nm3 rfl rfl (nar_z (Or.inr rfl)) (fit_z (Or.inr rfl)) rfl (Formula_dyn hk0 _) mw_60 (inr_c rfl) d_Formula_read_27 (fun H locs hS => ?_)
  obtain ⟨M6, eM6⟩ : ∃ q, q = (setI M5 k0 11 1) := ⟨_, rfl⟩
  replace hS : St b C n M6 s H locs := by rw [eM6]; exact hS
  replace hT := qlet_eq hT eM6
  refine r_iconst F.hx F.hb d_Formula_read_30 ?_
  refine lv_istore (lv' := [(4, vI 0), (0, .ref (b + k0)), (1, .ref (b + 42)), (2, vI x2), (3, .ref (b + k3))]) F.hx F.hb d_Formula_read_31 hl (Nat.le_of_ble_eq_true rfl) rfl (fun ls hl => ?_)
  exact k_Formula_read_L33 l hlo k0 x2 k3 hk0 hx2 hk3 F hlk hr FU M6 0 (inr_c rfl) _ _ _ hS (lv_sub hl [1, 2, 4, 0] rfl) hT
theorem wn_Reader_readLaw_0 : ∀ i, i < 96 → bA b_Reader_readLaw (0 + i) = wB [42, 42, 180, 0, 94, 4, 96, 182, 0, 80, 42, 180, 0, 15, 16, 13, 159, 0, 22, 42, 180, 0, 15, 16, 14, 159, 0, 13, 42, 4, 42, 180, 0, 44, 182, 0, 47, 172, 42, 180, 0, 15, 16, 13, 160, 0, 10, 43, 180, 0, 171, 167, 0, 7, 43, 180, 0, 175, 77, 44, 180, 0, 178, 153, 0, 13, 42, 6, 42, 180, 0, 44, 182, 0, 47, 172, 42, 180, 0, 60, 199, 0, 7, 4, 167, 0, 18, 44, 42, 180, 0, 60, 42, 180, 0, 94] i := wB_of (by decide +kernel)
theorem d_Reader_readLaw_0 : decode b_Reader_readLaw 0 = .ok (.aload_n 0, 1) := dc_42 (q0_win (r := 0) wn_Reader_readLaw_0 (by decide +kernel))
theorem d_Reader_readLaw_1 : decode b_Reader_readLaw 1 = .ok (.aload_n 0, 1) := dc_42 (q0_win (r := 1) wn_Reader_readLaw_0 (by decide +kernel))
theorem d_Reader_readLaw_2 : decode b_Reader_readLaw 2 = .ok (.getfield 94, 3) := dc_180 (qU2_win (r := 2) wn_Reader_readLaw_0 (by decide +kernel))
theorem d_Reader_readLaw_5 : decode b_Reader_readLaw 5 = .ok (.iconst 1, 1) := dc_4 (q0_win (r := 5) wn_Reader_readLaw_0 (by decide +kernel))
theorem d_Reader_readLaw_6 : decode b_Reader_readLaw 6 = .ok (.iadd, 1) := dc_96 (q0_win (r := 6) wn_Reader_readLaw_0 (by decide +kernel))
theorem d_Reader_readLaw_7 : decode b_Reader_readLaw 7 = .ok (.invokevirtual 80, 3) := dc_182 (qU2_win (r := 7) wn_Reader_readLaw_0 (by decide +kernel))
theorem d_Reader_readLaw_10 : decode b_Reader_readLaw 10 = .ok (.aload_n 0, 1) := dc_42 (q0_win (r := 10) wn_Reader_readLaw_0 (by decide +kernel))
theorem d_Reader_readLaw_11 : decode b_Reader_readLaw 11 = .ok (.getfield 15, 3) := dc_180 (qU2_win (r := 11) wn_Reader_readLaw_0 (by decide +kernel))
theorem d_Reader_readLaw_14 : decode b_Reader_readLaw 14 = .ok (.bipush 13, 2) := dc_16 (qS1_win (r := 14) wn_Reader_readLaw_0 (by decide +kernel))
theorem d_Reader_readLaw_16 : decode b_Reader_readLaw 16 = .ok (.if_icmp .eq 22, 3) := dc_159 (qS2_win (r := 16) wn_Reader_readLaw_0 (by decide +kernel))
theorem d_Reader_readLaw_19 : decode b_Reader_readLaw 19 = .ok (.aload_n 0, 1) := dc_42 (q0_win (r := 19) wn_Reader_readLaw_0 (by decide +kernel))
theorem d_Reader_readLaw_20 : decode b_Reader_readLaw 20 = .ok (.getfield 15, 3) := dc_180 (qU2_win (r := 20) wn_Reader_readLaw_0 (by decide +kernel))
theorem d_Reader_readLaw_23 : decode b_Reader_readLaw 23 = .ok (.bipush 14, 2) := dc_16 (qS1_win (r := 23) wn_Reader_readLaw_0 (by decide +kernel))
theorem d_Reader_readLaw_25 : decode b_Reader_readLaw 25 = .ok (.if_icmp .eq 13, 3) := dc_159 (qS2_win (r := 25) wn_Reader_readLaw_0 (by decide +kernel))
theorem d_Reader_readLaw_28 : decode b_Reader_readLaw 28 = .ok (.aload_n 0, 1) := dc_42 (q0_win (r := 28) wn_Reader_readLaw_0 (by decide +kernel))
theorem d_Reader_readLaw_29 : decode b_Reader_readLaw 29 = .ok (.iconst 1, 1) := dc_4 (q0_win (r := 29) wn_Reader_readLaw_0 (by decide +kernel))
theorem d_Reader_readLaw_30 : decode b_Reader_readLaw 30 = .ok (.aload_n 0, 1) := dc_42 (q0_win (r := 30) wn_Reader_readLaw_0 (by decide +kernel))
theorem d_Reader_readLaw_31 : decode b_Reader_readLaw 31 = .ok (.getfield 44, 3) := dc_180 (qU2_win (r := 31) wn_Reader_readLaw_0 (by decide +kernel))
theorem d_Reader_readLaw_34 : decode b_Reader_readLaw 34 = .ok (.invokevirtual 47, 3) := dc_182 (qU2_win (r := 34) wn_Reader_readLaw_0 (by decide +kernel))
theorem d_Reader_readLaw_37 : decode b_Reader_readLaw 37 = .ok (.ireturn, 1) := dc_172 (q0_win (r := 37) wn_Reader_readLaw_0 (by decide +kernel))
theorem d_Reader_readLaw_38 : decode b_Reader_readLaw 38 = .ok (.aload_n 0, 1) := dc_42 (q0_win (r := 38) wn_Reader_readLaw_0 (by decide +kernel))
theorem d_Reader_readLaw_39 : decode b_Reader_readLaw 39 = .ok (.getfield 15, 3) := dc_180 (qU2_win (r := 39) wn_Reader_readLaw_0 (by decide +kernel))
theorem d_Reader_readLaw_42 : decode b_Reader_readLaw 42 = .ok (.bipush 13, 2) := dc_16 (qS1_win (r := 42) wn_Reader_readLaw_0 (by decide +kernel))
theorem d_Reader_readLaw_44 : decode b_Reader_readLaw 44 = .ok (.if_icmp .ne 10, 3) := dc_160 (qS2_win (r := 44) wn_Reader_readLaw_0 (by decide +kernel))
theorem d_Reader_readLaw_47 : decode b_Reader_readLaw 47 = .ok (.aload_n 1, 1) := dc_43 (q0_win (r := 47) wn_Reader_readLaw_0 (by decide +kernel))
theorem d_Reader_readLaw_48 : decode b_Reader_readLaw 48 = .ok (.getfield 171, 3) := dc_180 (qU2_win (r := 48) wn_Reader_readLaw_0 (by decide +kernel))
theorem d_Reader_readLaw_51 : decode b_Reader_readLaw 51 = .ok (.goto 7, 3) := dc_167 (qS2_win (r := 51) wn_Reader_readLaw_0 (by decide +kernel))
theorem d_Reader_readLaw_54 : decode b_Reader_readLaw 54 = .ok (.aload_n 1, 1) := dc_43 (q0_win (r := 54) wn_Reader_readLaw_0 (by decide +kernel))
theorem d_Reader_readLaw_55 : decode b_Reader_readLaw 55 = .ok (.getfield 175, 3) := dc_180 (qU2_win (r := 55) wn_Reader_readLaw_0 (by decide +kernel))
theorem d_Reader_readLaw_58 : decode b_Reader_readLaw 58 = .ok (.astore_n 2, 1) := dc_77 (q0_win (r := 58) wn_Reader_readLaw_0 (by decide +kernel))
theorem d_Reader_readLaw_59 : decode b_Reader_readLaw 59 = .ok (.aload_n 2, 1) := dc_44 (q0_win (r := 59) wn_Reader_readLaw_0 (by decide +kernel))
theorem d_Reader_readLaw_60 : decode b_Reader_readLaw 60 = .ok (.getfield 178, 3) := dc_180 (qU2_win (r := 60) wn_Reader_readLaw_0 (by decide +kernel))
theorem d_Reader_readLaw_63 : decode b_Reader_readLaw 63 = .ok (.ifCond .eq 13, 3) := dc_153 (qS2_win (r := 63) wn_Reader_readLaw_0 (by decide +kernel))
theorem d_Reader_readLaw_66 : decode b_Reader_readLaw 66 = .ok (.aload_n 0, 1) := dc_42 (q0_win (r := 66) wn_Reader_readLaw_0 (by decide +kernel))
theorem d_Reader_readLaw_67 : decode b_Reader_readLaw 67 = .ok (.iconst 3, 1) := dc_6 (q0_win (r := 67) wn_Reader_readLaw_0 (by decide +kernel))
theorem d_Reader_readLaw_68 : decode b_Reader_readLaw 68 = .ok (.aload_n 0, 1) := dc_42 (q0_win (r := 68) wn_Reader_readLaw_0 (by decide +kernel))
theorem d_Reader_readLaw_69 : decode b_Reader_readLaw 69 = .ok (.getfield 44, 3) := dc_180 (qU2_win (r := 69) wn_Reader_readLaw_0 (by decide +kernel))
theorem d_Reader_readLaw_72 : decode b_Reader_readLaw 72 = .ok (.invokevirtual 47, 3) := dc_182 (qU2_win (r := 72) wn_Reader_readLaw_0 (by decide +kernel))
theorem d_Reader_readLaw_75 : decode b_Reader_readLaw 75 = .ok (.ireturn, 1) := dc_172 (q0_win (r := 75) wn_Reader_readLaw_0 (by decide +kernel))
theorem d_Reader_readLaw_76 : decode b_Reader_readLaw 76 = .ok (.aload_n 0, 1) := dc_42 (q0_win (r := 76) wn_Reader_readLaw_0 (by decide +kernel))
theorem d_Reader_readLaw_77 : decode b_Reader_readLaw 77 = .ok (.getfield 60, 3) := dc_180 (qU2_win (r := 77) wn_Reader_readLaw_0 (by decide +kernel))
theorem d_Reader_readLaw_80 : decode b_Reader_readLaw 80 = .ok (.ifnonnull 7, 3) := dc_199 (qS2_win (r := 80) wn_Reader_readLaw_0 (by decide +kernel))
theorem d_Reader_readLaw_83 : decode b_Reader_readLaw 83 = .ok (.iconst 1, 1) := dc_4 (q0_win (r := 83) wn_Reader_readLaw_0 (by decide +kernel))
theorem d_Reader_readLaw_84 : decode b_Reader_readLaw 84 = .ok (.goto 18, 3) := dc_167 (qS2_win (r := 84) wn_Reader_readLaw_0 (by decide +kernel))
theorem d_Reader_readLaw_87 : decode b_Reader_readLaw 87 = .ok (.aload_n 2, 1) := dc_44 (q0_win (r := 87) wn_Reader_readLaw_0 (by decide +kernel))
theorem d_Reader_readLaw_88 : decode b_Reader_readLaw 88 = .ok (.aload_n 0, 1) := dc_42 (q0_win (r := 88) wn_Reader_readLaw_0 (by decide +kernel))
theorem d_Reader_readLaw_89 : decode b_Reader_readLaw 89 = .ok (.getfield 60, 3) := dc_180 (qU2_win (r := 89) wn_Reader_readLaw_0 (by decide +kernel))
theorem d_Reader_readLaw_92 : decode b_Reader_readLaw 92 = .ok (.aload_n 0, 1) := dc_42 (q0_win (r := 92) wn_Reader_readLaw_0 (by decide +kernel))
theorem d_Reader_readLaw_93 : decode b_Reader_readLaw 93 = .ok (.getfield 94, 3) := dc_180 (qU2_win (r := 93) wn_Reader_readLaw_0 (by decide +kernel))
theorem wn_Reader_readLaw_96 : ∀ i, i < 37 → bA b_Reader_readLaw (96 + i) = wB [4, 96, 43, 182, 0, 183, 62, 42, 44, 180, 0, 187, 182, 0, 80, 29, 153, 0, 15, 42, 29, 42, 180, 0, 44, 182, 0, 47, 153, 0, 7, 4, 167, 0, 4, 3, 172] i := wB_of (by decide +kernel)
theorem d_Reader_readLaw_96 : decode b_Reader_readLaw 96 = .ok (.iconst 1, 1) := dc_4 (q0_win (r := 0) wn_Reader_readLaw_96 (by decide +kernel))
theorem d_Reader_readLaw_97 : decode b_Reader_readLaw 97 = .ok (.iadd, 1) := dc_96 (q0_win (r := 1) wn_Reader_readLaw_96 (by decide +kernel))
theorem d_Reader_readLaw_98 : decode b_Reader_readLaw 98 = .ok (.aload_n 1, 1) := dc_43 (q0_win (r := 2) wn_Reader_readLaw_96 (by decide +kernel))
theorem d_Reader_readLaw_99 : decode b_Reader_readLaw 99 = .ok (.invokevirtual 183, 3) := dc_182 (qU2_win (r := 3) wn_Reader_readLaw_96 (by decide +kernel))
theorem d_Reader_readLaw_102 : decode b_Reader_readLaw 102 = .ok (.istore_n 3, 1) := dc_62 (q0_win (r := 6) wn_Reader_readLaw_96 (by decide +kernel))
theorem d_Reader_readLaw_103 : decode b_Reader_readLaw 103 = .ok (.aload_n 0, 1) := dc_42 (q0_win (r := 7) wn_Reader_readLaw_96 (by decide +kernel))
theorem d_Reader_readLaw_104 : decode b_Reader_readLaw 104 = .ok (.aload_n 2, 1) := dc_44 (q0_win (r := 8) wn_Reader_readLaw_96 (by decide +kernel))
theorem d_Reader_readLaw_105 : decode b_Reader_readLaw 105 = .ok (.getfield 187, 3) := dc_180 (qU2_win (r := 9) wn_Reader_readLaw_96 (by decide +kernel))
theorem d_Reader_readLaw_108 : decode b_Reader_readLaw 108 = .ok (.invokevirtual 80, 3) := dc_182 (qU2_win (r := 12) wn_Reader_readLaw_96 (by decide +kernel))
theorem d_Reader_readLaw_111 : decode b_Reader_readLaw 111 = .ok (.iload_n 3, 1) := dc_29 (q0_win (r := 15) wn_Reader_readLaw_96 (by decide +kernel))
theorem d_Reader_readLaw_112 : decode b_Reader_readLaw 112 = .ok (.ifCond .eq 15, 3) := dc_153 (qS2_win (r := 16) wn_Reader_readLaw_96 (by decide +kernel))
theorem d_Reader_readLaw_115 : decode b_Reader_readLaw 115 = .ok (.aload_n 0, 1) := dc_42 (q0_win (r := 19) wn_Reader_readLaw_96 (by decide +kernel))
theorem d_Reader_readLaw_116 : decode b_Reader_readLaw 116 = .ok (.iload_n 3, 1) := dc_29 (q0_win (r := 20) wn_Reader_readLaw_96 (by decide +kernel))
theorem d_Reader_readLaw_117 : decode b_Reader_readLaw 117 = .ok (.aload_n 0, 1) := dc_42 (q0_win (r := 21) wn_Reader_readLaw_96 (by decide +kernel))
theorem d_Reader_readLaw_118 : decode b_Reader_readLaw 118 = .ok (.getfield 44, 3) := dc_180 (qU2_win (r := 22) wn_Reader_readLaw_96 (by decide +kernel))
theorem d_Reader_readLaw_121 : decode b_Reader_readLaw 121 = .ok (.invokevirtual 47, 3) := dc_182 (qU2_win (r := 25) wn_Reader_readLaw_96 (by decide +kernel))
theorem d_Reader_readLaw_124 : decode b_Reader_readLaw 124 = .ok (.ifCond .eq 7, 3) := dc_153 (qS2_win (r := 28) wn_Reader_readLaw_96 (by decide +kernel))
theorem d_Reader_readLaw_127 : decode b_Reader_readLaw 127 = .ok (.iconst 1, 1) := dc_4 (q0_win (r := 31) wn_Reader_readLaw_96 (by decide +kernel))
theorem d_Reader_readLaw_128 : decode b_Reader_readLaw 128 = .ok (.goto 4, 3) := dc_167 (qS2_win (r := 32) wn_Reader_readLaw_96 (by decide +kernel))
theorem d_Reader_readLaw_131 : decode b_Reader_readLaw 131 = .ok (.iconst 0, 1) := dc_3 (q0_win (r := 35) wn_Reader_readLaw_96 (by decide +kernel))
theorem d_Reader_readLaw_132 : decode b_Reader_readLaw 132 = .ok (.ireturn, 1) := dc_172 (q0_win (r := 36) wn_Reader_readLaw_96 (by decide +kernel))
def t_Reader_readLaw_L102 (k1 : Nat)  (M : Mem) (u1_ : Nat) (v2_ : Int) : Option (Mem × Int) := (obind (t_Reader_goTo M (M.1 u1_ 7)) fun q24 => (if v2_ = 0 then (some (q24, 1)) else (qlet (t_Reader_refuse q24 v2_ (q24.1 46 4)) fun q28 => (if (q28.2) = 0 then (some ((q28.1), 0)) else (some ((q28.1), 1))))))
def t_Reader_readLaw_L58 (k1 : Nat)  (M : Mem) (u2_ : Nat) : Option (Mem × Int) := (if (M.1 u2_ 4) = 0 then (if M.1 46 0 < 0 then (t_Reader_readLaw_L102 k1 M u2_ 1) else (if M.1 46 0 < 0 then none else (obind (t_Formula_read M u2_ (w32 ((M.1 46 1) + 1)) k1) fun q18 => (t_Reader_readLaw_L102 k1 (q18.1) u2_ (q18.2))))) else (qlet (t_Reader_refuse M 3 (M.1 46 4)) fun q21 => (some ((q21.1), (q21.2)))))
def t_Reader_readLaw_L38 (k1 : Nat)  (M : Mem)  : Option (Mem × Int) := (if (M.1 46 2) = 13 then (t_Reader_readLaw_L58 k1 M (k1 + 10)) else (t_Reader_readLaw_L58 k1 M (k1 + 15)))
def t_Reader_readLaw (M : Mem) (k1 : Nat) : Option (Mem × Int) := (obind (t_Reader_goTo M (w32 ((M.1 46 1) + 1))) fun q2 => (if (q2.1 46 2) = 13 then (t_Reader_readLaw_L38 k1 q2) else (if (q2.1 46 2) = 14 then (t_Reader_readLaw_L38 k1 q2) else (qlet (t_Reader_refuse q2 1 (q2.1 46 4)) fun q9 => (some ((q9.1), (q9.2)))))))
set_option maxHeartbeats 4000000 in
set_option maxRecDepth 100000 in
theorem k_Reader_readLaw_L102 (l : Launch) {p : Program} {e : Env} {s : State} {m : MethodId} {below : List Frame} {meth : Method} {c : Code} {b n : Nat} {C : CT} (hlo : 191 ≤ n) (k1 : Nat) (hk1 : isTown k1) (F : Cx b p m c b_Reader_readLaw 4 s ([.ref (b + 46), .ref (b + k1)] : List Value).toArray "WardFalls$Reader" C n 191) (hlk : meth.locks = false) (hr : meth.sig.returnType = some .boolean) {res : Mem × Int} (M : Mem) (u1_ : Nat) (hu1_ : isFormula u1_) (v2_ : Int) (hv2_ : InR v2_) (H : Heap) (locs : List Loc) (ls : Array Slot) (hS : St b C n M s H locs) (hl : lv_has ls 4 [(0, .ref (b + 46)), (2, .ref (b + u1_))]) (hT : t_Reader_readLaw_L102 k1 M u1_ v2_ = some res) : W p l e (headSpec (wsM y_Reader_readLaw b_Reader_readLaw 4 (some .boolean)) (rmD 5)).room s m ([.ref (b + 46), .ref (b + k1)] : List Value).toArray below meth c H locs 0 0 (MQ below (QZ b C n res.1 res.2) ([.ref (b + 46), .ref (b + k1)] : List Value).toArray s 0 0 (frb b)) (F0 m 102 ls [vI v2_]) := by
  unfold t_Reader_readLaw_L102 at hT
  refine lv_istore_n (lv' := [(3, vI v2_), (0, .ref (b + 46)), (2, .ref (b + u1_))]) F.hx F.hb d_Reader_readLaw_102 rfl hl (Nat.le_of_ble_eq_true rfl) rfl (fun ls hl => ?_)
  refine lv_aload_n F.hx F.hb d_Reader_readLaw_103 rfl (lv_at hl 1 rfl) ?_
  refine lv_aload_n F.hx F.hb d_Reader_readLaw_104 rfl (lv_at hl 2 rfl) ?_
  refine r_get (v := vI (M.1 u1_ 7)) (N := 12) (T := T3) (j := 7) F hS (Formula_lt hu1_) (Formula_sh hu1_) (Formula_N hu1_) rfl (Nat.le_of_ble_eq_true rfl) ing3 mw_56 (fv_int rfl) d_Reader_readLaw_105 ?_
  have i23 := hS.rng u1_ 7
  obtain ⟨q24, hq24, hT⟩ := q_obind hT
  refine r_backV F hS (r_runV (k := 46) (N := 11) (T := T8) (As := [vI (M.1 u1_ 7)]) F hS (show 46 < 191 by decide) (show shK 46 = 12 from rfl) rfl (c_Reader_goTo l F.2.2.1 M (M.1 u1_ 7) i23 _ hq24) gs_Reader_80 hd_Reader_goTo ⟨Nat.le_of_ble_eq_true rfl, Nat.le_of_ble_eq_true rfl⟩ rfl hl.1 (Nat.le_of_ble_eq_true rfl) ⟨Nat.zero_le _, Nat.zero_le _⟩ rfl d_Reader_readLaw_108) (fun H locs hS => ?_)
  refine lv_iload_n F.hx F.hb d_Reader_readLaw_111 rfl (lv_at hl 0 rfl) ?_
  refine r_if_eq (tgt := 127) F.hx F.hb hv2_ d_Reader_readLaw_112 (by decide) (fun c26 => ?_) (fun c26 => ?_)
  · replace hT := (if_pos c26).symm.trans hT
    refine r_iconst F.hx F.hb d_Reader_readLaw_127 ?_
    refine lv_goto (tgt := 132) F.hx F.hb d_Reader_readLaw_128 (by decide) ?_
    cases hT
    exact r_zret F hlk hr hS (Or.inr rfl) d_Reader_readLaw_132
  · replace hT := (if_neg c26).symm.trans hT
    refine lv_aload_n F.hx F.hb d_Reader_readLaw_115 rfl (lv_at hl 1 rfl) ?_
    refine lv_iload_n F.hx F.hb d_Reader_readLaw_116 rfl (lv_at hl 0 rfl) ?_
    refine lv_aload_n F.hx F.hb d_Reader_readLaw_117 rfl (lv_at hl 1 rfl) ?_
    refine r_get (v := vI (q24.1 46 4)) (N := 11) (T := T8) (j := 4) F hS (show 46 < 191 by decide) (show shK 46 = 12 from rfl) (show shN 46 = 11 from rfl) rfl (Nat.le_of_ble_eq_true rfl) ing8 mw_234 (fv_int rfl) d_Reader_readLaw_118 ?_
    have i27 := hS.rng 46 4
    obtain ⟨q28, hq28⟩ : ∃ q, q = (t_Reader_refuse q24 v2_ (q24.1 46 4)) := ⟨_, rfl⟩
    replace hT := qlet_eq hT hq28
    refine r_backZ F hS (r_runV (k := 46) (N := 11) (T := T8) (As := [vI v2_, vI (q24.1 46 4)]) F hS (show 46 < 191 by decide) (show shK 46 = 12 from rfl) rfl (c_Reader_refuse l F.2.2.1 q24 v2_ (q24.1 46 4) hv2_ i27 _ hq28.symm) gs_Reader_47 hd_Reader_refuse ⟨Nat.le_of_ble_eq_true rfl, Nat.le_of_ble_eq_true rfl⟩ rfl hl.1 (Nat.le_of_ble_eq_true rfl) ⟨Nat.zero_le _, Nat.zero_le _⟩ rfl d_Reader_readLaw_121) (fun H locs hS h29 => ?_)
    refine r_if_eq (tgt := 131) F.hx F.hb (inr_z h29) d_Reader_readLaw_124 (by decide) (fun c30 => ?_) (fun c30 => ?_)
    · replace hT := (if_pos c30).symm.trans hT
      refine r_iconst F.hx F.hb d_Reader_readLaw_131 ?_
      cases hT
      exact r_zret F hlk hr hS (Or.inl rfl) d_Reader_readLaw_132
    · replace hT := (if_neg c30).symm.trans hT
      refine r_iconst F.hx F.hb d_Reader_readLaw_127 ?_
      refine lv_goto (tgt := 132) F.hx F.hb d_Reader_readLaw_128 (by decide) ?_
      cases hT
      exact r_zret F hlk hr hS (Or.inr rfl) d_Reader_readLaw_132
set_option maxHeartbeats 4000000 in
set_option maxRecDepth 100000 in
theorem k_Reader_readLaw_L58 (l : Launch) {p : Program} {e : Env} {s : State} {m : MethodId} {below : List Frame} {meth : Method} {c : Code} {b n : Nat} {C : CT} (hlo : 191 ≤ n) (k1 : Nat) (hk1 : isTown k1) (F : Cx b p m c b_Reader_readLaw 4 s ([.ref (b + 46), .ref (b + k1)] : List Value).toArray "WardFalls$Reader" C n 191) (hlk : meth.locks = false) (hr : meth.sig.returnType = some .boolean) {res : Mem × Int} (M : Mem) (u2_ : Nat) (hu2_ : isFormula u2_) (H : Heap) (locs : List Loc) (ls : Array Slot) (hS : St b C n M s H locs) (hl : lv_has ls 4 [(0, .ref (b + 46)), (1, .ref (b + k1))]) (hT : t_Reader_readLaw_L58 k1 M u2_ = some res) : W p l e (headSpec (wsM y_Reader_readLaw b_Reader_readLaw 4 (some .boolean)) (rmD 5)).room s m ([.ref (b + 46), .ref (b + k1)] : List Value).toArray below meth c H locs 0 0 (MQ below (QZ b C n res.1 res.2) ([.ref (b + 46), .ref (b + k1)] : List Value).toArray s 0 0 (frb b)) (F0 m 58 ls [.ref (b + u2_)]) := by
  unfold t_Reader_readLaw_L58 at hT
  refine lv_astore_n (lv' := [(2, .ref (b + u2_)), (0, .ref (b + 46)), (1, .ref (b + k1))]) F.hx F.hb d_Reader_readLaw_58 rfl hl (Nat.le_of_ble_eq_true rfl) rfl (fun ls hl => ?_)
  refine lv_aload_n F.hx F.hb d_Reader_readLaw_59 rfl (lv_at hl 0 rfl) ?_
  refine r_get (v := vI (M.1 u2_ 4)) (N := 12) (T := T3) (j := 4) F hS (Formula_lt hu2_) (Formula_sh hu2_) (Formula_N hu2_) rfl (Nat.le_of_ble_eq_true rfl) ing3 mw_52 (fv_int rfl) d_Reader_readLaw_60 ?_
  have i13 := hS.rng u2_ 4
  refine r_if_eq (tgt := 76) F.hx F.hb i13 d_Reader_readLaw_63 (by decide) (fun c14 => ?_) (fun c14 => ?_)
  · replace hT := (if_pos c14).symm.trans hT
    refine lv_aload_n F.hx F.hb d_Reader_readLaw_76 rfl (lv_at hl 1 rfl) ?_
    rcases q_ite hT with ⟨c15, hT⟩ | ⟨c15, hT⟩
    · refine r_get (v := .null) (N := 11) (T := T8) (j := 0) F hS (show 46 < 191 by decide) (show shK 46 = 12 from rfl) (show shN 46 = 11 from rfl) rfl (Nat.le_of_ble_eq_true rfl) ing8 mw_230 (tok_null hS c15) d_Reader_readLaw_77 ?_
      refine lv_ifnonnullN F.hx F.hb d_Reader_readLaw_80 ?_
      refine r_iconst F.hx F.hb d_Reader_readLaw_83 ?_
      refine lv_goto (tgt := 102) F.hx F.hb d_Reader_readLaw_84 (by decide) ?_
      exact k_Reader_readLaw_L102 l hlo k1 hk1 F hlk hr M u2_ hu2_ 1 (inr_c rfl) _ _ _ hS (lv_sub hl [1, 0] rfl) hT
    · refine r_get (v := .ref (b + 42)) (N := 11) (T := T8) (j := 0) F hS (show 46 < 191 by decide) (show shK 46 = 12 from rfl) (show shN 46 = 11 from rfl) rfl (Nat.le_of_ble_eq_true rfl) ing8 mw_230 (tok_some hS c15) d_Reader_readLaw_77 ?_
      refine lv_ifnonnull (tgt := 87) F.hx F.hb d_Reader_readLaw_80 (by decide) ?_
      refine lv_aload_n F.hx F.hb d_Reader_readLaw_87 rfl (lv_at hl 0 rfl) ?_
      refine lv_aload_n F.hx F.hb d_Reader_readLaw_88 rfl (lv_at hl 1 rfl) ?_
      rcases q_ite hT with ⟨c16, hT⟩ | ⟨c16, hT⟩
      · exact absurd hT (by simp)
      · refine r_get (v := .ref (b + 42)) (N := 11) (T := T8) (j := 0) F hS (show 46 < 191 by decide) (show shK 46 = 12 from rfl) (show shN 46 = 11 from rfl) rfl (Nat.le_of_ble_eq_true rfl) ing8 mw_230 (tok_some hS c16) d_Reader_readLaw_89 ?_
        refine lv_aload_n F.hx F.hb d_Reader_readLaw_92 rfl (lv_at hl 1 rfl) ?_
        refine r_get (v := vI (M.1 46 1)) (N := 11) (T := T8) (j := 1) F hS (show 46 < 191 by decide) (show shK 46 = 12 from rfl) (show shN 46 = 11 from rfl) rfl (Nat.le_of_ble_eq_true rfl) ing8 mw_231 (fv_int rfl) d_Reader_readLaw_93 ?_
        have i17 := hS.rng 46 1
        refine r_iconst F.hx F.hb d_Reader_readLaw_96 ?_
        refine r_iadd F.hx F.hb d_Reader_readLaw_97 ?_
        refine lv_aload_n F.hx F.hb d_Reader_readLaw_98 rfl (lv_at hl 2 rfl) ?_
        obtain ⟨q18, hq18, hT⟩ := q_obind hT
        refine r_backI F hS (r_runV (k := u2_) (N := 12) (T := T3) (As := [.ref (b + 42), vI (w32 ((M.1 46 1) + 1)), .ref (b + k1)]) F hS (Formula_lt hu2_) (Formula_sh hu2_) rfl (c_Formula_read l F.2.2.1 M u2_ (w32 ((M.1 46 1) + 1)) k1 hu2_ (inr_w32 _) hk1 _ hq18) gs_Reader_183 hd_Formula_read ⟨Nat.le_of_ble_eq_true rfl, Nat.le_of_ble_eq_true rfl⟩ rfl hl.1 (Nat.le_of_ble_eq_true rfl) ⟨Nat.zero_le _, Nat.zero_le _⟩ rfl d_Reader_readLaw_99) (fun H locs hS h19 => ?_)
        exact k_Reader_readLaw_L102 l hlo k1 hk1 F hlk hr (q18.1) u2_ hu2_ (q18.2) h19 _ _ _ hS (lv_sub hl [1, 0] rfl) hT
  · replace hT := (if_neg c14).symm.trans hT
    refine lv_aload_n F.hx F.hb d_Reader_readLaw_66 rfl (lv_at hl 1 rfl) ?_
    refine r_iconst F.hx F.hb d_Reader_readLaw_67 ?_
    refine lv_aload_n F.hx F.hb d_Reader_readLaw_68 rfl (lv_at hl 1 rfl) ?_
    refine r_get (v := vI (M.1 46 4)) (N := 11) (T := T8) (j := 4) F hS (show 46 < 191 by decide) (show shK 46 = 12 from rfl) (show shN 46 = 11 from rfl) rfl (Nat.le_of_ble_eq_true rfl) ing8 mw_234 (fv_int rfl) d_Reader_readLaw_69 ?_
    have i20 := hS.rng 46 4
    obtain ⟨q21, hq21⟩ : ∃ q, q = (t_Reader_refuse M 3 (M.1 46 4)) := ⟨_, rfl⟩
    replace hT := qlet_eq hT hq21
    refine r_backZ F hS (r_runV (k := 46) (N := 11) (T := T8) (As := [vI 3, vI (M.1 46 4)]) F hS (show 46 < 191 by decide) (show shK 46 = 12 from rfl) rfl (c_Reader_refuse l F.2.2.1 M 3 (M.1 46 4) (inr_c rfl) i20 _ hq21.symm) gs_Reader_47 hd_Reader_refuse ⟨Nat.le_of_ble_eq_true rfl, Nat.le_of_ble_eq_true rfl⟩ rfl hl.1 (Nat.le_of_ble_eq_true rfl) ⟨Nat.zero_le _, Nat.zero_le _⟩ rfl d_Reader_readLaw_72) (fun H locs hS h22 => ?_)
    cases hT
    exact r_zret F hlk hr hS h22 d_Reader_readLaw_75
set_option maxHeartbeats 4000000 in
set_option maxRecDepth 100000 in
theorem k_Reader_readLaw_L38 (l : Launch) {p : Program} {e : Env} {s : State} {m : MethodId} {below : List Frame} {meth : Method} {c : Code} {b n : Nat} {C : CT} (hlo : 191 ≤ n) (k1 : Nat) (hk1 : isTown k1) (F : Cx b p m c b_Reader_readLaw 4 s ([.ref (b + 46), .ref (b + k1)] : List Value).toArray "WardFalls$Reader" C n 191) (hlk : meth.locks = false) (hr : meth.sig.returnType = some .boolean) {res : Mem × Int} (M : Mem)  (H : Heap) (locs : List Loc) (ls : Array Slot) (hS : St b C n M s H locs) (hl : lv_has ls 4 [(0, .ref (b + 46)), (1, .ref (b + k1))]) (hT : t_Reader_readLaw_L38 k1 M = some res) : W p l e (headSpec (wsM y_Reader_readLaw b_Reader_readLaw 4 (some .boolean)) (rmD 5)).room s m ([.ref (b + 46), .ref (b + k1)] : List Value).toArray below meth c H locs 0 0 (MQ below (QZ b C n res.1 res.2) ([.ref (b + 46), .ref (b + k1)] : List Value).toArray s 0 0 (frb b)) (F0 m 38 ls []) := by
  unfold t_Reader_readLaw_L38 at hT
  refine lv_aload_n F.hx F.hb d_Reader_readLaw_38 rfl (lv_at hl 0 rfl) ?_
  refine r_get (v := vI (M.1 46 2)) (N := 11) (T := T8) (j := 2) F hS (show 46 < 191 by decide) (show shK 46 = 12 from rfl) (show shN 46 = 11 from rfl) rfl (Nat.le_of_ble_eq_true rfl) ing8 mw_232 (fv_int rfl) d_Reader_readLaw_39 ?_
  have i11 := hS.rng 46 2
  refine r_bipush F.hx F.hb d_Reader_readLaw_42 rfl ?_
  refine r_icmp_ne (tgt := 54) F.hx F.hb i11 (inr_c rfl) d_Reader_readLaw_44 (by decide) (fun c12 => ?_) (fun c12 => ?_)
  · replace hT := (if_neg c12).symm.trans hT
    refine lv_aload_n F.hx F.hb d_Reader_readLaw_54 rfl (lv_at hl 1 rfl) ?_
    refine r_get (v := .ref (b + (k1 + 15))) (N := 20) (T := T11) (j := 10) F hS (Town_lt hk1) (Town_sh hk1) (Town_N hk1) rfl (Nat.le_of_ble_eq_true rfl) ing11 mw_120 (Town_g10 hk1 _) d_Reader_readLaw_55 ?_
    exact k_Reader_readLaw_L58 l hlo k1 hk1 F hlk hr M (k1 + 15) (Town_f10 hk1) _ _ _ hS (lv_sub hl [0, 1] rfl) hT
  · replace hT := (if_pos c12).symm.trans hT
    refine lv_aload_n F.hx F.hb d_Reader_readLaw_47 rfl (lv_at hl 1 rfl) ?_
    refine r_get (v := .ref (b + (k1 + 10))) (N := 20) (T := T11) (j := 9) F hS (Town_lt hk1) (Town_sh hk1) (Town_N hk1) rfl (Nat.le_of_ble_eq_true rfl) ing11 mw_117 (Town_g9 hk1 _) d_Reader_readLaw_48 ?_
    refine lv_goto (tgt := 58) F.hx F.hb d_Reader_readLaw_51 (by decide) ?_
    exact k_Reader_readLaw_L58 l hlo k1 hk1 F hlk hr M (k1 + 10) (Town_f9 hk1) _ _ _ hS (lv_sub hl [0, 1] rfl) hT
set_option maxHeartbeats 4000000 in
set_option maxRecDepth 100000 in
theorem c_Reader_readLaw (l : Launch) {b n : Nat} {C : CT} (hlo : 191 ≤ n) (M : Mem) (k1 : Nat) (hk1 : isTown k1) (res : Mem × Int) (hT : t_Reader_readLaw M k1 = some res) : CM l b C n 5 y_Reader_readLaw b_Reader_readLaw 4 (some .boolean) [.ref (b + 46), .ref (b + k1)] M (QZ b C n res.1 res.2) := by
  refine CM.of (lo := 191) (ow := "WardFalls$Reader") (by decide) rfl (Nat.le_of_ble_eq_true rfl) hlo (fun p e s m below meth c F hlk hr hS ls hl => ?_)
  have hl : lv_has ls 4 [(0, .ref (b + 46)), (1, .ref (b + k1))] := hl
  unfold t_Reader_readLaw at hT
  refine lv_aload_n F.hx F.hb d_Reader_readLaw_0 rfl (lv_at hl 0 rfl) ?_
  refine lv_aload_n F.hx F.hb d_Reader_readLaw_1 rfl (lv_at hl 0 rfl) ?_
  refine r_get (v := vI (M.1 46 1)) (N := 11) (T := T8) (j := 1) F hS (show 46 < 191 by decide) (show shK 46 = 12 from rfl) (show shN 46 = 11 from rfl) rfl (Nat.le_of_ble_eq_true rfl) ing8 mw_231 (fv_int rfl) d_Reader_readLaw_2 ?_
  have i1 := hS.rng 46 1
  refine r_iconst F.hx F.hb d_Reader_readLaw_5 ?_
  refine r_iadd F.hx F.hb d_Reader_readLaw_6 ?_
  obtain ⟨q2, hq2, hT⟩ := q_obind hT
  refine r_backV F hS (r_runV (k := 46) (N := 11) (T := T8) (As := [vI (w32 ((M.1 46 1) + 1))]) F hS (show 46 < 191 by decide) (show shK 46 = 12 from rfl) rfl (c_Reader_goTo l F.2.2.1 M (w32 ((M.1 46 1) + 1)) (inr_w32 _) _ hq2) gs_Reader_80 hd_Reader_goTo ⟨Nat.le_of_ble_eq_true rfl, Nat.le_of_ble_eq_true rfl⟩ rfl hl.1 (Nat.le_of_ble_eq_true rfl) ⟨Nat.zero_le _, Nat.zero_le _⟩ rfl d_Reader_readLaw_7) (fun H locs hS => ?_)
  refine lv_aload_n F.hx F.hb d_Reader_readLaw_10 rfl (lv_at hl 0 rfl) ?_
  refine r_get (v := vI (q2.1 46 2)) (N := 11) (T := T8) (j := 2) F hS (show 46 < 191 by decide) (show shK 46 = 12 from rfl) (show shN 46 = 11 from rfl) rfl (Nat.le_of_ble_eq_true rfl) ing8 mw_232 (fv_int rfl) d_Reader_readLaw_11 ?_
  have i4 := hS.rng 46 2
  refine r_bipush F.hx F.hb d_Reader_readLaw_14 rfl ?_
  refine r_icmp_eq (tgt := 38) F.hx F.hb i4 (inr_c rfl) d_Reader_readLaw_16 (by decide) (fun c5 => ?_) (fun c5 => ?_)
  · replace hT := (if_pos c5).symm.trans hT
    exact k_Reader_readLaw_L38 l hlo k1 hk1 F hlk hr q2 _ _ _ hS (lv_sub hl [0, 1] rfl) hT
  · replace hT := (if_neg c5).symm.trans hT
    refine lv_aload_n F.hx F.hb d_Reader_readLaw_19 rfl (lv_at hl 0 rfl) ?_
    refine r_get (v := vI (q2.1 46 2)) (N := 11) (T := T8) (j := 2) F hS (show 46 < 191 by decide) (show shK 46 = 12 from rfl) (show shN 46 = 11 from rfl) rfl (Nat.le_of_ble_eq_true rfl) ing8 mw_232 (fv_int rfl) d_Reader_readLaw_20 ?_
    have i6 := hS.rng 46 2
    refine r_bipush F.hx F.hb d_Reader_readLaw_23 rfl ?_
    refine r_icmp_eq (tgt := 38) F.hx F.hb i6 (inr_c rfl) d_Reader_readLaw_25 (by decide) (fun c7 => ?_) (fun c7 => ?_)
    · replace hT := (if_pos c7).symm.trans hT
      exact k_Reader_readLaw_L38 l hlo k1 hk1 F hlk hr q2 _ _ _ hS (lv_sub hl [0, 1] rfl) hT
    · replace hT := (if_neg c7).symm.trans hT
      refine lv_aload_n F.hx F.hb d_Reader_readLaw_28 rfl (lv_at hl 0 rfl) ?_
      refine r_iconst F.hx F.hb d_Reader_readLaw_29 ?_
      refine lv_aload_n F.hx F.hb d_Reader_readLaw_30 rfl (lv_at hl 0 rfl) ?_
      refine r_get (v := vI (q2.1 46 4)) (N := 11) (T := T8) (j := 4) F hS (show 46 < 191 by decide) (show shK 46 = 12 from rfl) (show shN 46 = 11 from rfl) rfl (Nat.le_of_ble_eq_true rfl) ing8 mw_234 (fv_int rfl) d_Reader_readLaw_31 ?_
      have i8 := hS.rng 46 4
      obtain ⟨q9, hq9⟩ : ∃ q, q = (t_Reader_refuse q2 1 (q2.1 46 4)) := ⟨_, rfl⟩
      replace hT := qlet_eq hT hq9
      refine r_backZ F hS (r_runV (k := 46) (N := 11) (T := T8) (As := [vI 1, vI (q2.1 46 4)]) F hS (show 46 < 191 by decide) (show shK 46 = 12 from rfl) rfl (c_Reader_refuse l F.2.2.1 q2 1 (q2.1 46 4) (inr_c rfl) i8 _ hq9.symm) gs_Reader_47 hd_Reader_refuse ⟨Nat.le_of_ble_eq_true rfl, Nat.le_of_ble_eq_true rfl⟩ rfl hl.1 (Nat.le_of_ble_eq_true rfl) ⟨Nat.zero_le _, Nat.zero_le _⟩ rfl d_Reader_readLaw_34) (fun H locs hS h10 => ?_)
      cases hT
      exact r_zret F hlk hr hS h10 d_Reader_readLaw_37
end
section
theorem wn_Reader_read_0 : ∀ i, i < 31 → bA b_Reader_read (0 + i) = wB [42, 43, 182, 0, 9, 3, 62, 3, 54, 4, 21, 4, 17, 2, 188, 162, 0, 177, 42, 180, 0, 15, 16, 32, 159, 0, 168, 42, 180, 0, 15] i := wB_of (by decide +kernel)
theorem d_Reader_read_0 : decode b_Reader_read 0 = .ok (.aload_n 0, 1) := dc_42 (q0_win (r := 0) wn_Reader_read_0 (by decide +kernel))
theorem d_Reader_read_1 : decode b_Reader_read 1 = .ok (.aload_n 1, 1) := dc_43 (q0_win (r := 1) wn_Reader_read_0 (by decide +kernel))
theorem d_Reader_read_2 : decode b_Reader_read 2 = .ok (.invokevirtual 9, 3) := dc_182 (qU2_win (r := 2) wn_Reader_read_0 (by decide +kernel))
theorem d_Reader_read_5 : decode b_Reader_read 5 = .ok (.iconst 0, 1) := dc_3 (q0_win (r := 5) wn_Reader_read_0 (by decide +kernel))
theorem d_Reader_read_6 : decode b_Reader_read 6 = .ok (.istore_n 3, 1) := dc_62 (q0_win (r := 6) wn_Reader_read_0 (by decide +kernel))
theorem d_Reader_read_7 : decode b_Reader_read 7 = .ok (.iconst 0, 1) := dc_3 (q0_win (r := 7) wn_Reader_read_0 (by decide +kernel))
theorem d_Reader_read_8 : decode b_Reader_read 8 = .ok (.istore 4, 2) := dc_54 (qU1_win (r := 8) wn_Reader_read_0 (by decide +kernel))
theorem d_Reader_read_10 : decode b_Reader_read 10 = .ok (.iload 4, 2) := dc_21 (qU1_win (r := 10) wn_Reader_read_0 (by decide +kernel))
theorem d_Reader_read_12 : decode b_Reader_read 12 = .ok (.sipush 700, 3) := dc_17 (qS2_win (r := 12) wn_Reader_read_0 (by decide +kernel))
theorem d_Reader_read_15 : decode b_Reader_read 15 = .ok (.if_icmp .ge 177, 3) := dc_162 (qS2_win (r := 15) wn_Reader_read_0 (by decide +kernel))
theorem d_Reader_read_18 : decode b_Reader_read 18 = .ok (.aload_n 0, 1) := dc_42 (q0_win (r := 18) wn_Reader_read_0 (by decide +kernel))
theorem d_Reader_read_19 : decode b_Reader_read 19 = .ok (.getfield 15, 3) := dc_180 (qU2_win (r := 19) wn_Reader_read_0 (by decide +kernel))
theorem d_Reader_read_22 : decode b_Reader_read 22 = .ok (.bipush 32, 2) := dc_16 (qS1_win (r := 22) wn_Reader_read_0 (by decide +kernel))
theorem d_Reader_read_24 : decode b_Reader_read 24 = .ok (.if_icmp .eq 168, 3) := dc_159 (qS2_win (r := 24) wn_Reader_read_0 (by decide +kernel))
theorem d_Reader_read_27 : decode b_Reader_read 27 = .ok (.aload_n 0, 1) := dc_42 (q0_win (r := 27) wn_Reader_read_0 (by decide +kernel))
theorem d_Reader_read_28 : decode b_Reader_read 28 = .ok (.getfield 15, 3) := dc_180 (qU2_win (r := 28) wn_Reader_read_0 (by decide +kernel))
theorem d_Reader_read_31 : decode b_Reader_read 31 = .ok (.tableswitch 125 0 7 #[45, 55, 65, 75, 85, 95, 105, 115], 45) := by decide +kernel
theorem wn_Reader_read_76 : ∀ i, i < 96 → bA b_Reader_read (76 + i) = wB [42, 44, 182, 0, 19, 54, 5, 167, 0, 84, 42, 44, 182, 0, 23, 54, 5, 167, 0, 74, 42, 44, 182, 0, 26, 54, 5, 167, 0, 64, 42, 44, 182, 0, 29, 54, 5, 167, 0, 54, 42, 44, 182, 0, 32, 54, 5, 167, 0, 44, 42, 44, 182, 0, 35, 54, 5, 167, 0, 34, 42, 44, 182, 0, 38, 54, 5, 167, 0, 24, 42, 44, 182, 0, 41, 54, 5, 167, 0, 14, 42, 4, 42, 180, 0, 44, 182, 0, 47, 54, 5, 21, 5, 153, 0, 12] i := wB_of (by decide +kernel)
theorem d_Reader_read_76 : decode b_Reader_read 76 = .ok (.aload_n 0, 1) := dc_42 (q0_win (r := 0) wn_Reader_read_76 (by decide +kernel))
theorem d_Reader_read_77 : decode b_Reader_read 77 = .ok (.aload_n 2, 1) := dc_44 (q0_win (r := 1) wn_Reader_read_76 (by decide +kernel))
theorem d_Reader_read_78 : decode b_Reader_read 78 = .ok (.invokevirtual 19, 3) := dc_182 (qU2_win (r := 2) wn_Reader_read_76 (by decide +kernel))
theorem d_Reader_read_81 : decode b_Reader_read 81 = .ok (.istore 5, 2) := dc_54 (qU1_win (r := 5) wn_Reader_read_76 (by decide +kernel))
theorem d_Reader_read_83 : decode b_Reader_read 83 = .ok (.goto 84, 3) := dc_167 (qS2_win (r := 7) wn_Reader_read_76 (by decide +kernel))
theorem d_Reader_read_86 : decode b_Reader_read 86 = .ok (.aload_n 0, 1) := dc_42 (q0_win (r := 10) wn_Reader_read_76 (by decide +kernel))
theorem d_Reader_read_87 : decode b_Reader_read 87 = .ok (.aload_n 2, 1) := dc_44 (q0_win (r := 11) wn_Reader_read_76 (by decide +kernel))
theorem d_Reader_read_88 : decode b_Reader_read 88 = .ok (.invokevirtual 23, 3) := dc_182 (qU2_win (r := 12) wn_Reader_read_76 (by decide +kernel))
theorem d_Reader_read_91 : decode b_Reader_read 91 = .ok (.istore 5, 2) := dc_54 (qU1_win (r := 15) wn_Reader_read_76 (by decide +kernel))
theorem d_Reader_read_93 : decode b_Reader_read 93 = .ok (.goto 74, 3) := dc_167 (qS2_win (r := 17) wn_Reader_read_76 (by decide +kernel))
theorem d_Reader_read_96 : decode b_Reader_read 96 = .ok (.aload_n 0, 1) := dc_42 (q0_win (r := 20) wn_Reader_read_76 (by decide +kernel))
theorem d_Reader_read_97 : decode b_Reader_read 97 = .ok (.aload_n 2, 1) := dc_44 (q0_win (r := 21) wn_Reader_read_76 (by decide +kernel))
theorem d_Reader_read_98 : decode b_Reader_read 98 = .ok (.invokevirtual 26, 3) := dc_182 (qU2_win (r := 22) wn_Reader_read_76 (by decide +kernel))
theorem d_Reader_read_101 : decode b_Reader_read 101 = .ok (.istore 5, 2) := dc_54 (qU1_win (r := 25) wn_Reader_read_76 (by decide +kernel))
theorem d_Reader_read_103 : decode b_Reader_read 103 = .ok (.goto 64, 3) := dc_167 (qS2_win (r := 27) wn_Reader_read_76 (by decide +kernel))
theorem d_Reader_read_106 : decode b_Reader_read 106 = .ok (.aload_n 0, 1) := dc_42 (q0_win (r := 30) wn_Reader_read_76 (by decide +kernel))
theorem d_Reader_read_107 : decode b_Reader_read 107 = .ok (.aload_n 2, 1) := dc_44 (q0_win (r := 31) wn_Reader_read_76 (by decide +kernel))
theorem d_Reader_read_108 : decode b_Reader_read 108 = .ok (.invokevirtual 29, 3) := dc_182 (qU2_win (r := 32) wn_Reader_read_76 (by decide +kernel))
theorem d_Reader_read_111 : decode b_Reader_read 111 = .ok (.istore 5, 2) := dc_54 (qU1_win (r := 35) wn_Reader_read_76 (by decide +kernel))
theorem d_Reader_read_113 : decode b_Reader_read 113 = .ok (.goto 54, 3) := dc_167 (qS2_win (r := 37) wn_Reader_read_76 (by decide +kernel))
theorem d_Reader_read_116 : decode b_Reader_read 116 = .ok (.aload_n 0, 1) := dc_42 (q0_win (r := 40) wn_Reader_read_76 (by decide +kernel))
theorem d_Reader_read_117 : decode b_Reader_read 117 = .ok (.aload_n 2, 1) := dc_44 (q0_win (r := 41) wn_Reader_read_76 (by decide +kernel))
theorem d_Reader_read_118 : decode b_Reader_read 118 = .ok (.invokevirtual 32, 3) := dc_182 (qU2_win (r := 42) wn_Reader_read_76 (by decide +kernel))
theorem d_Reader_read_121 : decode b_Reader_read 121 = .ok (.istore 5, 2) := dc_54 (qU1_win (r := 45) wn_Reader_read_76 (by decide +kernel))
theorem d_Reader_read_123 : decode b_Reader_read 123 = .ok (.goto 44, 3) := dc_167 (qS2_win (r := 47) wn_Reader_read_76 (by decide +kernel))
theorem d_Reader_read_126 : decode b_Reader_read 126 = .ok (.aload_n 0, 1) := dc_42 (q0_win (r := 50) wn_Reader_read_76 (by decide +kernel))
theorem d_Reader_read_127 : decode b_Reader_read 127 = .ok (.aload_n 2, 1) := dc_44 (q0_win (r := 51) wn_Reader_read_76 (by decide +kernel))
theorem d_Reader_read_128 : decode b_Reader_read 128 = .ok (.invokevirtual 35, 3) := dc_182 (qU2_win (r := 52) wn_Reader_read_76 (by decide +kernel))
theorem d_Reader_read_131 : decode b_Reader_read 131 = .ok (.istore 5, 2) := dc_54 (qU1_win (r := 55) wn_Reader_read_76 (by decide +kernel))
theorem d_Reader_read_133 : decode b_Reader_read 133 = .ok (.goto 34, 3) := dc_167 (qS2_win (r := 57) wn_Reader_read_76 (by decide +kernel))
theorem d_Reader_read_136 : decode b_Reader_read 136 = .ok (.aload_n 0, 1) := dc_42 (q0_win (r := 60) wn_Reader_read_76 (by decide +kernel))
theorem d_Reader_read_137 : decode b_Reader_read 137 = .ok (.aload_n 2, 1) := dc_44 (q0_win (r := 61) wn_Reader_read_76 (by decide +kernel))
theorem d_Reader_read_138 : decode b_Reader_read 138 = .ok (.invokevirtual 38, 3) := dc_182 (qU2_win (r := 62) wn_Reader_read_76 (by decide +kernel))
theorem d_Reader_read_141 : decode b_Reader_read 141 = .ok (.istore 5, 2) := dc_54 (qU1_win (r := 65) wn_Reader_read_76 (by decide +kernel))
theorem d_Reader_read_143 : decode b_Reader_read 143 = .ok (.goto 24, 3) := dc_167 (qS2_win (r := 67) wn_Reader_read_76 (by decide +kernel))
theorem d_Reader_read_146 : decode b_Reader_read 146 = .ok (.aload_n 0, 1) := dc_42 (q0_win (r := 70) wn_Reader_read_76 (by decide +kernel))
theorem d_Reader_read_147 : decode b_Reader_read 147 = .ok (.aload_n 2, 1) := dc_44 (q0_win (r := 71) wn_Reader_read_76 (by decide +kernel))
theorem d_Reader_read_148 : decode b_Reader_read 148 = .ok (.invokevirtual 41, 3) := dc_182 (qU2_win (r := 72) wn_Reader_read_76 (by decide +kernel))
theorem d_Reader_read_151 : decode b_Reader_read 151 = .ok (.istore 5, 2) := dc_54 (qU1_win (r := 75) wn_Reader_read_76 (by decide +kernel))
theorem d_Reader_read_153 : decode b_Reader_read 153 = .ok (.goto 14, 3) := dc_167 (qS2_win (r := 77) wn_Reader_read_76 (by decide +kernel))
theorem d_Reader_read_156 : decode b_Reader_read 156 = .ok (.aload_n 0, 1) := dc_42 (q0_win (r := 80) wn_Reader_read_76 (by decide +kernel))
theorem d_Reader_read_157 : decode b_Reader_read 157 = .ok (.iconst 1, 1) := dc_4 (q0_win (r := 81) wn_Reader_read_76 (by decide +kernel))
theorem d_Reader_read_158 : decode b_Reader_read 158 = .ok (.aload_n 0, 1) := dc_42 (q0_win (r := 82) wn_Reader_read_76 (by decide +kernel))
theorem d_Reader_read_159 : decode b_Reader_read 159 = .ok (.getfield 44, 3) := dc_180 (qU2_win (r := 83) wn_Reader_read_76 (by decide +kernel))
theorem d_Reader_read_162 : decode b_Reader_read 162 = .ok (.invokevirtual 47, 3) := dc_182 (qU2_win (r := 86) wn_Reader_read_76 (by decide +kernel))
theorem d_Reader_read_165 : decode b_Reader_read 165 = .ok (.istore 5, 2) := dc_54 (qU1_win (r := 89) wn_Reader_read_76 (by decide +kernel))
theorem d_Reader_read_167 : decode b_Reader_read 167 = .ok (.iload 5, 2) := dc_21 (qU1_win (r := 91) wn_Reader_read_76 (by decide +kernel))
theorem d_Reader_read_169 : decode b_Reader_read 169 = .ok (.ifCond .eq 12, 3) := dc_153 (qS2_win (r := 93) wn_Reader_read_76 (by decide +kernel))
theorem wn_Reader_read_172 : ∀ i, i < 26 → bA b_Reader_read (172 + i) = wB [42, 16, 40, 182, 0, 51, 154, 0, 5, 2, 172, 132, 3, 1, 132, 4, 1, 167, 255, 77, 44, 182, 0, 55, 29, 172] i := wB_of (by decide +kernel)
theorem d_Reader_read_172 : decode b_Reader_read 172 = .ok (.aload_n 0, 1) := dc_42 (q0_win (r := 0) wn_Reader_read_172 (by decide +kernel))
theorem d_Reader_read_173 : decode b_Reader_read 173 = .ok (.bipush 40, 2) := dc_16 (qS1_win (r := 1) wn_Reader_read_172 (by decide +kernel))
theorem d_Reader_read_175 : decode b_Reader_read 175 = .ok (.invokevirtual 51, 3) := dc_182 (qU2_win (r := 3) wn_Reader_read_172 (by decide +kernel))
theorem d_Reader_read_178 : decode b_Reader_read 178 = .ok (.ifCond .ne 5, 3) := dc_154 (qS2_win (r := 6) wn_Reader_read_172 (by decide +kernel))
theorem d_Reader_read_181 : decode b_Reader_read 181 = .ok (.iconst (-1), 1) := dc_2 (q0_win (r := 9) wn_Reader_read_172 (by decide +kernel))
theorem d_Reader_read_182 : decode b_Reader_read 182 = .ok (.ireturn, 1) := dc_172 (q0_win (r := 10) wn_Reader_read_172 (by decide +kernel))
theorem d_Reader_read_183 : decode b_Reader_read 183 = .ok (.iinc 3 1, 3) := dc_132 (qI_win (r := 11) wn_Reader_read_172 (by decide +kernel))
theorem d_Reader_read_186 : decode b_Reader_read 186 = .ok (.iinc 4 1, 3) := dc_132 (qI_win (r := 14) wn_Reader_read_172 (by decide +kernel))
theorem d_Reader_read_189 : decode b_Reader_read 189 = .ok (.goto (-179), 3) := dc_167 (qS2_win (r := 17) wn_Reader_read_172 (by decide +kernel))
theorem d_Reader_read_192 : decode b_Reader_read 192 = .ok (.aload_n 2, 1) := dc_44 (q0_win (r := 20) wn_Reader_read_172 (by decide +kernel))
theorem d_Reader_read_193 : decode b_Reader_read 193 = .ok (.invokevirtual 55, 3) := dc_182 (qU2_win (r := 21) wn_Reader_read_172 (by decide +kernel))
theorem d_Reader_read_196 : decode b_Reader_read 196 = .ok (.iload_n 3, 1) := dc_29 (q0_win (r := 24) wn_Reader_read_172 (by decide +kernel))
theorem d_Reader_read_197 : decode b_Reader_read 197 = .ok (.ireturn, 1) := dc_172 (q0_win (r := 25) wn_Reader_read_172 (by decide +kernel))
def t_Reader_read_L167 (k2 : Nat) (bk10 : Mem → Int → Int → Option (Mem × Int)) (M : Mem) (v2_ : Int) (v3_ : Int) (v4_ : Int) : Option (Mem × Int) := (if v4_ = 0 then (some (M, (-1))) else (obind (t_Reader_take M 40) fun q37 => (if (q37.2) = 0 then (some ((q37.1), (-1))) else (bk10 (q37.1) (w32 (v2_ + 1)) (w32 (v3_ + 1))))))
def t_Reader_read_L192 (k2 : Nat)  (M : Mem) (v1_ : Int) : Option (Mem × Int) := (obind (t_Town_settle M k2) fun q34 => (some (q34, v1_)))
def t_Reader_read_L10 (k2 : Nat)  : Nat → Mem → Int → Int → Option (Mem × Int)
  | 0, _, _, _ => none
  | fu + 1, M, v2_, v3_ => (if 700 ≤ v3_ then (t_Reader_read_L192 k2 M v2_) else (if (M.1 46 2) = 32 then (t_Reader_read_L192 k2 M v2_) else (if (M.1 46 2) = 0 then (obind (t_Reader_readTown M k2) fun q8 => (t_Reader_read_L167 k2 (fun a0_ a1_ a2_ => t_Reader_read_L10 k2 fu a0_ a1_ a2_) (q8.1) v2_ v3_ (q8.2))) else (if (M.1 46 2) = 1 then (obind (t_Reader_readWard M k2) fun q11 => (t_Reader_read_L167 k2 (fun a0_ a1_ a2_ => t_Reader_read_L10 k2 fu a0_ a1_ a2_) (q11.1) v2_ v3_ (q11.2))) else (if (M.1 46 2) = 2 then (obind (t_Reader_readPart M k2) fun q14 => (t_Reader_read_L167 k2 (fun a0_ a1_ a2_ => t_Reader_read_L10 k2 fu a0_ a1_ a2_) (q14.1) v2_ v3_ (q14.2))) else (if (M.1 46 2) = 3 then (obind (t_Reader_readWall M k2) fun q17 => (t_Reader_read_L167 k2 (fun a0_ a1_ a2_ => t_Reader_read_L10 k2 fu a0_ a1_ a2_) (q17.1) v2_ v3_ (q17.2))) else (if (M.1 46 2) = 4 then (obind (t_Reader_readStair M k2) fun q20 => (t_Reader_read_L167 k2 (fun a0_ a1_ a2_ => t_Reader_read_L10 k2 fu a0_ a1_ a2_) (q20.1) v2_ v3_ (q20.2))) else (if (M.1 46 2) = 5 then (obind (t_Reader_readThing M k2) fun q23 => (t_Reader_read_L167 k2 (fun a0_ a1_ a2_ => t_Reader_read_L10 k2 fu a0_ a1_ a2_) (q23.1) v2_ v3_ (q23.2))) else (if (M.1 46 2) = 6 then (obind (t_Reader_readSeed M k2) fun q26 => (t_Reader_read_L167 k2 (fun a0_ a1_ a2_ => t_Reader_read_L10 k2 fu a0_ a1_ a2_) (q26.1) v2_ v3_ (q26.2))) else (if (M.1 46 2) = 7 then (obind (t_Reader_readLaw M k2) fun q29 => (t_Reader_read_L167 k2 (fun a0_ a1_ a2_ => t_Reader_read_L10 k2 fu a0_ a1_ a2_) (q29.1) v2_ v3_ (q29.2))) else (qlet (t_Reader_refuse M 1 (M.1 46 4)) fun q32 => (t_Reader_read_L167 k2 (fun a0_ a1_ a2_ => t_Reader_read_L10 k2 fu a0_ a1_ a2_) (q32.1) v2_ v3_ (q32.2)))))))))))))
def t_Reader_read (M : Mem) (k2 : Nat) : Option (Mem × Int) := (obind (t_Reader_begin M) fun q1 => (t_Reader_read_L10 k2 FU q1 0 0))
set_option maxHeartbeats 4000000 in
set_option maxRecDepth 100000 in
theorem k_Reader_read_L167 (l : Launch) {p : Program} {e : Env} {s : State} {m : MethodId} {below : List Frame} {meth : Method} {c : Code} {b n : Nat} {C : CT} (hlo : 191 ≤ n) (k2 : Nat) (hk2 : isTown k2) (F : Cx b p m c b_Reader_read 6 s ([.ref (b + 46), .ref (b + 42), .ref (b + k2)] : List Value).toArray "WardFalls$Reader" C n 191) (hlk : meth.locks = false) (hr : meth.sig.returnType = some .int) {res : Mem × Int} (bk10 : Mem → Int → Int → Option (Mem × Int)) (hbk10 : ∀ (M : Mem) (v2_ : Int) (hv2_ : InR v2_) (v3_ : Int) (hv3_ : InR v3_) (H : Heap) (locs : List Loc) (ls : Array Slot), St b C n M s H locs → lv_has ls 6 [(0, .ref (b + 46)), (2, .ref (b + k2)), (3, vI v2_), (4, vI v3_)] → bk10 M v2_ v3_ = some res → W p l e (headSpec (wsM y_Reader_read b_Reader_read 6 (some .int)) (rmD 6)).room s m ([.ref (b + 46), .ref (b + 42), .ref (b + k2)] : List Value).toArray below meth c H locs 0 0 (MQ below (QI b C n res.1 res.2) ([.ref (b + 46), .ref (b + 42), .ref (b + k2)] : List Value).toArray s 0 0 (frb b)) (F0 m 10 ls [])) (M : Mem) (v2_ : Int) (hv2_ : InR v2_) (v3_ : Int) (hv3_ : InR v3_) (v4_ : Int) (hv4_ : v4_ = 0 ∨ v4_ = 1) (H : Heap) (locs : List Loc) (ls : Array Slot) (hS : St b C n M s H locs) (hl : lv_has ls 6 [(0, .ref (b + 46)), (2, .ref (b + k2)), (3, vI v2_), (4, vI v3_), (5, vI v4_)]) (hT : t_Reader_read_L167 k2 bk10 M v2_ v3_ v4_ = some res) : W p l e (headSpec (wsM y_Reader_read b_Reader_read 6 (some .int)) (rmD 6)).room s m ([.ref (b + 46), .ref (b + 42), .ref (b + k2)] : List Value).toArray below meth c H locs 0 0 (MQ below (QI b C n res.1 res.2) ([.ref (b + 46), .ref (b + 42), .ref (b + k2)] : List Value).toArray s 0 0 (frb b)) (F0 m 167 ls []) := by
  unfold t_Reader_read_L167 at hT
  refine lv_iload F.hx F.hb d_Reader_read_167 (lv_at hl 4 rfl) ?_
  refine r_if_eq (tgt := 181) F.hx F.hb (inr_z hv4_) d_Reader_read_169 (by decide) (fun c36 => ?_) (fun c36 => ?_)
  · replace hT := (if_pos c36).symm.trans hT
    refine r_iconst F.hx F.hb d_Reader_read_181 ?_
    cases hT
    exact r_iret F hlk hr rfl hS (inr_c rfl) d_Reader_read_182
  · replace hT := (if_neg c36).symm.trans hT
    refine lv_aload_n F.hx F.hb d_Reader_read_172 rfl (lv_at hl 0 rfl) ?_
    refine r_bipush F.hx F.hb d_Reader_read_173 rfl ?_
    obtain ⟨q37, hq37, hT⟩ := q_obind hT
    refine r_backZ F hS (r_runV (k := 46) (N := 11) (T := T8) (As := [vI 40]) F hS (show 46 < 191 by decide) (show shK 46 = 12 from rfl) rfl (c_Reader_take l F.2.2.1 M 40 (inr_c rfl) _ hq37) gs_Reader_51 hd_Reader_take ⟨Nat.le_of_ble_eq_true rfl, Nat.le_of_ble_eq_true rfl⟩ rfl hl.1 (Nat.le_of_ble_eq_true rfl) ⟨Nat.zero_le _, Nat.zero_le _⟩ rfl d_Reader_read_175) (fun H locs hS h38 => ?_)
    refine r_if_ne (tgt := 183) F.hx F.hb (inr_z h38) d_Reader_read_178 (by decide) (fun c39 => ?_) (fun c39 => ?_)
    · replace hT := (if_neg c39).symm.trans hT
      refine lv_iinc (v := Int32.ofInt (w32 (v2_ + 1))) (lv' := [(3, vI (w32 (v2_ + 1))), (0, .ref (b + 46)), (2, .ref (b + k2)), (4, vI v3_), (5, vI v4_)]) F.hx F.hb d_Reader_read_183 hl (k := 2) rfl (q_of_add _ _) (Nat.le_of_ble_eq_true rfl) rfl (fun ls hl => ?_)
      refine lv_iinc (v := Int32.ofInt (w32 (v3_ + 1))) (lv' := [(4, vI (w32 (v3_ + 1))), (3, vI (w32 (v2_ + 1))), (0, .ref (b + 46)), (2, .ref (b + k2)), (5, vI v4_)]) F.hx F.hb d_Reader_read_186 hl (k := 3) rfl (q_of_add _ _) (Nat.le_of_ble_eq_true rfl) rfl (fun ls hl => ?_)
      refine lv_goto (tgt := 10) F.hx F.hb d_Reader_read_189 (by decide) ?_
      exact hbk10 (q37.1) (w32 (v2_ + 1)) (inr_w32 _) (w32 (v3_ + 1)) (inr_w32 _) _ _ _ hS (lv_sub hl [2, 3, 1, 0] rfl) hT
    · replace hT := (if_pos c39).symm.trans hT
      refine r_iconst F.hx F.hb d_Reader_read_181 ?_
      cases hT
      exact r_iret F hlk hr rfl hS (inr_c rfl) d_Reader_read_182
set_option maxHeartbeats 4000000 in
set_option maxRecDepth 100000 in
theorem k_Reader_read_L192 (l : Launch) {p : Program} {e : Env} {s : State} {m : MethodId} {below : List Frame} {meth : Method} {c : Code} {b n : Nat} {C : CT} (hlo : 191 ≤ n) (k2 : Nat) (hk2 : isTown k2) (F : Cx b p m c b_Reader_read 6 s ([.ref (b + 46), .ref (b + 42), .ref (b + k2)] : List Value).toArray "WardFalls$Reader" C n 191) (hlk : meth.locks = false) (hr : meth.sig.returnType = some .int) {res : Mem × Int} (M : Mem) (v1_ : Int) (hv1_ : InR v1_) (H : Heap) (locs : List Loc) (ls : Array Slot) (hS : St b C n M s H locs) (hl : lv_has ls 6 [(2, .ref (b + k2)), (3, vI v1_)]) (hT : t_Reader_read_L192 k2 M v1_ = some res) : W p l e (headSpec (wsM y_Reader_read b_Reader_read 6 (some .int)) (rmD 6)).room s m ([.ref (b + 46), .ref (b + 42), .ref (b + k2)] : List Value).toArray below meth c H locs 0 0 (MQ below (QI b C n res.1 res.2) ([.ref (b + 46), .ref (b + 42), .ref (b + k2)] : List Value).toArray s 0 0 (frb b)) (F0 m 192 ls []) := by
  unfold t_Reader_read_L192 at hT
  refine lv_aload_n F.hx F.hb d_Reader_read_192 rfl (lv_at hl 0 rfl) ?_
  obtain ⟨q34, hq34, hT⟩ := q_obind hT
  refine r_backV F hS (r_runV (k := k2) (N := 20) (T := T11) (As := []) F hS (Town_lt hk2) (Town_sh hk2) rfl (c_Town_settle l F.2.2.1 M k2 hk2 _ hq34) gs_Reader_55 hd_Town_settle ⟨Nat.le_of_ble_eq_true rfl, Nat.le_of_ble_eq_true rfl⟩ rfl hl.1 (Nat.le_of_ble_eq_true rfl) ⟨Nat.zero_le _, Nat.zero_le _⟩ rfl d_Reader_read_193) (fun H locs hS => ?_)
  refine lv_iload_n F.hx F.hb d_Reader_read_196 rfl (lv_at hl 1 rfl) ?_
  cases hT
  exact r_iret F hlk hr rfl hS hv1_ d_Reader_read_197
set_option maxHeartbeats 4000000 in
set_option maxRecDepth 100000 in
theorem k_Reader_read_L10 (l : Launch) {p : Program} {e : Env} {s : State} {m : MethodId} {below : List Frame} {meth : Method} {c : Code} {b n : Nat} {C : CT} (hlo : 191 ≤ n) (k2 : Nat) (hk2 : isTown k2) (F : Cx b p m c b_Reader_read 6 s ([.ref (b + 46), .ref (b + 42), .ref (b + k2)] : List Value).toArray "WardFalls$Reader" C n 191) (hlk : meth.locks = false) (hr : meth.sig.returnType = some .int) {res : Mem × Int} : ∀ (fu : Nat) (M : Mem) (v2_ : Int) (hv2_ : InR v2_) (v3_ : Int) (hv3_ : InR v3_) (H : Heap) (locs : List Loc) (ls : Array Slot), St b C n M s H locs → lv_has ls 6 [(0, .ref (b + 46)), (2, .ref (b + k2)), (3, vI v2_), (4, vI v3_)] → t_Reader_read_L10 k2 fu M v2_ v3_ = some res → W p l e (headSpec (wsM y_Reader_read b_Reader_read 6 (some .int)) (rmD 6)).room s m ([.ref (b + 46), .ref (b + 42), .ref (b + k2)] : List Value).toArray below meth c H locs 0 0 (MQ below (QI b C n res.1 res.2) ([.ref (b + 46), .ref (b + 42), .ref (b + k2)] : List Value).toArray s 0 0 (frb b)) (F0 m 10 ls []) := by
  intro fu
  induction fu with
  | zero => intro M v2_ hv2_ v3_ hv3_ H locs ls hS hl hT; exact absurd hT (by simp [t_Reader_read_L10])
  | succ fu ih =>
    intro M v2_ hv2_ v3_ hv3_ H locs ls hS hl hT
    rw [t_Reader_read_L10] at hT
    refine lv_iload F.hx F.hb d_Reader_read_10 (lv_at hl 3 rfl) ?_
    refine r_sipush F.hx F.hb d_Reader_read_12 rfl ?_
    refine r_icmp_ge (tgt := 192) F.hx F.hb hv3_ (inr_c rfl) d_Reader_read_15 (by decide) (fun c3 => ?_) (fun c3 => ?_)
    · replace hT := (if_pos c3).symm.trans hT
      exact k_Reader_read_L192 l hlo k2 hk2 F hlk hr M v2_ hv2_ _ _ _ hS (lv_sub hl [1, 2] rfl) hT
    · replace hT := (if_neg c3).symm.trans hT
      refine lv_aload_n F.hx F.hb d_Reader_read_18 rfl (lv_at hl 0 rfl) ?_
      refine r_get (v := vI (M.1 46 2)) (N := 11) (T := T8) (j := 2) F hS (show 46 < 191 by decide) (show shK 46 = 12 from rfl) (show shN 46 = 11 from rfl) rfl (Nat.le_of_ble_eq_true rfl) ing8 mw_232 (fv_int rfl) d_Reader_read_19 ?_
      have i4 := hS.rng 46 2
      refine r_bipush F.hx F.hb d_Reader_read_22 rfl ?_
      refine r_icmp_eq (tgt := 192) F.hx F.hb i4 (inr_c rfl) d_Reader_read_24 (by decide) (fun c5 => ?_) (fun c5 => ?_)
      · replace hT := (if_pos c5).symm.trans hT
        exact k_Reader_read_L192 l hlo k2 hk2 F hlk hr M v2_ hv2_ _ _ _ hS (lv_sub hl [1, 2] rfl) hT
      · replace hT := (if_neg c5).symm.trans hT
        refine lv_aload_n F.hx F.hb d_Reader_read_27 rfl (lv_at hl 0 rfl) ?_
        refine r_get (v := vI (M.1 46 2)) (N := 11) (T := T8) (j := 2) F hS (show 46 < 191 by decide) (show shK 46 = 12 from rfl) (show shN 46 = 11 from rfl) rfl (Nat.le_of_ble_eq_true rfl) ing8 mw_232 (fv_int rfl) d_Reader_read_28 ?_
        have i6 := hS.rng 46 2
        rcases q_ite hT with ⟨c7, hT⟩ | ⟨c7, hT⟩
        · refine r_tableIn (i := 0) (tgt := 76) F.hx F.hb i6 c7 d_Reader_read_31 (by decide) (by decide) rfl (by decide) ?_
          refine lv_aload_n F.hx F.hb d_Reader_read_76 rfl (lv_at hl 0 rfl) ?_
          refine lv_aload_n F.hx F.hb d_Reader_read_77 rfl (lv_at hl 1 rfl) ?_
          obtain ⟨q8, hq8, hT⟩ := q_obind hT
          refine r_backZ F hS (r_runV (k := 46) (N := 11) (T := T8) (As := [.ref (b + k2)]) F hS (show 46 < 191 by decide) (show shK 46 = 12 from rfl) rfl (c_Reader_readTown l F.2.2.1 M k2 hk2 _ hq8) gs_Reader_19 hd_Reader_readTown ⟨Nat.le_of_ble_eq_true rfl, Nat.le_of_ble_eq_true rfl⟩ rfl hl.1 (Nat.le_of_ble_eq_true rfl) ⟨Nat.zero_le _, Nat.zero_le _⟩ rfl d_Reader_read_78) (fun H locs hS h9 => ?_)
          refine lv_istore (lv' := [(5, vI (q8.2)), (0, .ref (b + 46)), (2, .ref (b + k2)), (3, vI v2_), (4, vI v3_)]) F.hx F.hb d_Reader_read_81 hl (Nat.le_of_ble_eq_true rfl) rfl (fun ls hl => ?_)
          refine lv_goto (tgt := 167) F.hx F.hb d_Reader_read_83 (by decide) ?_
          exact k_Reader_read_L167 l hlo k2 hk2 F hlk hr (fun a0_ a1_ a2_ => t_Reader_read_L10 k2 fu a0_ a1_ a2_) ih (q8.1) v2_ hv2_ v3_ hv3_ (q8.2) h9 _ _ _ hS (lv_sub hl [1, 2, 3, 4, 0] rfl) hT
        ·
          rcases q_ite hT with ⟨c10, hT⟩ | ⟨c10, hT⟩
          · refine r_tableIn (i := 1) (tgt := 86) F.hx F.hb i6 c10 d_Reader_read_31 (by decide) (by decide) rfl (by decide) ?_
            refine lv_aload_n F.hx F.hb d_Reader_read_86 rfl (lv_at hl 0 rfl) ?_
            refine lv_aload_n F.hx F.hb d_Reader_read_87 rfl (lv_at hl 1 rfl) ?_
            obtain ⟨q11, hq11, hT⟩ := q_obind hT
            refine r_backZ F hS (r_runV (k := 46) (N := 11) (T := T8) (As := [.ref (b + k2)]) F hS (show 46 < 191 by decide) (show shK 46 = 12 from rfl) rfl (c_Reader_readWard l F.2.2.1 M k2 hk2 _ hq11) gs_Reader_23 hd_Reader_readWard ⟨Nat.le_of_ble_eq_true rfl, Nat.le_of_ble_eq_true rfl⟩ rfl hl.1 (Nat.le_of_ble_eq_true rfl) ⟨Nat.zero_le _, Nat.zero_le _⟩ rfl d_Reader_read_88) (fun H locs hS h12 => ?_)
            refine lv_istore (lv' := [(5, vI (q11.2)), (0, .ref (b + 46)), (2, .ref (b + k2)), (3, vI v2_), (4, vI v3_)]) F.hx F.hb d_Reader_read_91 hl (Nat.le_of_ble_eq_true rfl) rfl (fun ls hl => ?_)
            refine lv_goto (tgt := 167) F.hx F.hb d_Reader_read_93 (by decide) ?_
            exact k_Reader_read_L167 l hlo k2 hk2 F hlk hr (fun a0_ a1_ a2_ => t_Reader_read_L10 k2 fu a0_ a1_ a2_) ih (q11.1) v2_ hv2_ v3_ hv3_ (q11.2) h12 _ _ _ hS (lv_sub hl [1, 2, 3, 4, 0] rfl) hT
          ·
            rcases q_ite hT with ⟨c13, hT⟩ | ⟨c13, hT⟩
            · refine r_tableIn (i := 2) (tgt := 96) F.hx F.hb i6 c13 d_Reader_read_31 (by decide) (by decide) rfl (by decide) ?_
              refine lv_aload_n F.hx F.hb d_Reader_read_96 rfl (lv_at hl 0 rfl) ?_
              refine lv_aload_n F.hx F.hb d_Reader_read_97 rfl (lv_at hl 1 rfl) ?_
              obtain ⟨q14, hq14, hT⟩ := q_obind hT
              refine r_backZ F hS (r_runV (k := 46) (N := 11) (T := T8) (As := [.ref (b + k2)]) F hS (show 46 < 191 by decide) (show shK 46 = 12 from rfl) rfl (c_Reader_readPart l F.2.2.1 M k2 hk2 _ hq14) gs_Reader_26 hd_Reader_readPart ⟨Nat.le_of_ble_eq_true rfl, Nat.le_of_ble_eq_true rfl⟩ rfl hl.1 (Nat.le_of_ble_eq_true rfl) ⟨Nat.zero_le _, Nat.zero_le _⟩ rfl d_Reader_read_98) (fun H locs hS h15 => ?_)
              refine lv_istore (lv' := [(5, vI (q14.2)), (0, .ref (b + 46)), (2, .ref (b + k2)), (3, vI v2_), (4, vI v3_)]) F.hx F.hb d_Reader_read_101 hl (Nat.le_of_ble_eq_true rfl) rfl (fun ls hl => ?_)
              refine lv_goto (tgt := 167) F.hx F.hb d_Reader_read_103 (by decide) ?_
              exact k_Reader_read_L167 l hlo k2 hk2 F hlk hr (fun a0_ a1_ a2_ => t_Reader_read_L10 k2 fu a0_ a1_ a2_) ih (q14.1) v2_ hv2_ v3_ hv3_ (q14.2) h15 _ _ _ hS (lv_sub hl [1, 2, 3, 4, 0] rfl) hT
            ·
              rcases q_ite hT with ⟨c16, hT⟩ | ⟨c16, hT⟩
              · refine r_tableIn (i := 3) (tgt := 106) F.hx F.hb i6 c16 d_Reader_read_31 (by decide) (by decide) rfl (by decide) ?_
                refine lv_aload_n F.hx F.hb d_Reader_read_106 rfl (lv_at hl 0 rfl) ?_
                refine lv_aload_n F.hx F.hb d_Reader_read_107 rfl (lv_at hl 1 rfl) ?_
                obtain ⟨q17, hq17, hT⟩ := q_obind hT
                refine r_backZ F hS (r_runV (k := 46) (N := 11) (T := T8) (As := [.ref (b + k2)]) F hS (show 46 < 191 by decide) (show shK 46 = 12 from rfl) rfl (c_Reader_readWall l F.2.2.1 M k2 hk2 _ hq17) gs_Reader_29 hd_Reader_readWall ⟨Nat.le_of_ble_eq_true rfl, Nat.le_of_ble_eq_true rfl⟩ rfl hl.1 (Nat.le_of_ble_eq_true rfl) ⟨Nat.zero_le _, Nat.zero_le _⟩ rfl d_Reader_read_108) (fun H locs hS h18 => ?_)
                refine lv_istore (lv' := [(5, vI (q17.2)), (0, .ref (b + 46)), (2, .ref (b + k2)), (3, vI v2_), (4, vI v3_)]) F.hx F.hb d_Reader_read_111 hl (Nat.le_of_ble_eq_true rfl) rfl (fun ls hl => ?_)
                refine lv_goto (tgt := 167) F.hx F.hb d_Reader_read_113 (by decide) ?_
                exact k_Reader_read_L167 l hlo k2 hk2 F hlk hr (fun a0_ a1_ a2_ => t_Reader_read_L10 k2 fu a0_ a1_ a2_) ih (q17.1) v2_ hv2_ v3_ hv3_ (q17.2) h18 _ _ _ hS (lv_sub hl [1, 2, 3, 4, 0] rfl) hT
              ·
                rcases q_ite hT with ⟨c19, hT⟩ | ⟨c19, hT⟩
                · refine r_tableIn (i := 4) (tgt := 116) F.hx F.hb i6 c19 d_Reader_read_31 (by decide) (by decide) rfl (by decide) ?_
                  refine lv_aload_n F.hx F.hb d_Reader_read_116 rfl (lv_at hl 0 rfl) ?_
                  refine lv_aload_n F.hx F.hb d_Reader_read_117 rfl (lv_at hl 1 rfl) ?_
                  obtain ⟨q20, hq20, hT⟩ := q_obind hT
                  refine r_backZ F hS (r_runV (k := 46) (N := 11) (T := T8) (As := [.ref (b + k2)]) F hS (show 46 < 191 by decide) (show shK 46 = 12 from rfl) rfl (c_Reader_readStair l F.2.2.1 M k2 hk2 _ hq20) gs_Reader_32 hd_Reader_readStair ⟨Nat.le_of_ble_eq_true rfl, Nat.le_of_ble_eq_true rfl⟩ rfl hl.1 (Nat.le_of_ble_eq_true rfl) ⟨Nat.zero_le _, Nat.zero_le _⟩ rfl d_Reader_read_118) (fun H locs hS h21 => ?_)
                  refine lv_istore (lv' := [(5, vI (q20.2)), (0, .ref (b + 46)), (2, .ref (b + k2)), (3, vI v2_), (4, vI v3_)]) F.hx F.hb d_Reader_read_121 hl (Nat.le_of_ble_eq_true rfl) rfl (fun ls hl => ?_)
                  refine lv_goto (tgt := 167) F.hx F.hb d_Reader_read_123 (by decide) ?_
                  exact k_Reader_read_L167 l hlo k2 hk2 F hlk hr (fun a0_ a1_ a2_ => t_Reader_read_L10 k2 fu a0_ a1_ a2_) ih (q20.1) v2_ hv2_ v3_ hv3_ (q20.2) h21 _ _ _ hS (lv_sub hl [1, 2, 3, 4, 0] rfl) hT
                ·
                  rcases q_ite hT with ⟨c22, hT⟩ | ⟨c22, hT⟩
                  · refine r_tableIn (i := 5) (tgt := 126) F.hx F.hb i6 c22 d_Reader_read_31 (by decide) (by decide) rfl (by decide) ?_
                    refine lv_aload_n F.hx F.hb d_Reader_read_126 rfl (lv_at hl 0 rfl) ?_
                    refine lv_aload_n F.hx F.hb d_Reader_read_127 rfl (lv_at hl 1 rfl) ?_
                    obtain ⟨q23, hq23, hT⟩ := q_obind hT
                    refine r_backZ F hS (r_runV (k := 46) (N := 11) (T := T8) (As := [.ref (b + k2)]) F hS (show 46 < 191 by decide) (show shK 46 = 12 from rfl) rfl (c_Reader_readThing l F.2.2.1 M k2 hk2 _ hq23) gs_Reader_35 hd_Reader_readThing ⟨Nat.le_of_ble_eq_true rfl, Nat.le_of_ble_eq_true rfl⟩ rfl hl.1 (Nat.le_of_ble_eq_true rfl) ⟨Nat.zero_le _, Nat.zero_le _⟩ rfl d_Reader_read_128) (fun H locs hS h24 => ?_)
                    refine lv_istore (lv' := [(5, vI (q23.2)), (0, .ref (b + 46)), (2, .ref (b + k2)), (3, vI v2_), (4, vI v3_)]) F.hx F.hb d_Reader_read_131 hl (Nat.le_of_ble_eq_true rfl) rfl (fun ls hl => ?_)
                    refine lv_goto (tgt := 167) F.hx F.hb d_Reader_read_133 (by decide) ?_
                    exact k_Reader_read_L167 l hlo k2 hk2 F hlk hr (fun a0_ a1_ a2_ => t_Reader_read_L10 k2 fu a0_ a1_ a2_) ih (q23.1) v2_ hv2_ v3_ hv3_ (q23.2) h24 _ _ _ hS (lv_sub hl [1, 2, 3, 4, 0] rfl) hT
                  ·
                    rcases q_ite hT with ⟨c25, hT⟩ | ⟨c25, hT⟩
                    · refine r_tableIn (i := 6) (tgt := 136) F.hx F.hb i6 c25 d_Reader_read_31 (by decide) (by decide) rfl (by decide) ?_
                      refine lv_aload_n F.hx F.hb d_Reader_read_136 rfl (lv_at hl 0 rfl) ?_
                      refine lv_aload_n F.hx F.hb d_Reader_read_137 rfl (lv_at hl 1 rfl) ?_
                      obtain ⟨q26, hq26, hT⟩ := q_obind hT
                      refine r_backZ F hS (r_runV (k := 46) (N := 11) (T := T8) (As := [.ref (b + k2)]) F hS (show 46 < 191 by decide) (show shK 46 = 12 from rfl) rfl (c_Reader_readSeed l F.2.2.1 M k2 hk2 _ hq26) gs_Reader_38 hd_Reader_readSeed ⟨Nat.le_of_ble_eq_true rfl, Nat.le_of_ble_eq_true rfl⟩ rfl hl.1 (Nat.le_of_ble_eq_true rfl) ⟨Nat.zero_le _, Nat.zero_le _⟩ rfl d_Reader_read_138) (fun H locs hS h27 => ?_)
                      refine lv_istore (lv' := [(5, vI (q26.2)), (0, .ref (b + 46)), (2, .ref (b + k2)), (3, vI v2_), (4, vI v3_)]) F.hx F.hb d_Reader_read_141 hl (Nat.le_of_ble_eq_true rfl) rfl (fun ls hl => ?_)
                      refine lv_goto (tgt := 167) F.hx F.hb d_Reader_read_143 (by decide) ?_
                      exact k_Reader_read_L167 l hlo k2 hk2 F hlk hr (fun a0_ a1_ a2_ => t_Reader_read_L10 k2 fu a0_ a1_ a2_) ih (q26.1) v2_ hv2_ v3_ hv3_ (q26.2) h27 _ _ _ hS (lv_sub hl [1, 2, 3, 4, 0] rfl) hT
                    ·
                      rcases q_ite hT with ⟨c28, hT⟩ | ⟨c28, hT⟩
                      · refine r_tableIn (i := 7) (tgt := 146) F.hx F.hb i6 c28 d_Reader_read_31 (by decide) (by decide) rfl (by decide) ?_
                        refine lv_aload_n F.hx F.hb d_Reader_read_146 rfl (lv_at hl 0 rfl) ?_
                        refine lv_aload_n F.hx F.hb d_Reader_read_147 rfl (lv_at hl 1 rfl) ?_
                        obtain ⟨q29, hq29, hT⟩ := q_obind hT
                        refine r_backZ F hS (r_runV (k := 46) (N := 11) (T := T8) (As := [.ref (b + k2)]) F hS (show 46 < 191 by decide) (show shK 46 = 12 from rfl) rfl (c_Reader_readLaw l F.2.2.1 M k2 hk2 _ hq29) gs_Reader_41 hd_Reader_readLaw ⟨Nat.le_of_ble_eq_true rfl, Nat.le_of_ble_eq_true rfl⟩ rfl hl.1 (Nat.le_of_ble_eq_true rfl) ⟨Nat.zero_le _, Nat.zero_le _⟩ rfl d_Reader_read_148) (fun H locs hS h30 => ?_)
                        refine lv_istore (lv' := [(5, vI (q29.2)), (0, .ref (b + 46)), (2, .ref (b + k2)), (3, vI v2_), (4, vI v3_)]) F.hx F.hb d_Reader_read_151 hl (Nat.le_of_ble_eq_true rfl) rfl (fun ls hl => ?_)
                        refine lv_goto (tgt := 167) F.hx F.hb d_Reader_read_153 (by decide) ?_
                        exact k_Reader_read_L167 l hlo k2 hk2 F hlk hr (fun a0_ a1_ a2_ => t_Reader_read_L10 k2 fu a0_ a1_ a2_) ih (q29.1) v2_ hv2_ v3_ hv3_ (q29.2) h30 _ _ _ hS (lv_sub hl [1, 2, 3, 4, 0] rfl) hT
                      ·
                        refine r_tableOut (tgt := 156) F.hx F.hb i6 (by omega) d_Reader_read_31 (by decide) ?_
                        refine lv_aload_n F.hx F.hb d_Reader_read_156 rfl (lv_at hl 0 rfl) ?_
                        refine r_iconst F.hx F.hb d_Reader_read_157 ?_
                        refine lv_aload_n F.hx F.hb d_Reader_read_158 rfl (lv_at hl 0 rfl) ?_
                        refine r_get (v := vI (M.1 46 4)) (N := 11) (T := T8) (j := 4) F hS (show 46 < 191 by decide) (show shK 46 = 12 from rfl) (show shN 46 = 11 from rfl) rfl (Nat.le_of_ble_eq_true rfl) ing8 mw_234 (fv_int rfl) d_Reader_read_159 ?_
                        have i31 := hS.rng 46 4
                        obtain ⟨q32, hq32⟩ : ∃ q, q = (t_Reader_refuse M 1 (M.1 46 4)) := ⟨_, rfl⟩
                        replace hT := qlet_eq hT hq32
                        refine r_backZ F hS (r_runV (k := 46) (N := 11) (T := T8) (As := [vI 1, vI (M.1 46 4)]) F hS (show 46 < 191 by decide) (show shK 46 = 12 from rfl) rfl (c_Reader_refuse l F.2.2.1 M 1 (M.1 46 4) (inr_c rfl) i31 _ hq32.symm) gs_Reader_47 hd_Reader_refuse ⟨Nat.le_of_ble_eq_true rfl, Nat.le_of_ble_eq_true rfl⟩ rfl hl.1 (Nat.le_of_ble_eq_true rfl) ⟨Nat.zero_le _, Nat.zero_le _⟩ rfl d_Reader_read_162) (fun H locs hS h33 => ?_)
                        refine lv_istore (lv' := [(5, vI (q32.2)), (0, .ref (b + 46)), (2, .ref (b + k2)), (3, vI v2_), (4, vI v3_)]) F.hx F.hb d_Reader_read_165 hl (Nat.le_of_ble_eq_true rfl) rfl (fun ls hl => ?_)
                        exact k_Reader_read_L167 l hlo k2 hk2 F hlk hr (fun a0_ a1_ a2_ => t_Reader_read_L10 k2 fu a0_ a1_ a2_) ih (q32.1) v2_ hv2_ v3_ hv3_ (q32.2) h33 _ _ _ hS (lv_sub hl [1, 2, 3, 4, 0] rfl) hT
set_option maxHeartbeats 4000000 in
set_option maxRecDepth 100000 in
theorem c_Reader_read (l : Launch) {b n : Nat} {C : CT} (hlo : 191 ≤ n) (M : Mem) (k2 : Nat) (hk2 : isTown k2) (res : Mem × Int) (hT : t_Reader_read M k2 = some res) : CM l b C n 6 y_Reader_read b_Reader_read 6 (some .int) [.ref (b + 46), .ref (b + 42), .ref (b + k2)] M (QI b C n res.1 res.2) := by
  refine CM.of (lo := 191) (ow := "WardFalls$Reader") (by decide) rfl (Nat.le_of_ble_eq_true rfl) hlo (fun p e s m below meth c F hlk hr hS ls hl => ?_)
  have hl : lv_has ls 6 [(0, .ref (b + 46)), (1, .ref (b + 42)), (2, .ref (b + k2))] := hl
  unfold t_Reader_read at hT
  refine lv_aload_n F.hx F.hb d_Reader_read_0 rfl (lv_at hl 0 rfl) ?_
  refine lv_aload_n F.hx F.hb d_Reader_read_1 rfl (lv_at hl 1 rfl) ?_
  obtain ⟨q1, hq1, hT⟩ := q_obind hT
  refine r_backV F hS (r_runV (k := 46) (N := 11) (T := T8) (As := [.ref (b + 42)]) F hS (show 46 < 191 by decide) (show shK 46 = 12 from rfl) rfl (c_Reader_begin l F.2.2.1 M _ hq1) gs_Reader_9 hd_Reader_begin ⟨Nat.le_of_ble_eq_true rfl, Nat.le_of_ble_eq_true rfl⟩ rfl hl.1 (Nat.le_of_ble_eq_true rfl) ⟨Nat.zero_le _, Nat.zero_le _⟩ rfl d_Reader_read_2) (fun H locs hS => ?_)
  refine r_iconst F.hx F.hb d_Reader_read_5 ?_
  refine lv_istore_n (lv' := [(3, vI 0), (0, .ref (b + 46)), (1, .ref (b + 42)), (2, .ref (b + k2))]) F.hx F.hb d_Reader_read_6 rfl hl (Nat.le_of_ble_eq_true rfl) rfl (fun ls hl => ?_)
  refine r_iconst F.hx F.hb d_Reader_read_7 ?_
  refine lv_istore (lv' := [(4, vI 0), (3, vI 0), (0, .ref (b + 46)), (1, .ref (b + 42)), (2, .ref (b + k2))]) F.hx F.hb d_Reader_read_8 hl (Nat.le_of_ble_eq_true rfl) rfl (fun ls hl => ?_)
  exact k_Reader_read_L10 l hlo k2 hk2 F hlk hr FU q1 0 (inr_c rfl) 0 (inr_c rfl) _ _ _ hS (lv_sub hl [2, 4, 1, 0] rfl) hT
theorem d_WF_text_0 : decode b_WF_text 0 = .ok (.iload_n 1, 1) := dc_27 (by decide +kernel)
theorem d_WF_text_1 : decode b_WF_text 1 = .ok (.ifCond .lt 11, 3) := dc_155 (by decide +kernel)
theorem d_WF_text_4 : decode b_WF_text 4 = .ok (.iload_n 1, 1) := dc_27 (by decide +kernel)
theorem d_WF_text_5 : decode b_WF_text 5 = .ok (.aload_n 0, 1) := dc_42 (by decide +kernel)
theorem d_WF_text_6 : decode b_WF_text 6 = .ok (.getfield 110, 3) := dc_180 (by decide +kernel)
theorem d_WF_text_9 : decode b_WF_text 9 = .ok (.if_icmp .le 6, 3) := dc_164 (by decide +kernel)
theorem d_WF_text_12 : decode b_WF_text 12 = .ok (.bipush (-2), 2) := dc_16 (by decide +kernel)
theorem d_WF_text_14 : decode b_WF_text 14 = .ok (.ireturn, 1) := dc_172 (by decide +kernel)
theorem d_WF_text_15 : decode b_WF_text 15 = .ok (.aload_n 0, 1) := dc_42 (by decide +kernel)
theorem d_WF_text_16 : decode b_WF_text 16 = .ok (.getfield 32, 3) := dc_180 (by decide +kernel)
theorem d_WF_text_19 : decode b_WF_text 19 = .ok (.aload_n 0, 1) := dc_42 (by decide +kernel)
theorem d_WF_text_20 : decode b_WF_text 20 = .ok (.getfield 11, 3) := dc_180 (by decide +kernel)
theorem d_WF_text_23 : decode b_WF_text 23 = .ok (.iload_n 1, 1) := dc_27 (by decide +kernel)
theorem d_WF_text_24 : decode b_WF_text 24 = .ok (.invokevirtual 117, 3) := dc_182 (by decide +kernel)
theorem d_WF_text_27 : decode b_WF_text 27 = .ok (.aload_n 0, 1) := dc_42 (by decide +kernel)
theorem d_WF_text_28 : decode b_WF_text 28 = .ok (.iconst 0, 1) := dc_3 (by decide +kernel)
theorem d_WF_text_29 : decode b_WF_text 29 = .ok (.putfield 110, 3) := dc_181 (by decide +kernel)
theorem d_WF_text_32 : decode b_WF_text 32 = .ok (.aload_n 0, 1) := dc_42 (by decide +kernel)
theorem d_WF_text_33 : decode b_WF_text 33 = .ok (.getfield 26, 3) := dc_180 (by decide +kernel)
theorem d_WF_text_36 : decode b_WF_text 36 = .ok (.invokevirtual 101, 3) := dc_182 (by decide +kernel)
theorem d_WF_text_39 : decode b_WF_text 39 = .ok (.aload_n 0, 1) := dc_42 (by decide +kernel)
theorem d_WF_text_40 : decode b_WF_text 40 = .ok (.getfield 39, 3) := dc_180 (by decide +kernel)
theorem d_WF_text_43 : decode b_WF_text 43 = .ok (.aload_n 0, 1) := dc_42 (by decide +kernel)
theorem d_WF_text_44 : decode b_WF_text 44 = .ok (.getfield 32, 3) := dc_180 (by decide +kernel)
theorem d_WF_text_47 : decode b_WF_text 47 = .ok (.aload_n 0, 1) := dc_42 (by decide +kernel)
theorem d_WF_text_48 : decode b_WF_text 48 = .ok (.getfield 26, 3) := dc_180 (by decide +kernel)
theorem d_WF_text_51 : decode b_WF_text 51 = .ok (.invokevirtual 121, 3) := dc_182 (by decide +kernel)
theorem d_WF_text_54 : decode b_WF_text 54 = .ok (.istore_n 2, 1) := dc_61 (by decide +kernel)
theorem d_WF_text_55 : decode b_WF_text 55 = .ok (.aload_n 0, 1) := dc_42 (by decide +kernel)
theorem d_WF_text_56 : decode b_WF_text 56 = .ok (.aload_n 0, 1) := dc_42 (by decide +kernel)
theorem d_WF_text_57 : decode b_WF_text 57 = .ok (.getfield 39, 3) := dc_180 (by decide +kernel)
theorem d_WF_text_60 : decode b_WF_text 60 = .ok (.getfield 125, 3) := dc_180 (by decide +kernel)
theorem d_WF_text_63 : decode b_WF_text 63 = .ok (.putfield 128, 3) := dc_181 (by decide +kernel)
theorem d_WF_text_66 : decode b_WF_text 66 = .ok (.aload_n 0, 1) := dc_42 (by decide +kernel)
theorem d_WF_text_67 : decode b_WF_text 67 = .ok (.aload_n 0, 1) := dc_42 (by decide +kernel)
theorem d_WF_text_68 : decode b_WF_text 68 = .ok (.getfield 39, 3) := dc_180 (by decide +kernel)
theorem d_WF_text_71 : decode b_WF_text 71 = .ok (.getfield 131, 3) := dc_180 (by decide +kernel)
theorem d_WF_text_74 : decode b_WF_text 74 = .ok (.putfield 15, 3) := dc_181 (by decide +kernel)
theorem d_WF_text_77 : decode b_WF_text 77 = .ok (.iload_n 2, 1) := dc_28 (by decide +kernel)
theorem d_WF_text_78 : decode b_WF_text 78 = .ok (.ifCond .ge 5, 3) := dc_156 (by decide +kernel)
theorem d_WF_text_81 : decode b_WF_text 81 = .ok (.iconst (-1), 1) := dc_2 (by decide +kernel)
theorem d_WF_text_82 : decode b_WF_text 82 = .ok (.ireturn, 1) := dc_172 (by decide +kernel)
theorem d_WF_text_83 : decode b_WF_text 83 = .ok (.aload_n 0, 1) := dc_42 (by decide +kernel)
theorem d_WF_text_84 : decode b_WF_text 84 = .ok (.getfield 26, 3) := dc_180 (by decide +kernel)
theorem d_WF_text_87 : decode b_WF_text 87 = .ok (.astore_n 3, 1) := dc_78 (by decide +kernel)
theorem d_WF_text_88 : decode b_WF_text 88 = .ok (.aload_n 0, 1) := dc_42 (by decide +kernel)
theorem d_WF_text_89 : decode b_WF_text 89 = .ok (.aload_n 0, 1) := dc_42 (by decide +kernel)
theorem d_WF_text_90 : decode b_WF_text 90 = .ok (.getfield 22, 3) := dc_180 (by decide +kernel)
theorem d_WF_text_93 : decode b_WF_text 93 = .ok (.putfield 26, 3) := dc_181 (by decide +kernel)
theorem d_WF_text_96 : decode b_WF_text 96 = .ok (.aload_n 0, 1) := dc_42 (by decide +kernel)
theorem d_WF_text_97 : decode b_WF_text 97 = .ok (.aload_n 3, 1) := dc_45 (by decide +kernel)
theorem d_WF_text_98 : decode b_WF_text 98 = .ok (.putfield 22, 3) := dc_181 (by decide +kernel)
theorem d_WF_text_101 : decode b_WF_text 101 = .ok (.aload_n 0, 1) := dc_42 (by decide +kernel)
theorem d_WF_text_102 : decode b_WF_text 102 = .ok (.invokevirtual 107, 3) := dc_182 (by decide +kernel)
theorem d_WF_text_105 : decode b_WF_text 105 = .ok (.iload_n 2, 1) := dc_28 (by decide +kernel)
theorem d_WF_text_106 : decode b_WF_text 106 = .ok (.ireturn, 1) := dc_172 (by decide +kernel)
def t_WF_text (M : Mem) (x1 : Int) : Option (Mem × Int) := (if x1 < 0 then (some (M, (-2))) else (if x1 ≤ (M.1 0 1) then (obind (t_Tokens_scan M 1 700 x1) fun q4 => (qlet (setI q4 0 1 0) fun M6 => (obind (t_Town_clear M6 ((M6.1 0 5).toNat)) fun q8 => (obind (t_Reader_read q8 ((q8.1 0 5).toNat)) fun q11 => (qlet (setI (q11.1) 0 2 ((q11.1).1 46 9)) fun M14 => (qlet (setI M14 0 3 (M14.1 46 10)) fun M16 => (if 0 ≤ (q11.2) then (qlet (setI M16 0 5 (((M16.1 0 4).toNat) : Nat)) fun M20 => (qlet (setI M20 0 4 (((M16.1 0 5).toNat) : Nat)) fun M21 => (obind (t_WF_startAnew M21) fun q22 => (some (q22, (q11.2)))))) else (some (M16, (-1)))))))))) else (some (M, (-2)))))
set_option maxHeartbeats 4000000 in
set_option maxRecDepth 100000 in
theorem c_WF_text (l : Launch) {b n : Nat} {C : CT} (hlo : 191 ≤ n) (M : Mem) (x1 : Int) (hx1 : InR x1) (res : Mem × Int) (hT : t_WF_text M x1 = some res) : CM l b C n 8 y_WF_text b_WF_text 4 (some .int) [.ref (b + 0), vI x1] M (QI b C n res.1 res.2) := by
  refine CM.of (lo := 191) (ow := "WardFalls") (by decide) rfl (Nat.le_of_ble_eq_true rfl) hlo (fun p e s m below meth c F hlk hr hS ls hl => ?_)
  have hl : lv_has ls 4 [(0, .ref (b + 0)), (1, vI x1)] := hl
  unfold t_WF_text at hT
  refine lv_iload_n F.hx F.hb d_WF_text_0 rfl (lv_at hl 1 rfl) ?_
  refine r_if_lt (tgt := 12) F.hx F.hb hx1 d_WF_text_1 (by decide) (fun c1 => ?_) (fun c1 => ?_)
  · replace hT := (if_pos c1).symm.trans hT
    refine r_bipush F.hx F.hb d_WF_text_12 rfl ?_
    cases hT
    exact r_iret F hlk hr rfl hS (inr_c rfl) d_WF_text_14
  · replace hT := (if_neg c1).symm.trans hT
    refine lv_iload_n F.hx F.hb d_WF_text_4 rfl (lv_at hl 1 rfl) ?_
    refine lv_aload_n F.hx F.hb d_WF_text_5 rfl (lv_at hl 0 rfl) ?_
    refine r_get (v := vI (M.1 0 1)) (N := 19) (T := T0) (j := 1) F hS (show 0 < 191 by decide) (show shK 0 = 4 from rfl) (show shN 0 = 19 from rfl) rfl (Nat.le_of_ble_eq_true rfl) ing0 mw_551 (fv_int rfl) d_WF_text_6 ?_
    have i2 := hS.rng 0 1
    refine r_icmp_le (tgt := 15) F.hx F.hb hx1 i2 d_WF_text_9 (by decide) (fun c3 => ?_) (fun c3 => ?_)
    · replace hT := (if_pos c3).symm.trans hT
      refine lv_aload_n F.hx F.hb d_WF_text_15 rfl (lv_at hl 0 rfl) ?_
      refine r_get (v := .ref (b + 42)) (N := 19) (T := T0) (j := 6) F hS (show 0 < 191 by decide) (show shK 0 = 4 from rfl) (show shN 0 = 19 from rfl) rfl (Nat.le_of_ble_eq_true rfl) ing0 mw_556 (fv_sg rfl rfl rfl) d_WF_text_16 ?_
      refine lv_aload_n F.hx F.hb d_WF_text_19 rfl (lv_at hl 0 rfl) ?_
      refine r_get (v := .ref (b + 1)) (N := 19) (T := T0) (j := 0) F hS (show 0 < 191 by decide) (show shK 0 = 4 from rfl) (show shN 0 = 19 from rfl) rfl (Nat.le_of_ble_eq_true rfl) ing0 mw_550 (fv_sg rfl rfl rfl) d_WF_text_20 ?_
      refine lv_iload_n F.hx F.hb d_WF_text_23 rfl (lv_at hl 1 rfl) ?_
      obtain ⟨q4, hq4, hT⟩ := q_obind hT
      refine r_backV F hS (r_runV (k := 42) (N := 4) (T := T10) (As := [.ref (b + 1), vI x1]) F hS (show 42 < 191 by decide) (show shK 42 = 14 from rfl) rfl (c_Tokens_scan l F.2.2.1 M 1 700 x1 (show arrP 0 1 700 191 from ⟨rfl, rfl, by decide⟩) hx1 _ hq4) gs_WF_117 hd_Tokens_scan ⟨Nat.le_of_ble_eq_true rfl, Nat.le_of_ble_eq_true rfl⟩ rfl hl.1 (Nat.le_of_ble_eq_true rfl) ⟨Nat.zero_le _, Nat.zero_le _⟩ rfl d_WF_text_24) (fun H locs hS => ?_)
      refine lv_aload_n F.hx F.hb d_WF_text_27 rfl (lv_at hl 0 rfl) ?_
      refine r_iconst F.hx F.hb d_WF_text_28 ?_
      refine r_putI (N := 19) (T := T0) (j := 1) F hS (show 0 < 191 by decide) (show shK 0 = 4 from rfl) (show shN 0 = 19 from rfl) rfl (Nat.le_of_ble_eq_true rfl) ing0 tyok0 nm0 rfl rfl rfl rfl rfl rfl mw_551 (inr_c rfl) d_WF_text_29 (fun H locs hS => ?_)
      obtain ⟨M6, eM6⟩ : ∃ q, q = (setI q4 0 1 0) := ⟨_, rfl⟩
      replace hS : St b C n M6 s H locs := by rw [eM6]; exact hS
      replace hT := qlet_eq hT eM6
      refine lv_aload_n F.hx F.hb d_WF_text_32 rfl (lv_at hl 0 rfl) ?_
      have h7 := St_spare hS
      refine r_get (v := .ref (b + ((M6.1 0 5).toNat))) (N := 19) (T := T0) (j := 5) F hS (show 0 < 191 by decide) (show shK 0 = 4 from rfl) (show shN 0 = 19 from rfl) rfl (Nat.le_of_ble_eq_true rfl) ing0 mw_555 (fv_spare hS) d_WF_text_33 ?_
      obtain ⟨q8, hq8, hT⟩ := q_obind hT
      refine r_backV F hS (r_runV (k := ((M6.1 0 5).toNat)) (N := 20) (T := T11) (As := []) F hS (Town_lt h7) (Town_sh h7) rfl (c_Town_clear l F.2.2.1 M6 ((M6.1 0 5).toNat) h7 _ hq8) gs_WF_101 hd_Town_clear ⟨Nat.le_of_ble_eq_true rfl, Nat.le_of_ble_eq_true rfl⟩ rfl hl.1 (Nat.le_of_ble_eq_true rfl) ⟨Nat.zero_le _, Nat.zero_le _⟩ rfl d_WF_text_36) (fun H locs hS => ?_)
      refine lv_aload_n F.hx F.hb d_WF_text_39 rfl (lv_at hl 0 rfl) ?_
      refine r_get (v := .ref (b + 46)) (N := 19) (T := T0) (j := 7) F hS (show 0 < 191 by decide) (show shK 0 = 4 from rfl) (show shN 0 = 19 from rfl) rfl (Nat.le_of_ble_eq_true rfl) ing0 mw_557 (fv_sg rfl rfl rfl) d_WF_text_40 ?_
      refine lv_aload_n F.hx F.hb d_WF_text_43 rfl (lv_at hl 0 rfl) ?_
      refine r_get (v := .ref (b + 42)) (N := 19) (T := T0) (j := 6) F hS (show 0 < 191 by decide) (show shK 0 = 4 from rfl) (show shN 0 = 19 from rfl) rfl (Nat.le_of_ble_eq_true rfl) ing0 mw_556 (fv_sg rfl rfl rfl) d_WF_text_44 ?_
      refine lv_aload_n F.hx F.hb d_WF_text_47 rfl (lv_at hl 0 rfl) ?_
      have h10 := St_spare hS
      refine r_get (v := .ref (b + ((q8.1 0 5).toNat))) (N := 19) (T := T0) (j := 5) F hS (show 0 < 191 by decide) (show shK 0 = 4 from rfl) (show shN 0 = 19 from rfl) rfl (Nat.le_of_ble_eq_true rfl) ing0 mw_555 (fv_spare hS) d_WF_text_48 ?_
      obtain ⟨q11, hq11, hT⟩ := q_obind hT
      refine r_backI F hS (r_runV (k := 46) (N := 11) (T := T8) (As := [.ref (b + 42), .ref (b + ((q8.1 0 5).toNat))]) F hS (show 46 < 191 by decide) (show shK 46 = 12 from rfl) rfl (c_Reader_read l F.2.2.1 q8 ((q8.1 0 5).toNat) h10 _ hq11) gs_WF_121 hd_Reader_read ⟨Nat.le_of_ble_eq_true rfl, Nat.le_of_ble_eq_true rfl⟩ rfl hl.1 (Nat.le_of_ble_eq_true rfl) ⟨Nat.zero_le _, Nat.zero_le _⟩ rfl d_WF_text_51) (fun H locs hS h12 => ?_)
      refine lv_istore_n (lv' := [(2, vI (q11.2)), (0, .ref (b + 0)), (1, vI x1)]) F.hx F.hb d_WF_text_54 rfl hl (Nat.le_of_ble_eq_true rfl) rfl (fun ls hl => ?_)
      refine lv_aload_n F.hx F.hb d_WF_text_55 rfl (lv_at hl 1 rfl) ?_
      refine lv_aload_n F.hx F.hb d_WF_text_56 rfl (lv_at hl 1 rfl) ?_
      refine r_get (v := .ref (b + 46)) (N := 19) (T := T0) (j := 7) F hS (show 0 < 191 by decide) (show shK 0 = 4 from rfl) (show shN 0 = 19 from rfl) rfl (Nat.le_of_ble_eq_true rfl) ing0 mw_557 (fv_sg rfl rfl rfl) d_WF_text_57 ?_
      refine r_get (v := vI ((q11.1).1 46 9)) (N := 11) (T := T8) (j := 9) F hS (show 46 < 191 by decide) (show shK 46 = 12 from rfl) (show shN 46 = 11 from rfl) rfl (Nat.le_of_ble_eq_true rfl) ing8 mw_240 (fv_int rfl) d_WF_text_60 ?_
      have i13 := hS.rng 46 9
      refine r_putI (N := 19) (T := T0) (j := 2) F hS (show 0 < 191 by decide) (show shK 0 = 4 from rfl) (show shN 0 = 19 from rfl) rfl (Nat.le_of_ble_eq_true rfl) ing0 tyok0 nm0 rfl rfl rfl rfl rfl rfl mw_552 i13 d_WF_text_63 (fun H locs hS => ?_)
      obtain ⟨M14, eM14⟩ : ∃ q, q = (setI (q11.1) 0 2 ((q11.1).1 46 9)) := ⟨_, rfl⟩
      replace hS : St b C n M14 s H locs := by rw [eM14]; exact hS
      replace hT := qlet_eq hT eM14
      refine lv_aload_n F.hx F.hb d_WF_text_66 rfl (lv_at hl 1 rfl) ?_
      refine lv_aload_n F.hx F.hb d_WF_text_67 rfl (lv_at hl 1 rfl) ?_
      refine r_get (v := .ref (b + 46)) (N := 19) (T := T0) (j := 7) F hS (show 0 < 191 by decide) (show shK 0 = 4 from rfl) (show shN 0 = 19 from rfl) rfl (Nat.le_of_ble_eq_true rfl) ing0 mw_557 (fv_sg rfl rfl rfl) d_WF_text_68 ?_
      refine r_get (v := vI (M14.1 46 10)) (N := 11) (T := T8) (j := 10) F hS (show 46 < 191 by decide) (show shK 46 = 12 from rfl) (show shN 46 = 11 from rfl) rfl (Nat.le_of_ble_eq_true rfl) ing8 mw_242 (fv_int rfl) d_WF_text_71 ?_
      have i15 := hS.rng 46 10
      refine r_putI (N := 19) (T := T0) (j := 3) F hS (show 0 < 191 by decide) (show shK 0 = 4 from rfl) (show shN 0 = 19 from rfl) rfl (Nat.le_of_ble_eq_true rfl) ing0 tyok0 nm0 rfl rfl rfl rfl rfl rfl mw_553 i15 d_WF_text_74 (fun H locs hS => ?_)
      obtain ⟨M16, eM16⟩ : ∃ q, q = (setI M14 0 3 (M14.1 46 10)) := ⟨_, rfl⟩
      replace hS : St b C n M16 s H locs := by rw [eM16]; exact hS
      replace hT := qlet_eq hT eM16
      refine lv_iload_n F.hx F.hb d_WF_text_77 rfl (lv_at hl 0 rfl) ?_
      refine r_if_ge (tgt := 83) F.hx F.hb h12 d_WF_text_78 (by decide) (fun c17 => ?_) (fun c17 => ?_)
      · replace hT := (if_pos c17).symm.trans hT
        refine lv_aload_n F.hx F.hb d_WF_text_83 rfl (lv_at hl 1 rfl) ?_
        have h18 := St_spare hS
        refine r_get (v := .ref (b + ((M16.1 0 5).toNat))) (N := 19) (T := T0) (j := 5) F hS (show 0 < 191 by decide) (show shK 0 = 4 from rfl) (show shN 0 = 19 from rfl) rfl (Nat.le_of_ble_eq_true rfl) ing0 mw_555 (fv_spare hS) d_WF_text_84 ?_
        refine lv_astore_n (lv' := [(3, .ref (b + ((M16.1 0 5).toNat))), (2, vI (q11.2)), (0, .ref (b + 0)), (1, vI x1)]) F.hx F.hb d_WF_text_87 rfl hl (Nat.le_of_ble_eq_true rfl) rfl (fun ls hl => ?_)
        refine lv_aload_n F.hx F.hb d_WF_text_88 rfl (lv_at hl 2 rfl) ?_
        refine lv_aload_n F.hx F.hb d_WF_text_89 rfl (lv_at hl 2 rfl) ?_
        have h19 := St_town hS
        refine r_get (v := .ref (b + ((M16.1 0 4).toNat))) (N := 19) (T := T0) (j := 4) F hS (show 0 < 191 by decide) (show shK 0 = 4 from rfl) (show shN 0 = 19 from rfl) rfl (Nat.le_of_ble_eq_true rfl) ing0 mw_554 (fv_town hS) d_WF_text_90 ?_
        refine r_putSpare F hS h19 mw_555 d_WF_text_93 (fun H locs hS => ?_)
        obtain ⟨M20, eM20⟩ : ∃ q, q = (setI M16 0 5 (((M16.1 0 4).toNat) : Nat)) := ⟨_, rfl⟩
        replace hS : St b C n M20 s H locs := by rw [eM20]; exact hS
        replace hT := qlet_eq hT eM20
        refine lv_aload_n F.hx F.hb d_WF_text_96 rfl (lv_at hl 2 rfl) ?_
        refine lv_aload_n F.hx F.hb d_WF_text_97 rfl (lv_at hl 0 rfl) ?_
        refine r_putTown F hS h18 mw_554 d_WF_text_98 (fun H locs hS => ?_)
        obtain ⟨M21, eM21⟩ : ∃ q, q = (setI M20 0 4 (((M16.1 0 5).toNat) : Nat)) := ⟨_, rfl⟩
        replace hS : St b C n M21 s H locs := by rw [eM21]; exact hS
        replace hT := qlet_eq hT eM21
        refine lv_aload_n F.hx F.hb d_WF_text_101 rfl (lv_at hl 2 rfl) ?_
        obtain ⟨q22, hq22, hT⟩ := q_obind hT
        refine r_backV F hS (r_runV (k := 0) (N := 19) (T := T0) (As := []) F hS (show 0 < 191 by decide) (show shK 0 = 4 from rfl) rfl (c_WF_startAnew l F.2.2.1 M21 _ hq22) gs_WF_107 hd_WF_startAnew ⟨Nat.le_of_ble_eq_true rfl, Nat.le_of_ble_eq_true rfl⟩ rfl hl.1 (Nat.le_of_ble_eq_true rfl) ⟨Nat.zero_le _, Nat.zero_le _⟩ rfl d_WF_text_102) (fun H locs hS => ?_)
        refine lv_iload_n F.hx F.hb d_WF_text_105 rfl (lv_at hl 1 rfl) ?_
        cases hT
        exact r_iret F hlk hr rfl hS h12 d_WF_text_106
      · replace hT := (if_neg c17).symm.trans hT
        refine r_iconst F.hx F.hb d_WF_text_81 ?_
        cases hT
        exact r_iret F hlk hr rfl hS (inr_c rfl) d_WF_text_82
    · replace hT := (if_neg c3).symm.trans hT
      refine r_bipush F.hx F.hb d_WF_text_12 rfl ?_
      cases hT
      exact r_iret F hlk hr rfl hS (inr_c rfl) d_WF_text_14
theorem d_WF_fault_0 : decode b_WF_fault 0 = .ok (.iload_n 1, 1) := dc_27 (by decide +kernel)
theorem d_WF_fault_1 : decode b_WF_fault 1 = .ok (.lookupswitch 37 #[(0, 27), (1, 32)], 27) := by decide +kernel
theorem d_WF_fault_28 : decode b_WF_fault 28 = .ok (.aload_n 0, 1) := dc_42 (by decide +kernel)
theorem d_WF_fault_29 : decode b_WF_fault 29 = .ok (.getfield 128, 3) := dc_180 (by decide +kernel)
theorem d_WF_fault_32 : decode b_WF_fault 32 = .ok (.ireturn, 1) := dc_172 (by decide +kernel)
theorem d_WF_fault_33 : decode b_WF_fault 33 = .ok (.aload_n 0, 1) := dc_42 (by decide +kernel)
theorem d_WF_fault_34 : decode b_WF_fault 34 = .ok (.getfield 15, 3) := dc_180 (by decide +kernel)
theorem d_WF_fault_37 : decode b_WF_fault 37 = .ok (.ireturn, 1) := dc_172 (by decide +kernel)
theorem d_WF_fault_38 : decode b_WF_fault 38 = .ok (.iconst (-1), 1) := dc_2 (by decide +kernel)
theorem d_WF_fault_39 : decode b_WF_fault 39 = .ok (.ireturn, 1) := dc_172 (by decide +kernel)
def t_WF_fault (M : Mem) (x1 : Int) : Int := (if x1 = 0 then (M.1 0 2) else (if x1 = 1 then (M.1 0 3) else (-1)))
set_option maxHeartbeats 4000000 in
set_option maxRecDepth 100000 in
theorem c_WF_fault (l : Launch) {b n : Nat} {C : CT} (hlo : 191 ≤ n) (M : Mem) (x1 : Int) (hx1 : InR x1) (res : Int) (hT : t_WF_fault M x1 = res) : CM l b C n 0 y_WF_fault b_WF_fault 2 (some .int) [.ref (b + 0), vI x1] M (QI b C n M res) := by
  refine CM.of (lo := 191) (ow := "WardFalls") (by decide) rfl (Nat.le_of_ble_eq_true rfl) hlo (fun p e s m below meth c F hlk hr hS ls hl => ?_)
  have hl : lv_has ls 2 [(0, .ref (b + 0)), (1, vI x1)] := hl
  unfold t_WF_fault at hT
  refine lv_iload_n F.hx F.hb d_WF_fault_0 rfl (lv_at hl 1 rfl) ?_
  rcases q_ite hT with ⟨c1, hT⟩ | ⟨c1, hT⟩
  · refine r_lookup (off := 27) (tgt := 28) F.hx F.hb hx1 d_WF_fault_1 (by decide) (by rw [c1] <;> rfl) (by decide) ?_
    refine lv_aload_n F.hx F.hb d_WF_fault_28 rfl (lv_at hl 0 rfl) ?_
    refine r_get (v := vI (M.1 0 2)) (N := 19) (T := T0) (j := 2) F hS (show 0 < 191 by decide) (show shK 0 = 4 from rfl) (show shN 0 = 19 from rfl) rfl (Nat.le_of_ble_eq_true rfl) ing0 mw_552 (fv_int rfl) d_WF_fault_29 ?_
    have i2 := hS.rng 0 2
    subst hT
    exact r_iret F hlk hr rfl hS i2 d_WF_fault_32
  ·
    rcases q_ite hT with ⟨c3, hT⟩ | ⟨c3, hT⟩
    · refine r_lookup (off := 32) (tgt := 33) F.hx F.hb hx1 d_WF_fault_1 (by decide) (by rw [c3] <;> rfl) (by decide) ?_
      refine lv_aload_n F.hx F.hb d_WF_fault_33 rfl (lv_at hl 0 rfl) ?_
      refine r_get (v := vI (M.1 0 3)) (N := 19) (T := T0) (j := 3) F hS (show 0 < 191 by decide) (show shK 0 = 4 from rfl) (show shN 0 = 19 from rfl) rfl (Nat.le_of_ble_eq_true rfl) ing0 mw_553 (fv_int rfl) d_WF_fault_34 ?_
      have i4 := hS.rng 0 3
      subst hT
      exact r_iret F hlk hr rfl hS i4 d_WF_fault_37
    ·
      refine r_lookup (off := 37) (tgt := 38) F.hx F.hb hx1 d_WF_fault_1 (by decide) (by simp [Op.lookupswitch.offset, List.find?, q_nes c1, q_nes c3]) (by decide) ?_
      refine r_iconst F.hx F.hb d_WF_fault_38 ?_
      subst hT
      exact r_iret F hlk hr rfl hS (inr_c rfl) d_WF_fault_39
theorem d_WF_named_0 : decode b_WF_named 0 = .ok (.iload_n 1, 1) := dc_27 (by decide +kernel)
theorem d_WF_named_1 : decode b_WF_named 1 = .ok (.lookupswitch 65 #[(0, 27), (1, 46)], 27) := by decide +kernel
theorem d_WF_named_28 : decode b_WF_named 28 = .ok (.aload_n 0, 1) := dc_42 (by decide +kernel)
theorem d_WF_named_29 : decode b_WF_named 29 = .ok (.getfield 22, 3) := dc_180 (by decide +kernel)
theorem d_WF_named_32 : decode b_WF_named 32 = .ok (.getfield 134, 3) := dc_180 (by decide +kernel)
theorem d_WF_named_35 : decode b_WF_named 35 = .ok (.aload_n 0, 1) := dc_42 (by decide +kernel)
theorem d_WF_named_36 : decode b_WF_named 36 = .ok (.getfield 22, 3) := dc_180 (by decide +kernel)
theorem d_WF_named_39 : decode b_WF_named 39 = .ok (.getfield 137, 3) := dc_180 (by decide +kernel)
theorem d_WF_named_42 : decode b_WF_named 42 = .ok (.iload_n 2, 1) := dc_28 (by decide +kernel)
theorem d_WF_named_43 : decode b_WF_named 43 = .ok (.invokestatic 140, 3) := dc_184 (by decide +kernel)
theorem d_WF_named_46 : decode b_WF_named 46 = .ok (.ireturn, 1) := dc_172 (by decide +kernel)
theorem d_WF_named_47 : decode b_WF_named 47 = .ok (.aload_n 0, 1) := dc_42 (by decide +kernel)
theorem d_WF_named_48 : decode b_WF_named 48 = .ok (.getfield 22, 3) := dc_180 (by decide +kernel)
theorem d_WF_named_51 : decode b_WF_named 51 = .ok (.getfield 144, 3) := dc_180 (by decide +kernel)
theorem d_WF_named_54 : decode b_WF_named 54 = .ok (.aload_n 0, 1) := dc_42 (by decide +kernel)
theorem d_WF_named_55 : decode b_WF_named 55 = .ok (.getfield 22, 3) := dc_180 (by decide +kernel)
theorem d_WF_named_58 : decode b_WF_named 58 = .ok (.getfield 147, 3) := dc_180 (by decide +kernel)
theorem d_WF_named_61 : decode b_WF_named 61 = .ok (.iload_n 2, 1) := dc_28 (by decide +kernel)
theorem d_WF_named_62 : decode b_WF_named 62 = .ok (.invokestatic 140, 3) := dc_184 (by decide +kernel)
theorem d_WF_named_65 : decode b_WF_named 65 = .ok (.ireturn, 1) := dc_172 (by decide +kernel)
theorem d_WF_named_66 : decode b_WF_named 66 = .ok (.iconst (-1), 1) := dc_2 (by decide +kernel)
theorem d_WF_named_67 : decode b_WF_named 67 = .ok (.ireturn, 1) := dc_172 (by decide +kernel)
def t_WF_named (M : Mem) (x1 : Int) (x2 : Int) : Option (Int) := (if x1 = 0 then (obind (t_WF_indexOf M (((M.1 0 4).toNat) + 1) 4 (M.1 ((M.1 0 4).toNat) 14) x2) fun q5 => (some q5)) else (if x1 = 1 then (obind (t_WF_indexOf M (((M.1 0 4).toNat) + 5) 8 (M.1 ((M.1 0 4).toNat) 15) x2) fun q11 => (some q11)) else (some (-1))))
set_option maxHeartbeats 4000000 in
set_option maxRecDepth 100000 in
theorem c_WF_named (l : Launch) {b n : Nat} {C : CT} (hlo : 191 ≤ n) (M : Mem) (x1 : Int) (x2 : Int) (hx1 : InR x1) (hx2 : InR x2) (res : Int) (hT : t_WF_named M x1 x2 = some res) : CM l b C n 1 y_WF_named b_WF_named 3 (some .int) [.ref (b + 0), vI x1, vI x2] M (QI b C n M res) := by
  refine CM.of (lo := 191) (ow := "WardFalls") (by decide) rfl (Nat.le_of_ble_eq_true rfl) hlo (fun p e s m below meth c F hlk hr hS ls hl => ?_)
  have hl : lv_has ls 3 [(0, .ref (b + 0)), (1, vI x1), (2, vI x2)] := hl
  unfold t_WF_named at hT
  refine lv_iload_n F.hx F.hb d_WF_named_0 rfl (lv_at hl 1 rfl) ?_
  rcases q_ite hT with ⟨c1, hT⟩ | ⟨c1, hT⟩
  · refine r_lookup (off := 27) (tgt := 28) F.hx F.hb hx1 d_WF_named_1 (by decide) (by rw [c1] <;> rfl) (by decide) ?_
    refine lv_aload_n F.hx F.hb d_WF_named_28 rfl (lv_at hl 0 rfl) ?_
    have h2 := St_town hS
    refine r_get (v := .ref (b + ((M.1 0 4).toNat))) (N := 19) (T := T0) (j := 4) F hS (show 0 < 191 by decide) (show shK 0 = 4 from rfl) (show shN 0 = 19 from rfl) rfl (Nat.le_of_ble_eq_true rfl) ing0 mw_554 (fv_town hS) d_WF_named_29 ?_
    refine r_get (v := .ref (b + (((M.1 0 4).toNat) + 1))) (N := 20) (T := T11) (j := 0) F hS (Town_lt h2) (Town_sh h2) (Town_N h2) rfl (Nat.le_of_ble_eq_true rfl) ing11 mw_90 (Town_g0 h2 _) d_WF_named_32 ?_
    refine lv_aload_n F.hx F.hb d_WF_named_35 rfl (lv_at hl 0 rfl) ?_
    have h3 := St_town hS
    refine r_get (v := .ref (b + ((M.1 0 4).toNat))) (N := 19) (T := T0) (j := 4) F hS (show 0 < 191 by decide) (show shK 0 = 4 from rfl) (show shN 0 = 19 from rfl) rfl (Nat.le_of_ble_eq_true rfl) ing0 mw_554 (fv_town hS) d_WF_named_36 ?_
    refine r_get (v := vI (M.1 ((M.1 0 4).toNat) 14)) (N := 20) (T := T11) (j := 14) F hS (Town_lt h3) (Town_sh h3) (Town_N h3) rfl (Nat.le_of_ble_eq_true rfl) ing11 mw_137 (fv_int rfl) d_WF_named_39 ?_
    have i4 := hS.rng ((M.1 0 4).toNat) 14
    refine lv_iload_n F.hx F.hb d_WF_named_42 rfl (lv_at hl 2 rfl) ?_
    obtain ⟨q5, hq5, hT⟩ := q_obind hT
    refine r_backI F hS (r_runS (As := [.ref (b + (((M.1 0 4).toNat) + 1)), vI (M.1 ((M.1 0 4).toNat) 14), vI x2]) F hS (c_WF_indexOf l F.2.2.1 M (((M.1 0 4).toNat) + 1) 4 (M.1 ((M.1 0 4).toNat) 14) x2 (Town_f0 h2) i4 hx2 _ hq5) gs_WF_140 hd_WF_indexOf ⟨Nat.le_of_ble_eq_true rfl, Nat.le_of_ble_eq_true rfl⟩ rfl hl.1 (Nat.le_of_ble_eq_true rfl) ⟨Nat.zero_le _, Nat.zero_le _⟩ rfl d_WF_named_43) (fun H locs hS h6 => ?_)
    cases hT
    exact r_iret F hlk hr rfl hS h6 d_WF_named_46
  ·
    rcases q_ite hT with ⟨c7, hT⟩ | ⟨c7, hT⟩
    · refine r_lookup (off := 46) (tgt := 47) F.hx F.hb hx1 d_WF_named_1 (by decide) (by rw [c7] <;> rfl) (by decide) ?_
      refine lv_aload_n F.hx F.hb d_WF_named_47 rfl (lv_at hl 0 rfl) ?_
      have h8 := St_town hS
      refine r_get (v := .ref (b + ((M.1 0 4).toNat))) (N := 19) (T := T0) (j := 4) F hS (show 0 < 191 by decide) (show shK 0 = 4 from rfl) (show shN 0 = 19 from rfl) rfl (Nat.le_of_ble_eq_true rfl) ing0 mw_554 (fv_town hS) d_WF_named_48 ?_
      refine r_get (v := .ref (b + (((M.1 0 4).toNat) + 5))) (N := 20) (T := T11) (j := 4) F hS (Town_lt h8) (Town_sh h8) (Town_N h8) rfl (Nat.le_of_ble_eq_true rfl) ing11 mw_102 (Town_g4 h8 _) d_WF_named_51 ?_
      refine lv_aload_n F.hx F.hb d_WF_named_54 rfl (lv_at hl 0 rfl) ?_
      have h9 := St_town hS
      refine r_get (v := .ref (b + ((M.1 0 4).toNat))) (N := 19) (T := T0) (j := 4) F hS (show 0 < 191 by decide) (show shK 0 = 4 from rfl) (show shN 0 = 19 from rfl) rfl (Nat.le_of_ble_eq_true rfl) ing0 mw_554 (fv_town hS) d_WF_named_55 ?_
      refine r_get (v := vI (M.1 ((M.1 0 4).toNat) 15)) (N := 20) (T := T11) (j := 15) F hS (Town_lt h9) (Town_sh h9) (Town_N h9) rfl (Nat.le_of_ble_eq_true rfl) ing11 mw_143 (fv_int rfl) d_WF_named_58 ?_
      have i10 := hS.rng ((M.1 0 4).toNat) 15
      refine lv_iload_n F.hx F.hb d_WF_named_61 rfl (lv_at hl 2 rfl) ?_
      obtain ⟨q11, hq11, hT⟩ := q_obind hT
      refine r_backI F hS (r_runS (As := [.ref (b + (((M.1 0 4).toNat) + 5)), vI (M.1 ((M.1 0 4).toNat) 15), vI x2]) F hS (c_WF_indexOf l F.2.2.1 M (((M.1 0 4).toNat) + 5) 8 (M.1 ((M.1 0 4).toNat) 15) x2 (Town_f4 h8) i10 hx2 _ hq11) gs_WF_140 hd_WF_indexOf ⟨Nat.le_of_ble_eq_true rfl, Nat.le_of_ble_eq_true rfl⟩ rfl hl.1 (Nat.le_of_ble_eq_true rfl) ⟨Nat.zero_le _, Nat.zero_le _⟩ rfl d_WF_named_62) (fun H locs hS h12 => ?_)
      cases hT
      exact r_iret F hlk hr rfl hS h12 d_WF_named_65
    ·
      refine r_lookup (off := 65) (tgt := 66) F.hx F.hb hx1 d_WF_named_1 (by decide) (by simp [Op.lookupswitch.offset, List.find?, q_nes c1, q_nes c7]) (by decide) ?_
      refine r_iconst F.hx F.hb d_WF_named_66 ?_
      cases hT
      exact r_iret F hlk hr rfl hS (inr_c rfl) d_WF_named_67
theorem d_Town_hasCell_0 : decode b_Town_hasCell 0 = .ok (.iload_n 1, 1) := dc_27 (by decide +kernel)
theorem d_Town_hasCell_1 : decode b_Town_hasCell 1 = .ok (.ifCond .lt 15, 3) := dc_155 (by decide +kernel)
theorem d_Town_hasCell_4 : decode b_Town_hasCell 4 = .ok (.iload_n 1, 1) := dc_27 (by decide +kernel)
theorem d_Town_hasCell_5 : decode b_Town_hasCell 5 = .ok (.aload_n 0, 1) := dc_42 (by decide +kernel)
theorem d_Town_hasCell_6 : decode b_Town_hasCell 6 = .ok (.getfield 84, 3) := dc_180 (by decide +kernel)
theorem d_Town_hasCell_9 : decode b_Town_hasCell 9 = .ok (.if_icmp .ge 7, 3) := dc_162 (by decide +kernel)
theorem d_Town_hasCell_12 : decode b_Town_hasCell 12 = .ok (.iconst 1, 1) := dc_4 (by decide +kernel)
theorem d_Town_hasCell_13 : decode b_Town_hasCell 13 = .ok (.goto 4, 3) := dc_167 (by decide +kernel)
theorem d_Town_hasCell_16 : decode b_Town_hasCell 16 = .ok (.iconst 0, 1) := dc_3 (by decide +kernel)
theorem d_Town_hasCell_17 : decode b_Town_hasCell 17 = .ok (.ireturn, 1) := dc_172 (by decide +kernel)
def t_Town_hasCell (M : Mem) (k0 : Nat) (x1 : Int) : Int := (if x1 < 0 then 0 else (if (M.1 k0 13) ≤ x1 then 0 else 1))
set_option maxHeartbeats 4000000 in
set_option maxRecDepth 100000 in
theorem c_Town_hasCell (l : Launch) {b n : Nat} {C : CT} (hlo : 191 ≤ n) (M : Mem) (k0 : Nat) (x1 : Int) (hk0 : isTown k0) (hx1 : InR x1) (res : Int) (hT : t_Town_hasCell M k0 x1 = res) : CM l b C n 0 y_Town_hasCell b_Town_hasCell 2 (some .boolean) [.ref (b + k0), vI x1] M (QZ b C n M res) := by
  refine CM.of (lo := 191) (ow := "WardFalls$Town") (by decide) rfl (Nat.le_of_ble_eq_true rfl) hlo (fun p e s m below meth c F hlk hr hS ls hl => ?_)
  have hl : lv_has ls 2 [(0, .ref (b + k0)), (1, vI x1)] := hl
  unfold t_Town_hasCell at hT
  refine lv_iload_n F.hx F.hb d_Town_hasCell_0 rfl (lv_at hl 1 rfl) ?_
  refine r_if_lt (tgt := 16) F.hx F.hb hx1 d_Town_hasCell_1 (by decide) (fun c1 => ?_) (fun c1 => ?_)
  · replace hT := (if_pos c1).symm.trans hT
    refine r_iconst F.hx F.hb d_Town_hasCell_16 ?_
    subst hT
    exact r_zret F hlk hr hS (Or.inl rfl) d_Town_hasCell_17
  · replace hT := (if_neg c1).symm.trans hT
    refine lv_iload_n F.hx F.hb d_Town_hasCell_4 rfl (lv_at hl 1 rfl) ?_
    refine lv_aload_n F.hx F.hb d_Town_hasCell_5 rfl (lv_at hl 0 rfl) ?_
    refine r_get (v := vI (M.1 k0 13)) (N := 20) (T := T11) (j := 13) F hS (Town_lt hk0) (Town_sh hk0) (Town_N hk0) rfl (Nat.le_of_ble_eq_true rfl) ing11 mw_128 (fv_int rfl) d_Town_hasCell_6 ?_
    have i2 := hS.rng k0 13
    refine r_icmp_ge (tgt := 16) F.hx F.hb hx1 i2 d_Town_hasCell_9 (by decide) (fun c3 => ?_) (fun c3 => ?_)
    · replace hT := (if_pos c3).symm.trans hT
      refine r_iconst F.hx F.hb d_Town_hasCell_16 ?_
      subst hT
      exact r_zret F hlk hr hS (Or.inl rfl) d_Town_hasCell_17
    · replace hT := (if_neg c3).symm.trans hT
      refine r_iconst F.hx F.hb d_Town_hasCell_12 ?_
      refine lv_goto (tgt := 17) F.hx F.hb d_Town_hasCell_13 (by decide) ?_
      subst hT
      exact r_zret F hlk hr hS (Or.inr rfl) d_Town_hasCell_17
theorem d_Scene_thingIn_0 : decode b_Scene_thingIn 0 = .ok (.aload_n 0, 1) := dc_42 (by decide +kernel)
theorem d_Scene_thingIn_1 : decode b_Scene_thingIn 1 = .ok (.getfield 15, 3) := dc_180 (by decide +kernel)
theorem d_Scene_thingIn_4 : decode b_Scene_thingIn 4 = .ok (.aload_n 1, 1) := dc_43 (by decide +kernel)
theorem d_Scene_thingIn_5 : decode b_Scene_thingIn 5 = .ok (.getfield 72, 3) := dc_180 (by decide +kernel)
theorem d_Scene_thingIn_8 : decode b_Scene_thingIn 8 = .ok (.iload_n 2, 1) := dc_28 (by decide +kernel)
theorem d_Scene_thingIn_9 : decode b_Scene_thingIn 9 = .ok (.invokestatic 76, 3) := dc_184 (by decide +kernel)
theorem d_Scene_thingIn_12 : decode b_Scene_thingIn 12 = .ok (.ireturn, 1) := dc_172 (by decide +kernel)
def t_Scene_thingIn (M : Mem) (k0 : Nat) (k1 : Nat) (x2 : Int) : Option (Int) := (obind (t_WF_indexOf M (k0 + 2) 8 (M.1 k1 15) x2) fun q2 => (some q2))
set_option maxHeartbeats 4000000 in
set_option maxRecDepth 100000 in
theorem c_Scene_thingIn (l : Launch) {b n : Nat} {C : CT} (hlo : 191 ≤ n) (M : Mem) (k0 : Nat) (k1 : Nat) (x2 : Int) (hk0 : isScene k0) (hk1 : isTown k1) (hx2 : InR x2) (res : Int) (hT : t_Scene_thingIn M k0 k1 x2 = some res) : CM l b C n 1 y_Scene_thingIn b_Scene_thingIn 3 (some .int) [.ref (b + k0), .ref (b + k1), vI x2] M (QI b C n M res) := by
  refine CM.of (lo := 191) (ow := "WardFalls$Scene") (by decide) rfl (Nat.le_of_ble_eq_true rfl) hlo (fun p e s m below meth c F hlk hr hS ls hl => ?_)
  have hl : lv_has ls 3 [(0, .ref (b + k0)), (1, .ref (b + k1)), (2, vI x2)] := hl
  unfold t_Scene_thingIn at hT
  refine lv_aload_n F.hx F.hb d_Scene_thingIn_0 rfl (lv_at hl 0 rfl) ?_
  refine r_get (v := .ref (b + (k0 + 2))) (N := 7) (T := T9) (j := 1) F hS (Scene_lt hk0) (Scene_sh hk0) (Scene_N hk0) rfl (Nat.le_of_ble_eq_true rfl) ing9 mw_278 (Scene_g1 hk0 _) d_Scene_thingIn_1 ?_
  refine lv_aload_n F.hx F.hb d_Scene_thingIn_4 rfl (lv_at hl 1 rfl) ?_
  refine r_get (v := vI (M.1 k1 15)) (N := 20) (T := T11) (j := 15) F hS (Town_lt hk1) (Town_sh hk1) (Town_N hk1) rfl (Nat.le_of_ble_eq_true rfl) ing11 mw_144 (fv_int rfl) d_Scene_thingIn_5 ?_
  have i1 := hS.rng k1 15
  refine lv_iload_n F.hx F.hb d_Scene_thingIn_8 rfl (lv_at hl 2 rfl) ?_
  obtain ⟨q2, hq2, hT⟩ := q_obind hT
  refine r_backI F hS (r_runSN (As := [.ref (b + (k0 + 2)), vI (M.1 k1 15), vI x2]) F hS (c_WF_indexOf l F.2.2.1 M (k0 + 2) 8 (M.1 k1 15) x2 (Scene_f1 hk0) i1 hx2 _ hq2) mw_748 mw_747 mw_1 gs_Scene_76 hd_WF_indexOf ⟨Nat.le_of_ble_eq_true rfl, Nat.le_of_ble_eq_true rfl⟩ rfl hl.1 (Nat.le_of_ble_eq_true rfl) ⟨Nat.zero_le _, Nat.zero_le _⟩ rfl d_Scene_thingIn_9) (fun H locs hS h3 => ?_)
  cases hT
  exact r_iret F hlk hr rfl hS h3 d_Scene_thingIn_12
theorem d_Scene_downOf_0 : decode b_Scene_downOf 0 = .ok (.aload_n 1, 1) := dc_43 (by decide +kernel)
theorem d_Scene_downOf_1 : decode b_Scene_downOf 1 = .ok (.getfield 53, 3) := dc_180 (by decide +kernel)
theorem d_Scene_downOf_4 : decode b_Scene_downOf 4 = .ok (.iload_n 2, 1) := dc_28 (by decide +kernel)
theorem d_Scene_downOf_5 : decode b_Scene_downOf 5 = .ok (.invokestatic 56, 3) := dc_184 (by decide +kernel)
theorem d_Scene_downOf_8 : decode b_Scene_downOf 8 = .ok (.istore_n 3, 1) := dc_62 (by decide +kernel)
theorem d_Scene_downOf_9 : decode b_Scene_downOf 9 = .ok (.iload_n 3, 1) := dc_29 (by decide +kernel)
theorem d_Scene_downOf_10 : decode b_Scene_downOf 10 = .ok (.ifCond .ge 7, 3) := dc_156 (by decide +kernel)
theorem d_Scene_downOf_13 : decode b_Scene_downOf 13 = .ok (.iconst 4, 1) := dc_7 (by decide +kernel)
theorem d_Scene_downOf_14 : decode b_Scene_downOf 14 = .ok (.goto 11, 3) := dc_167 (by decide +kernel)
theorem d_Scene_downOf_17 : decode b_Scene_downOf 17 = .ok (.aload_n 0, 1) := dc_42 (by decide +kernel)
theorem d_Scene_downOf_18 : decode b_Scene_downOf 18 = .ok (.getfield 9, 3) := dc_180 (by decide +kernel)
theorem d_Scene_downOf_21 : decode b_Scene_downOf 21 = .ok (.iload_n 3, 1) := dc_29 (by decide +kernel)
theorem d_Scene_downOf_22 : decode b_Scene_downOf 22 = .ok (.invokestatic 56, 3) := dc_184 (by decide +kernel)
theorem d_Scene_downOf_25 : decode b_Scene_downOf 25 = .ok (.ireturn, 1) := dc_172 (by decide +kernel)
def t_Scene_downOf (M : Mem) (k0 : Nat) (k1 : Nat) (x2 : Int) : Int := (qlet (t_WF_look M (k1 + 8) 48 x2) fun q1 => (if 0 ≤ q1 then (qlet (t_WF_look M (k0 + 1) 4 q1) fun q4 => q4) else 4))
set_option maxHeartbeats 4000000 in
set_option maxRecDepth 100000 in
theorem c_Scene_downOf (l : Launch) {b n : Nat} {C : CT} (hlo : 191 ≤ n) (M : Mem) (k0 : Nat) (k1 : Nat) (x2 : Int) (hk0 : isScene k0) (hk1 : isTown k1) (hx2 : InR x2) (res : Int) (hT : t_Scene_downOf M k0 k1 x2 = res) : CM l b C n 1 y_Scene_downOf b_Scene_downOf 4 (some .int) [.ref (b + k0), .ref (b + k1), vI x2] M (QI b C n M res) := by
  refine CM.of (lo := 191) (ow := "WardFalls$Scene") (by decide) rfl (Nat.le_of_ble_eq_true rfl) hlo (fun p e s m below meth c F hlk hr hS ls hl => ?_)
  have hl : lv_has ls 4 [(0, .ref (b + k0)), (1, .ref (b + k1)), (2, vI x2)] := hl
  unfold t_Scene_downOf at hT
  refine lv_aload_n F.hx F.hb d_Scene_downOf_0 rfl (lv_at hl 1 rfl) ?_
  refine r_get (v := .ref (b + (k1 + 8))) (N := 20) (T := T11) (j := 7) F hS (Town_lt hk1) (Town_sh hk1) (Town_N hk1) rfl (Nat.le_of_ble_eq_true rfl) ing11 mw_112 (Town_g7 hk1 _) d_Scene_downOf_1 ?_
  refine lv_iload_n F.hx F.hb d_Scene_downOf_4 rfl (lv_at hl 2 rfl) ?_
  obtain ⟨q1, hq1⟩ : ∃ q, q = (t_WF_look M (k1 + 8) 48 x2) := ⟨_, rfl⟩
  replace hT := qlet_eq hT hq1
  refine r_backI F hS (r_runSN (As := [.ref (b + (k1 + 8)), vI x2]) F hS (c_WF_look l F.2.2.1 M (k1 + 8) 48 x2 (Town_f7 hk1) hx2 _ hq1.symm) mw_519 mw_518 mw_1 gs_Scene_56 hd_WF_look ⟨Nat.le_of_ble_eq_true rfl, Nat.le_of_ble_eq_true rfl⟩ rfl hl.1 (Nat.le_of_ble_eq_true rfl) ⟨Nat.zero_le _, Nat.zero_le _⟩ rfl d_Scene_downOf_5) (fun H locs hS h2 => ?_)
  refine lv_istore_n (lv' := [(3, vI q1), (0, .ref (b + k0)), (1, .ref (b + k1)), (2, vI x2)]) F.hx F.hb d_Scene_downOf_8 rfl hl (Nat.le_of_ble_eq_true rfl) rfl (fun ls hl => ?_)
  refine lv_iload_n F.hx F.hb d_Scene_downOf_9 rfl (lv_at hl 0 rfl) ?_
  refine r_if_ge (tgt := 17) F.hx F.hb h2 d_Scene_downOf_10 (by decide) (fun c3 => ?_) (fun c3 => ?_)
  · replace hT := (if_pos c3).symm.trans hT
    refine lv_aload_n F.hx F.hb d_Scene_downOf_17 rfl (lv_at hl 1 rfl) ?_
    refine r_get (v := .ref (b + (k0 + 1))) (N := 7) (T := T9) (j := 0) F hS (Scene_lt hk0) (Scene_sh hk0) (Scene_N hk0) rfl (Nat.le_of_ble_eq_true rfl) ing9 mw_272 (Scene_g0 hk0 _) d_Scene_downOf_18 ?_
    refine lv_iload_n F.hx F.hb d_Scene_downOf_21 rfl (lv_at hl 0 rfl) ?_
    obtain ⟨q4, hq4⟩ : ∃ q, q = (t_WF_look M (k0 + 1) 4 q1) := ⟨_, rfl⟩
    replace hT := qlet_eq hT hq4
    refine r_backI F hS (r_runSN (As := [.ref (b + (k0 + 1)), vI q1]) F hS (c_WF_look l F.2.2.1 M (k0 + 1) 4 q1 (Scene_f0 hk0) h2 _ hq4.symm) mw_519 mw_518 mw_1 gs_Scene_56 hd_WF_look ⟨Nat.le_of_ble_eq_true rfl, Nat.le_of_ble_eq_true rfl⟩ rfl hl.1 (Nat.le_of_ble_eq_true rfl) ⟨Nat.zero_le _, Nat.zero_le _⟩ rfl d_Scene_downOf_22) (fun H locs hS h5 => ?_)
    subst hT
    exact r_iret F hlk hr rfl hS h5 d_Scene_downOf_25
  · replace hT := (if_neg c3).symm.trans hT
    refine r_iconst F.hx F.hb d_Scene_downOf_13 ?_
    refine lv_goto (tgt := 25) F.hx F.hb d_Scene_downOf_14 (by decide) ?_
    subst hT
    exact r_iret F hlk hr rfl hS (inr_c rfl) d_Scene_downOf_25
theorem d_Town_beside_0 : decode b_Town_beside 0 = .ok (.aload_n 0, 1) := dc_42 (by decide +kernel)
theorem d_Town_beside_1 : decode b_Town_beside 1 = .ok (.iload_n 1, 1) := dc_27 (by decide +kernel)
theorem d_Town_beside_2 : decode b_Town_beside 2 = .ok (.invokevirtual 99, 3) := dc_182 (by decide +kernel)
theorem d_Town_beside_5 : decode b_Town_beside 5 = .ok (.ifCond .eq 27, 3) := dc_153 (by decide +kernel)
theorem d_Town_beside_8 : decode b_Town_beside 8 = .ok (.iload_n 2, 1) := dc_28 (by decide +kernel)
theorem d_Town_beside_9 : decode b_Town_beside 9 = .ok (.ifCond .lt 23, 3) := dc_155 (by decide +kernel)
theorem d_Town_beside_12 : decode b_Town_beside 12 = .ok (.iload_n 2, 1) := dc_28 (by decide +kernel)
theorem d_Town_beside_13 : decode b_Town_beside 13 = .ok (.iconst 4, 1) := dc_7 (by decide +kernel)
theorem d_Town_beside_14 : decode b_Town_beside 14 = .ok (.if_icmp .ge 18, 3) := dc_162 (by decide +kernel)
theorem d_Town_beside_17 : decode b_Town_beside 17 = .ok (.aload_n 0, 1) := dc_42 (by decide +kernel)
theorem d_Town_beside_18 : decode b_Town_beside 18 = .ok (.getfield 36, 3) := dc_180 (by decide +kernel)
theorem d_Town_beside_21 : decode b_Town_beside 21 = .ok (.iload_n 1, 1) := dc_27 (by decide +kernel)
theorem d_Town_beside_22 : decode b_Town_beside 22 = .ok (.iconst 4, 1) := dc_7 (by decide +kernel)
theorem d_Town_beside_23 : decode b_Town_beside 23 = .ok (.imul, 1) := dc_104 (by decide +kernel)
theorem d_Town_beside_24 : decode b_Town_beside 24 = .ok (.iload_n 2, 1) := dc_28 (by decide +kernel)
theorem d_Town_beside_25 : decode b_Town_beside 25 = .ok (.iadd, 1) := dc_96 (by decide +kernel)
theorem d_Town_beside_26 : decode b_Town_beside 26 = .ok (.invokestatic 95, 3) := dc_184 (by decide +kernel)
theorem d_Town_beside_29 : decode b_Town_beside 29 = .ok (.goto 4, 3) := dc_167 (by decide +kernel)
theorem d_Town_beside_32 : decode b_Town_beside 32 = .ok (.iconst (-1), 1) := dc_2 (by decide +kernel)
theorem d_Town_beside_33 : decode b_Town_beside 33 = .ok (.ireturn, 1) := dc_172 (by decide +kernel)
def t_Town_beside (M : Mem) (k0 : Nat) (x1 : Int) (x2 : Int) : Int := (qlet (t_Town_hasCell M k0 x1) fun q1 => (if q1 = 0 then (-1) else (if x2 < 0 then (-1) else (if 4 ≤ x2 then (-1) else (qlet (t_WF_look M (k0 + 9) 192 (w32 ((w32 (x1 * 4)) + x2))) fun q6 => q6)))))
set_option maxHeartbeats 4000000 in
set_option maxRecDepth 100000 in
theorem c_Town_beside (l : Launch) {b n : Nat} {C : CT} (hlo : 191 ≤ n) (M : Mem) (k0 : Nat) (x1 : Int) (x2 : Int) (hk0 : isTown k0) (hx1 : InR x1) (hx2 : InR x2) (res : Int) (hT : t_Town_beside M k0 x1 x2 = res) : CM l b C n 1 y_Town_beside b_Town_beside 3 (some .int) [.ref (b + k0), vI x1, vI x2] M (QI b C n M res) := by
  refine CM.of (lo := 191) (ow := "WardFalls$Town") (by decide) rfl (Nat.le_of_ble_eq_true rfl) hlo (fun p e s m below meth c F hlk hr hS ls hl => ?_)
  have hl : lv_has ls 3 [(0, .ref (b + k0)), (1, vI x1), (2, vI x2)] := hl
  unfold t_Town_beside at hT
  refine lv_aload_n F.hx F.hb d_Town_beside_0 rfl (lv_at hl 0 rfl) ?_
  refine lv_iload_n F.hx F.hb d_Town_beside_1 rfl (lv_at hl 1 rfl) ?_
  obtain ⟨q1, hq1⟩ : ∃ q, q = (t_Town_hasCell M k0 x1) := ⟨_, rfl⟩
  replace hT := qlet_eq hT hq1
  refine r_backZ F hS (r_runV (k := k0) (N := 20) (T := T11) (As := [vI x1]) F hS (Town_lt hk0) (Town_sh hk0) rfl (c_Town_hasCell l F.2.2.1 M k0 x1 hk0 hx1 _ hq1.symm) gs_Town_99 hd_Town_hasCell ⟨Nat.le_of_ble_eq_true rfl, Nat.le_of_ble_eq_true rfl⟩ rfl hl.1 (Nat.le_of_ble_eq_true rfl) ⟨Nat.zero_le _, Nat.zero_le _⟩ rfl d_Town_beside_2) (fun H locs hS h2 => ?_)
  refine r_if_eq (tgt := 32) F.hx F.hb (inr_z h2) d_Town_beside_5 (by decide) (fun c3 => ?_) (fun c3 => ?_)
  · replace hT := (if_pos c3).symm.trans hT
    refine r_iconst F.hx F.hb d_Town_beside_32 ?_
    subst hT
    exact r_iret F hlk hr rfl hS (inr_c rfl) d_Town_beside_33
  · replace hT := (if_neg c3).symm.trans hT
    refine lv_iload_n F.hx F.hb d_Town_beside_8 rfl (lv_at hl 2 rfl) ?_
    refine r_if_lt (tgt := 32) F.hx F.hb hx2 d_Town_beside_9 (by decide) (fun c4 => ?_) (fun c4 => ?_)
    · replace hT := (if_pos c4).symm.trans hT
      refine r_iconst F.hx F.hb d_Town_beside_32 ?_
      subst hT
      exact r_iret F hlk hr rfl hS (inr_c rfl) d_Town_beside_33
    · replace hT := (if_neg c4).symm.trans hT
      refine lv_iload_n F.hx F.hb d_Town_beside_12 rfl (lv_at hl 2 rfl) ?_
      refine r_iconst F.hx F.hb d_Town_beside_13 ?_
      refine r_icmp_ge (tgt := 32) F.hx F.hb hx2 (inr_c rfl) d_Town_beside_14 (by decide) (fun c5 => ?_) (fun c5 => ?_)
      · replace hT := (if_pos c5).symm.trans hT
        refine r_iconst F.hx F.hb d_Town_beside_32 ?_
        subst hT
        exact r_iret F hlk hr rfl hS (inr_c rfl) d_Town_beside_33
      · replace hT := (if_neg c5).symm.trans hT
        refine lv_aload_n F.hx F.hb d_Town_beside_17 rfl (lv_at hl 0 rfl) ?_
        refine r_get (v := .ref (b + (k0 + 9))) (N := 20) (T := T11) (j := 8) F hS (Town_lt hk0) (Town_sh hk0) (Town_N hk0) rfl (Nat.le_of_ble_eq_true rfl) ing11 mw_114 (Town_g8 hk0 _) d_Town_beside_18 ?_
        refine lv_iload_n F.hx F.hb d_Town_beside_21 rfl (lv_at hl 1 rfl) ?_
        refine r_iconst F.hx F.hb d_Town_beside_22 ?_
        refine r_imul F.hx F.hb d_Town_beside_23 ?_
        refine lv_iload_n F.hx F.hb d_Town_beside_24 rfl (lv_at hl 2 rfl) ?_
        refine r_iadd F.hx F.hb d_Town_beside_25 ?_
        obtain ⟨q6, hq6⟩ : ∃ q, q = (t_WF_look M (k0 + 9) 192 (w32 ((w32 (x1 * 4)) + x2))) := ⟨_, rfl⟩
        replace hT := qlet_eq hT hq6
        refine r_backI F hS (r_runSN (As := [.ref (b + (k0 + 9)), vI (w32 ((w32 (x1 * 4)) + x2))]) F hS (c_WF_look l F.2.2.1 M (k0 + 9) 192 (w32 ((w32 (x1 * 4)) + x2)) (Town_f8 hk0) (inr_w32 _) _ hq6.symm) mw_519 mw_518 mw_1 gs_Town_95 hd_WF_look ⟨Nat.le_of_ble_eq_true rfl, Nat.le_of_ble_eq_true rfl⟩ rfl hl.1 (Nat.le_of_ble_eq_true rfl) ⟨Nat.zero_le _, Nat.zero_le _⟩ rfl d_Town_beside_26) (fun H locs hS h7 => ?_)
        refine lv_goto (tgt := 33) F.hx F.hb d_Town_beside_29 (by decide) ?_
        subst hT
        exact r_iret F hlk hr rfl hS h7 d_Town_beside_33
theorem d_Scene_nextOf_0 : decode b_Scene_nextOf 0 = .ok (.aload_n 0, 1) := dc_42 (by decide +kernel)
theorem d_Scene_nextOf_1 : decode b_Scene_nextOf 1 = .ok (.getfield 47, 3) := dc_180 (by decide +kernel)
theorem d_Scene_nextOf_4 : decode b_Scene_nextOf 4 = .ok (.iload_n 2, 1) := dc_28 (by decide +kernel)
theorem d_Scene_nextOf_5 : decode b_Scene_nextOf 5 = .ok (.invokestatic 60, 3) := dc_184 (by decide +kernel)
theorem d_Scene_nextOf_8 : decode b_Scene_nextOf 8 = .ok (.iconst 1, 1) := dc_4 (by decide +kernel)
theorem d_Scene_nextOf_9 : decode b_Scene_nextOf 9 = .ok (.if_icmp .ne 5, 3) := dc_160 (by decide +kernel)
theorem d_Scene_nextOf_12 : decode b_Scene_nextOf 12 = .ok (.iconst (-1), 1) := dc_2 (by decide +kernel)
theorem d_Scene_nextOf_13 : decode b_Scene_nextOf 13 = .ok (.ireturn, 1) := dc_172 (by decide +kernel)
theorem d_Scene_nextOf_14 : decode b_Scene_nextOf 14 = .ok (.aload_n 1, 1) := dc_43 (by decide +kernel)
theorem d_Scene_nextOf_15 : decode b_Scene_nextOf 15 = .ok (.iload_n 2, 1) := dc_28 (by decide +kernel)
theorem d_Scene_nextOf_16 : decode b_Scene_nextOf 16 = .ok (.aload_n 0, 1) := dc_42 (by decide +kernel)
theorem d_Scene_nextOf_17 : decode b_Scene_nextOf 17 = .ok (.aload_n 1, 1) := dc_43 (by decide +kernel)
theorem d_Scene_nextOf_18 : decode b_Scene_nextOf 18 = .ok (.iload_n 2, 1) := dc_28 (by decide +kernel)
theorem d_Scene_nextOf_19 : decode b_Scene_nextOf 19 = .ok (.invokevirtual 64, 3) := dc_182 (by decide +kernel)
theorem d_Scene_nextOf_22 : decode b_Scene_nextOf 22 = .ok (.invokevirtual 68, 3) := dc_182 (by decide +kernel)
theorem d_Scene_nextOf_25 : decode b_Scene_nextOf 25 = .ok (.istore_n 3, 1) := dc_62 (by decide +kernel)
theorem d_Scene_nextOf_26 : decode b_Scene_nextOf 26 = .ok (.iload_n 3, 1) := dc_29 (by decide +kernel)
theorem d_Scene_nextOf_27 : decode b_Scene_nextOf 27 = .ok (.ifCond .lt 15, 3) := dc_155 (by decide +kernel)
theorem d_Scene_nextOf_30 : decode b_Scene_nextOf 30 = .ok (.aload_n 0, 1) := dc_42 (by decide +kernel)
theorem d_Scene_nextOf_31 : decode b_Scene_nextOf 31 = .ok (.getfield 46, 3) := dc_180 (by decide +kernel)
theorem d_Scene_nextOf_34 : decode b_Scene_nextOf 34 = .ok (.iload_n 3, 1) := dc_29 (by decide +kernel)
theorem d_Scene_nextOf_35 : decode b_Scene_nextOf 35 = .ok (.invokestatic 60, 3) := dc_184 (by decide +kernel)
theorem d_Scene_nextOf_38 : decode b_Scene_nextOf 38 = .ok (.iconst 1, 1) := dc_4 (by decide +kernel)
theorem d_Scene_nextOf_39 : decode b_Scene_nextOf 39 = .ok (.if_icmp .ne 7, 3) := dc_160 (by decide +kernel)
theorem d_Scene_nextOf_42 : decode b_Scene_nextOf 42 = .ok (.iconst (-1), 1) := dc_2 (by decide +kernel)
theorem d_Scene_nextOf_43 : decode b_Scene_nextOf 43 = .ok (.goto 4, 3) := dc_167 (by decide +kernel)
theorem d_Scene_nextOf_46 : decode b_Scene_nextOf 46 = .ok (.iload_n 3, 1) := dc_29 (by decide +kernel)
theorem d_Scene_nextOf_47 : decode b_Scene_nextOf 47 = .ok (.ireturn, 1) := dc_172 (by decide +kernel)
def t_Scene_nextOf (M : Mem) (k0 : Nat) (k1 : Nat) (x2 : Int) : Int := (qlet (t_WF_bitOf M (M.2 k0 5) x2) fun q1 => (if q1 = 1 then (-1) else (qlet (t_Scene_downOf M k0 k1 x2) fun q4 => (qlet (t_Town_beside M k1 x2 q4) fun q6 => (if q6 < 0 then (-1) else (qlet (t_WF_bitOf M (M.2 k0 4) q6) fun q9 => (if q9 = 1 then (-1) else q6)))))))
set_option maxHeartbeats 4000000 in
set_option maxRecDepth 100000 in
theorem c_Scene_nextOf (l : Launch) {b n : Nat} {C : CT} (hlo : 191 ≤ n) (M : Mem) (k0 : Nat) (k1 : Nat) (x2 : Int) (hk0 : isScene k0) (hk1 : isTown k1) (hx2 : InR x2) (res : Int) (hT : t_Scene_nextOf M k0 k1 x2 = res) : CM l b C n 2 y_Scene_nextOf b_Scene_nextOf 4 (some .int) [.ref (b + k0), .ref (b + k1), vI x2] M (QI b C n M res) := by
  refine CM.of (lo := 191) (ow := "WardFalls$Scene") (by decide) rfl (Nat.le_of_ble_eq_true rfl) hlo (fun p e s m below meth c F hlk hr hS ls hl => ?_)
  have hl : lv_has ls 4 [(0, .ref (b + k0)), (1, .ref (b + k1)), (2, vI x2)] := hl
  unfold t_Scene_nextOf at hT
  refine lv_aload_n F.hx F.hb d_Scene_nextOf_0 rfl (lv_at hl 0 rfl) ?_
  refine r_get (v := .long (M.2 k0 5)) (N := 7) (T := T9) (j := 5) F hS (Scene_lt hk0) (Scene_sh hk0) (Scene_N hk0) rfl (Nat.le_of_ble_eq_true rfl) ing9 mw_289 (fv_long rfl) d_Scene_nextOf_1 ?_
  refine lv_iload_n F.hx F.hb d_Scene_nextOf_4 rfl (lv_at hl 2 rfl) ?_
  obtain ⟨q1, hq1⟩ : ∃ q, q = (t_WF_bitOf M (M.2 k0 5) x2) := ⟨_, rfl⟩
  replace hT := qlet_eq hT hq1
  refine r_backI F hS (r_runSN (As := [.long (M.2 k0 5), vI x2]) F hS (c_WF_bitOf l F.2.2.1 M (M.2 k0 5) x2 hx2 _ hq1.symm) mw_773 mw_772 mw_1 gs_Scene_60 hd_WF_bitOf ⟨Nat.le_of_ble_eq_true rfl, Nat.le_of_ble_eq_true rfl⟩ rfl hl.1 (Nat.le_of_ble_eq_true rfl) ⟨Nat.zero_le _, Nat.zero_le _⟩ rfl d_Scene_nextOf_5) (fun H locs hS h2 => ?_)
  refine r_iconst F.hx F.hb d_Scene_nextOf_8 ?_
  refine r_icmp_ne (tgt := 14) F.hx F.hb h2 (inr_c rfl) d_Scene_nextOf_9 (by decide) (fun c3 => ?_) (fun c3 => ?_)
  · replace hT := (if_neg c3).symm.trans hT
    refine lv_aload_n F.hx F.hb d_Scene_nextOf_14 rfl (lv_at hl 1 rfl) ?_
    refine lv_iload_n F.hx F.hb d_Scene_nextOf_15 rfl (lv_at hl 2 rfl) ?_
    refine lv_aload_n F.hx F.hb d_Scene_nextOf_16 rfl (lv_at hl 0 rfl) ?_
    refine lv_aload_n F.hx F.hb d_Scene_nextOf_17 rfl (lv_at hl 1 rfl) ?_
    refine lv_iload_n F.hx F.hb d_Scene_nextOf_18 rfl (lv_at hl 2 rfl) ?_
    obtain ⟨q4, hq4⟩ : ∃ q, q = (t_Scene_downOf M k0 k1 x2) := ⟨_, rfl⟩
    replace hT := qlet_eq hT hq4
    refine r_backI F hS (r_runV (k := k0) (N := 7) (T := T9) (As := [.ref (b + k1), vI x2]) F hS (Scene_lt hk0) (Scene_sh hk0) rfl (c_Scene_downOf l F.2.2.1 M k0 k1 x2 hk0 hk1 hx2 _ hq4.symm) gs_Scene_64 hd_Scene_downOf ⟨Nat.le_of_ble_eq_true rfl, Nat.le_of_ble_eq_true rfl⟩ rfl hl.1 (Nat.le_of_ble_eq_true rfl) ⟨Nat.zero_le _, Nat.zero_le _⟩ rfl d_Scene_nextOf_19) (fun H locs hS h5 => ?_)
    obtain ⟨q6, hq6⟩ : ∃ q, q = (t_Town_beside M k1 x2 q4) := ⟨_, rfl⟩
    replace hT := qlet_eq hT hq6
    refine r_backI F hS (r_runV (k := k1) (N := 20) (T := T11) (As := [vI x2, vI q4]) F hS (Town_lt hk1) (Town_sh hk1) rfl (c_Town_beside l F.2.2.1 M k1 x2 q4 hk1 hx2 h5 _ hq6.symm) gs_Scene_68 hd_Town_beside ⟨Nat.le_of_ble_eq_true rfl, Nat.le_of_ble_eq_true rfl⟩ rfl hl.1 (Nat.le_of_ble_eq_true rfl) ⟨Nat.zero_le _, Nat.zero_le _⟩ rfl d_Scene_nextOf_22) (fun H locs hS h7 => ?_)
    refine lv_istore_n (lv' := [(3, vI q6), (0, .ref (b + k0)), (1, .ref (b + k1)), (2, vI x2)]) F.hx F.hb d_Scene_nextOf_25 rfl hl (Nat.le_of_ble_eq_true rfl) rfl (fun ls hl => ?_)
    refine lv_iload_n F.hx F.hb d_Scene_nextOf_26 rfl (lv_at hl 0 rfl) ?_
    refine r_if_lt (tgt := 42) F.hx F.hb h7 d_Scene_nextOf_27 (by decide) (fun c8 => ?_) (fun c8 => ?_)
    · replace hT := (if_pos c8).symm.trans hT
      refine r_iconst F.hx F.hb d_Scene_nextOf_42 ?_
      refine lv_goto (tgt := 47) F.hx F.hb d_Scene_nextOf_43 (by decide) ?_
      subst hT
      exact r_iret F hlk hr rfl hS (inr_c rfl) d_Scene_nextOf_47
    · replace hT := (if_neg c8).symm.trans hT
      refine lv_aload_n F.hx F.hb d_Scene_nextOf_30 rfl (lv_at hl 1 rfl) ?_
      refine r_get (v := .long (M.2 k0 4)) (N := 7) (T := T9) (j := 4) F hS (Scene_lt hk0) (Scene_sh hk0) (Scene_N hk0) rfl (Nat.le_of_ble_eq_true rfl) ing9 mw_285 (fv_long rfl) d_Scene_nextOf_31 ?_
      refine lv_iload_n F.hx F.hb d_Scene_nextOf_34 rfl (lv_at hl 0 rfl) ?_
      obtain ⟨q9, hq9⟩ : ∃ q, q = (t_WF_bitOf M (M.2 k0 4) q6) := ⟨_, rfl⟩
      replace hT := qlet_eq hT hq9
      refine r_backI F hS (r_runSN (As := [.long (M.2 k0 4), vI q6]) F hS (c_WF_bitOf l F.2.2.1 M (M.2 k0 4) q6 h7 _ hq9.symm) mw_773 mw_772 mw_1 gs_Scene_60 hd_WF_bitOf ⟨Nat.le_of_ble_eq_true rfl, Nat.le_of_ble_eq_true rfl⟩ rfl hl.1 (Nat.le_of_ble_eq_true rfl) ⟨Nat.zero_le _, Nat.zero_le _⟩ rfl d_Scene_nextOf_35) (fun H locs hS h10 => ?_)
      refine r_iconst F.hx F.hb d_Scene_nextOf_38 ?_
      refine r_icmp_ne (tgt := 46) F.hx F.hb h10 (inr_c rfl) d_Scene_nextOf_39 (by decide) (fun c11 => ?_) (fun c11 => ?_)
      · replace hT := (if_neg c11).symm.trans hT
        refine lv_iload_n F.hx F.hb d_Scene_nextOf_46 rfl (lv_at hl 0 rfl) ?_
        subst hT
        exact r_iret F hlk hr rfl hS h7 d_Scene_nextOf_47
      · replace hT := (if_pos c11).symm.trans hT
        refine r_iconst F.hx F.hb d_Scene_nextOf_42 ?_
        refine lv_goto (tgt := 47) F.hx F.hb d_Scene_nextOf_43 (by decide) ?_
        subst hT
        exact r_iret F hlk hr rfl hS (inr_c rfl) d_Scene_nextOf_47
  · replace hT := (if_pos c3).symm.trans hT
    refine r_iconst F.hx F.hb d_Scene_nextOf_12 ?_
    subst hT
    exact r_iret F hlk hr rfl hS (inr_c rfl) d_Scene_nextOf_13
theorem d_Scene_standsIn_0 : decode b_Scene_standsIn 0 = .ok (.aload_n 0, 1) := dc_42 (by decide +kernel)
theorem d_Scene_standsIn_1 : decode b_Scene_standsIn 1 = .ok (.getfield 46, 3) := dc_180 (by decide +kernel)
theorem d_Scene_standsIn_4 : decode b_Scene_standsIn 4 = .ok (.iload_n 2, 1) := dc_28 (by decide +kernel)
theorem d_Scene_standsIn_5 : decode b_Scene_standsIn 5 = .ok (.invokestatic 60, 3) := dc_184 (by decide +kernel)
theorem d_Scene_standsIn_8 : decode b_Scene_standsIn 8 = .ok (.iconst 1, 1) := dc_4 (by decide +kernel)
theorem d_Scene_standsIn_9 : decode b_Scene_standsIn 9 = .ok (.if_icmp .ne 5, 3) := dc_160 (by decide +kernel)
theorem d_Scene_standsIn_12 : decode b_Scene_standsIn 12 = .ok (.iconst 0, 1) := dc_3 (by decide +kernel)
theorem d_Scene_standsIn_13 : decode b_Scene_standsIn 13 = .ok (.ireturn, 1) := dc_172 (by decide +kernel)
theorem d_Scene_standsIn_14 : decode b_Scene_standsIn 14 = .ok (.aload_n 0, 1) := dc_42 (by decide +kernel)
theorem d_Scene_standsIn_15 : decode b_Scene_standsIn 15 = .ok (.aload_n 1, 1) := dc_43 (by decide +kernel)
theorem d_Scene_standsIn_16 : decode b_Scene_standsIn 16 = .ok (.iload_n 2, 1) := dc_28 (by decide +kernel)
theorem d_Scene_standsIn_17 : decode b_Scene_standsIn 17 = .ok (.invokevirtual 64, 3) := dc_182 (by decide +kernel)
theorem d_Scene_standsIn_20 : decode b_Scene_standsIn 20 = .ok (.istore_n 3, 1) := dc_62 (by decide +kernel)
theorem d_Scene_standsIn_21 : decode b_Scene_standsIn 21 = .ok (.aload_n 1, 1) := dc_43 (by decide +kernel)
theorem d_Scene_standsIn_22 : decode b_Scene_standsIn 22 = .ok (.getfield 80, 3) := dc_180 (by decide +kernel)
theorem d_Scene_standsIn_25 : decode b_Scene_standsIn 25 = .ok (.iload_n 2, 1) := dc_28 (by decide +kernel)
theorem d_Scene_standsIn_26 : decode b_Scene_standsIn 26 = .ok (.invokestatic 60, 3) := dc_184 (by decide +kernel)
theorem d_Scene_standsIn_29 : decode b_Scene_standsIn 29 = .ok (.iconst 1, 1) := dc_4 (by decide +kernel)
theorem d_Scene_standsIn_30 : decode b_Scene_standsIn 30 = .ok (.if_icmp .eq 8, 3) := dc_159 (by decide +kernel)
theorem d_Scene_standsIn_33 : decode b_Scene_standsIn 33 = .ok (.iload_n 3, 1) := dc_29 (by decide +kernel)
theorem d_Scene_standsIn_34 : decode b_Scene_standsIn 34 = .ok (.iconst 4, 1) := dc_7 (by decide +kernel)
theorem d_Scene_standsIn_35 : decode b_Scene_standsIn 35 = .ok (.if_icmp .ne 21, 3) := dc_160 (by decide +kernel)
theorem d_Scene_standsIn_38 : decode b_Scene_standsIn 38 = .ok (.aload_n 1, 1) := dc_43 (by decide +kernel)
theorem d_Scene_standsIn_39 : decode b_Scene_standsIn 39 = .ok (.getfield 80, 3) := dc_180 (by decide +kernel)
theorem d_Scene_standsIn_42 : decode b_Scene_standsIn 42 = .ok (.iload_n 2, 1) := dc_28 (by decide +kernel)
theorem d_Scene_standsIn_43 : decode b_Scene_standsIn 43 = .ok (.invokestatic 60, 3) := dc_184 (by decide +kernel)
theorem d_Scene_standsIn_46 : decode b_Scene_standsIn 46 = .ok (.iconst 1, 1) := dc_4 (by decide +kernel)
theorem d_Scene_standsIn_47 : decode b_Scene_standsIn 47 = .ok (.if_icmp .ne 7, 3) := dc_160 (by decide +kernel)
theorem d_Scene_standsIn_50 : decode b_Scene_standsIn 50 = .ok (.iconst 1, 1) := dc_4 (by decide +kernel)
theorem d_Scene_standsIn_51 : decode b_Scene_standsIn 51 = .ok (.goto 4, 3) := dc_167 (by decide +kernel)
theorem d_Scene_standsIn_54 : decode b_Scene_standsIn 54 = .ok (.iconst 0, 1) := dc_3 (by decide +kernel)
theorem d_Scene_standsIn_55 : decode b_Scene_standsIn 55 = .ok (.ireturn, 1) := dc_172 (by decide +kernel)
theorem d_Scene_standsIn_56 : decode b_Scene_standsIn 56 = .ok (.aload_n 1, 1) := dc_43 (by decide +kernel)
theorem d_Scene_standsIn_57 : decode b_Scene_standsIn 57 = .ok (.iload_n 2, 1) := dc_28 (by decide +kernel)
theorem d_Scene_standsIn_58 : decode b_Scene_standsIn 58 = .ok (.iload_n 3, 1) := dc_29 (by decide +kernel)
theorem d_Scene_standsIn_59 : decode b_Scene_standsIn 59 = .ok (.invokevirtual 68, 3) := dc_182 (by decide +kernel)
theorem d_Scene_standsIn_62 : decode b_Scene_standsIn 62 = .ok (.istore 4, 2) := dc_54 (by decide +kernel)
theorem d_Scene_standsIn_64 : decode b_Scene_standsIn 64 = .ok (.iload 4, 2) := dc_21 (by decide +kernel)
theorem d_Scene_standsIn_66 : decode b_Scene_standsIn 66 = .ok (.ifCond .lt 16, 3) := dc_155 (by decide +kernel)
theorem d_Scene_standsIn_69 : decode b_Scene_standsIn 69 = .ok (.aload_n 0, 1) := dc_42 (by decide +kernel)
theorem d_Scene_standsIn_70 : decode b_Scene_standsIn 70 = .ok (.getfield 46, 3) := dc_180 (by decide +kernel)
theorem d_Scene_standsIn_73 : decode b_Scene_standsIn 73 = .ok (.iload 4, 2) := dc_21 (by decide +kernel)
theorem d_Scene_standsIn_75 : decode b_Scene_standsIn 75 = .ok (.invokestatic 60, 3) := dc_184 (by decide +kernel)
theorem d_Scene_standsIn_78 : decode b_Scene_standsIn 78 = .ok (.iconst 1, 1) := dc_4 (by decide +kernel)
theorem d_Scene_standsIn_79 : decode b_Scene_standsIn 79 = .ok (.if_icmp .ne 7, 3) := dc_160 (by decide +kernel)
theorem d_Scene_standsIn_82 : decode b_Scene_standsIn 82 = .ok (.iconst 1, 1) := dc_4 (by decide +kernel)
theorem d_Scene_standsIn_83 : decode b_Scene_standsIn 83 = .ok (.goto 4, 3) := dc_167 (by decide +kernel)
theorem d_Scene_standsIn_86 : decode b_Scene_standsIn 86 = .ok (.iconst 0, 1) := dc_3 (by decide +kernel)
theorem d_Scene_standsIn_87 : decode b_Scene_standsIn 87 = .ok (.ireturn, 1) := dc_172 (by decide +kernel)
def t_Scene_standsIn_L38 (k0 : Nat) (k1 : Nat) (x2 : Int)  (M : Mem)  : Int := (qlet (t_WF_bitOf M (M.2 k1 19) x2) fun q16 => (if q16 = 1 then 1 else 0))
def t_Scene_standsIn (M : Mem) (k0 : Nat) (k1 : Nat) (x2 : Int) : Int := (qlet (t_WF_bitOf M (M.2 k0 4) x2) fun q1 => (if q1 = 1 then 0 else (qlet (t_Scene_downOf M k0 k1 x2) fun q4 => (qlet (t_WF_bitOf M (M.2 k1 19) x2) fun q6 => (if q6 = 1 then (t_Scene_standsIn_L38 k0 k1 x2 M) else (if q4 = 4 then (t_Scene_standsIn_L38 k0 k1 x2 M) else (qlet (t_Town_beside M k1 x2 q4) fun q10 => (if q10 < 0 then 1 else (qlet (t_WF_bitOf M (M.2 k0 4) q10) fun q13 => (if q13 = 1 then 1 else 0))))))))))
set_option maxHeartbeats 4000000 in
set_option maxRecDepth 100000 in
theorem k_Scene_standsIn_L38 (l : Launch) {p : Program} {e : Env} {s : State} {m : MethodId} {below : List Frame} {meth : Method} {c : Code} {b n : Nat} {C : CT} (hlo : 191 ≤ n) (k0 : Nat) (k1 : Nat) (x2 : Int) (hk0 : isScene k0) (hk1 : isTown k1) (hx2 : InR x2) (F : Cx b p m c b_Scene_standsIn 5 s ([.ref (b + k0), .ref (b + k1), vI x2] : List Value).toArray "WardFalls$Scene" C n 191) (hlk : meth.locks = false) (hr : meth.sig.returnType = some .boolean) {res : Int} (M : Mem)  (H : Heap) (locs : List Loc) (ls : Array Slot) (hS : St b C n M s H locs) (hl : lv_has ls 5 [(1, .ref (b + k1)), (2, vI x2)]) (hT : t_Scene_standsIn_L38 k0 k1 x2 M = res) : W p l e (headSpec (wsM y_Scene_standsIn b_Scene_standsIn 5 (some .boolean)) (rmD 2)).room s m ([.ref (b + k0), .ref (b + k1), vI x2] : List Value).toArray below meth c H locs 0 0 (MQ below (QZ b C n M res) ([.ref (b + k0), .ref (b + k1), vI x2] : List Value).toArray s 0 0 (frb b)) (F0 m 38 ls []) := by
  unfold t_Scene_standsIn_L38 at hT
  refine lv_aload_n F.hx F.hb d_Scene_standsIn_38 rfl (lv_at hl 0 rfl) ?_
  refine r_get (v := .long (M.2 k1 19)) (N := 20) (T := T11) (j := 19) F hS (Town_lt hk1) (Town_sh hk1) (Town_N hk1) rfl (Nat.le_of_ble_eq_true rfl) ing11 mw_158 (fv_long rfl) d_Scene_standsIn_39 ?_
  refine lv_iload_n F.hx F.hb d_Scene_standsIn_42 rfl (lv_at hl 1 rfl) ?_
  obtain ⟨q16, hq16⟩ : ∃ q, q = (t_WF_bitOf M (M.2 k1 19) x2) := ⟨_, rfl⟩
  replace hT := qlet_eq hT hq16
  refine r_backI F hS (r_runSN (As := [.long (M.2 k1 19), vI x2]) F hS (c_WF_bitOf l F.2.2.1 M (M.2 k1 19) x2 hx2 _ hq16.symm) mw_773 mw_772 mw_1 gs_Scene_60 hd_WF_bitOf ⟨Nat.le_of_ble_eq_true rfl, Nat.le_of_ble_eq_true rfl⟩ rfl hl.1 (Nat.le_of_ble_eq_true rfl) ⟨Nat.zero_le _, Nat.zero_le _⟩ rfl d_Scene_standsIn_43) (fun H locs hS h17 => ?_)
  refine r_iconst F.hx F.hb d_Scene_standsIn_46 ?_
  refine r_icmp_ne (tgt := 54) F.hx F.hb h17 (inr_c rfl) d_Scene_standsIn_47 (by decide) (fun c18 => ?_) (fun c18 => ?_)
  · replace hT := (if_neg c18).symm.trans hT
    refine r_iconst F.hx F.hb d_Scene_standsIn_54 ?_
    subst hT
    exact r_zret F hlk hr hS (Or.inl rfl) d_Scene_standsIn_55
  · replace hT := (if_pos c18).symm.trans hT
    refine r_iconst F.hx F.hb d_Scene_standsIn_50 ?_
    refine lv_goto (tgt := 55) F.hx F.hb d_Scene_standsIn_51 (by decide) ?_
    subst hT
    exact r_zret F hlk hr hS (Or.inr rfl) d_Scene_standsIn_55
set_option maxHeartbeats 4000000 in
set_option maxRecDepth 100000 in
theorem c_Scene_standsIn (l : Launch) {b n : Nat} {C : CT} (hlo : 191 ≤ n) (M : Mem) (k0 : Nat) (k1 : Nat) (x2 : Int) (hk0 : isScene k0) (hk1 : isTown k1) (hx2 : InR x2) (res : Int) (hT : t_Scene_standsIn M k0 k1 x2 = res) : CM l b C n 2 y_Scene_standsIn b_Scene_standsIn 5 (some .boolean) [.ref (b + k0), .ref (b + k1), vI x2] M (QZ b C n M res) := by
  refine CM.of (lo := 191) (ow := "WardFalls$Scene") (by decide) rfl (Nat.le_of_ble_eq_true rfl) hlo (fun p e s m below meth c F hlk hr hS ls hl => ?_)
  have hl : lv_has ls 5 [(0, .ref (b + k0)), (1, .ref (b + k1)), (2, vI x2)] := hl
  unfold t_Scene_standsIn at hT
  refine lv_aload_n F.hx F.hb d_Scene_standsIn_0 rfl (lv_at hl 0 rfl) ?_
  refine r_get (v := .long (M.2 k0 4)) (N := 7) (T := T9) (j := 4) F hS (Scene_lt hk0) (Scene_sh hk0) (Scene_N hk0) rfl (Nat.le_of_ble_eq_true rfl) ing9 mw_285 (fv_long rfl) d_Scene_standsIn_1 ?_
  refine lv_iload_n F.hx F.hb d_Scene_standsIn_4 rfl (lv_at hl 2 rfl) ?_
  obtain ⟨q1, hq1⟩ : ∃ q, q = (t_WF_bitOf M (M.2 k0 4) x2) := ⟨_, rfl⟩
  replace hT := qlet_eq hT hq1
  refine r_backI F hS (r_runSN (As := [.long (M.2 k0 4), vI x2]) F hS (c_WF_bitOf l F.2.2.1 M (M.2 k0 4) x2 hx2 _ hq1.symm) mw_773 mw_772 mw_1 gs_Scene_60 hd_WF_bitOf ⟨Nat.le_of_ble_eq_true rfl, Nat.le_of_ble_eq_true rfl⟩ rfl hl.1 (Nat.le_of_ble_eq_true rfl) ⟨Nat.zero_le _, Nat.zero_le _⟩ rfl d_Scene_standsIn_5) (fun H locs hS h2 => ?_)
  refine r_iconst F.hx F.hb d_Scene_standsIn_8 ?_
  refine r_icmp_ne (tgt := 14) F.hx F.hb h2 (inr_c rfl) d_Scene_standsIn_9 (by decide) (fun c3 => ?_) (fun c3 => ?_)
  · replace hT := (if_neg c3).symm.trans hT
    refine lv_aload_n F.hx F.hb d_Scene_standsIn_14 rfl (lv_at hl 0 rfl) ?_
    refine lv_aload_n F.hx F.hb d_Scene_standsIn_15 rfl (lv_at hl 1 rfl) ?_
    refine lv_iload_n F.hx F.hb d_Scene_standsIn_16 rfl (lv_at hl 2 rfl) ?_
    obtain ⟨q4, hq4⟩ : ∃ q, q = (t_Scene_downOf M k0 k1 x2) := ⟨_, rfl⟩
    replace hT := qlet_eq hT hq4
    refine r_backI F hS (r_runV (k := k0) (N := 7) (T := T9) (As := [.ref (b + k1), vI x2]) F hS (Scene_lt hk0) (Scene_sh hk0) rfl (c_Scene_downOf l F.2.2.1 M k0 k1 x2 hk0 hk1 hx2 _ hq4.symm) gs_Scene_64 hd_Scene_downOf ⟨Nat.le_of_ble_eq_true rfl, Nat.le_of_ble_eq_true rfl⟩ rfl hl.1 (Nat.le_of_ble_eq_true rfl) ⟨Nat.zero_le _, Nat.zero_le _⟩ rfl d_Scene_standsIn_17) (fun H locs hS h5 => ?_)
    refine lv_istore_n (lv' := [(3, vI q4), (0, .ref (b + k0)), (1, .ref (b + k1)), (2, vI x2)]) F.hx F.hb d_Scene_standsIn_20 rfl hl (Nat.le_of_ble_eq_true rfl) rfl (fun ls hl => ?_)
    refine lv_aload_n F.hx F.hb d_Scene_standsIn_21 rfl (lv_at hl 2 rfl) ?_
    refine r_get (v := .long (M.2 k1 19)) (N := 20) (T := T11) (j := 19) F hS (Town_lt hk1) (Town_sh hk1) (Town_N hk1) rfl (Nat.le_of_ble_eq_true rfl) ing11 mw_158 (fv_long rfl) d_Scene_standsIn_22 ?_
    refine lv_iload_n F.hx F.hb d_Scene_standsIn_25 rfl (lv_at hl 3 rfl) ?_
    obtain ⟨q6, hq6⟩ : ∃ q, q = (t_WF_bitOf M (M.2 k1 19) x2) := ⟨_, rfl⟩
    replace hT := qlet_eq hT hq6
    refine r_backI F hS (r_runSN (As := [.long (M.2 k1 19), vI x2]) F hS (c_WF_bitOf l F.2.2.1 M (M.2 k1 19) x2 hx2 _ hq6.symm) mw_773 mw_772 mw_1 gs_Scene_60 hd_WF_bitOf ⟨Nat.le_of_ble_eq_true rfl, Nat.le_of_ble_eq_true rfl⟩ rfl hl.1 (Nat.le_of_ble_eq_true rfl) ⟨Nat.zero_le _, Nat.zero_le _⟩ rfl d_Scene_standsIn_26) (fun H locs hS h7 => ?_)
    refine r_iconst F.hx F.hb d_Scene_standsIn_29 ?_
    refine r_icmp_eq (tgt := 38) F.hx F.hb h7 (inr_c rfl) d_Scene_standsIn_30 (by decide) (fun c8 => ?_) (fun c8 => ?_)
    · replace hT := (if_pos c8).symm.trans hT
      exact k_Scene_standsIn_L38 l hlo k0 k1 x2 hk0 hk1 hx2 F hlk hr M _ _ _ hS (lv_sub hl [2, 3] rfl) hT
    · replace hT := (if_neg c8).symm.trans hT
      refine lv_iload_n F.hx F.hb d_Scene_standsIn_33 rfl (lv_at hl 0 rfl) ?_
      refine r_iconst F.hx F.hb d_Scene_standsIn_34 ?_
      refine r_icmp_ne (tgt := 56) F.hx F.hb h5 (inr_c rfl) d_Scene_standsIn_35 (by decide) (fun c9 => ?_) (fun c9 => ?_)
      · replace hT := (if_neg c9).symm.trans hT
        refine lv_aload_n F.hx F.hb d_Scene_standsIn_56 rfl (lv_at hl 2 rfl) ?_
        refine lv_iload_n F.hx F.hb d_Scene_standsIn_57 rfl (lv_at hl 3 rfl) ?_
        refine lv_iload_n F.hx F.hb d_Scene_standsIn_58 rfl (lv_at hl 0 rfl) ?_
        obtain ⟨q10, hq10⟩ : ∃ q, q = (t_Town_beside M k1 x2 q4) := ⟨_, rfl⟩
        replace hT := qlet_eq hT hq10
        refine r_backI F hS (r_runV (k := k1) (N := 20) (T := T11) (As := [vI x2, vI q4]) F hS (Town_lt hk1) (Town_sh hk1) rfl (c_Town_beside l F.2.2.1 M k1 x2 q4 hk1 hx2 h5 _ hq10.symm) gs_Scene_68 hd_Town_beside ⟨Nat.le_of_ble_eq_true rfl, Nat.le_of_ble_eq_true rfl⟩ rfl hl.1 (Nat.le_of_ble_eq_true rfl) ⟨Nat.zero_le _, Nat.zero_le _⟩ rfl d_Scene_standsIn_59) (fun H locs hS h11 => ?_)
        refine lv_istore (lv' := [(4, vI q10), (3, vI q4), (0, .ref (b + k0)), (1, .ref (b + k1)), (2, vI x2)]) F.hx F.hb d_Scene_standsIn_62 hl (Nat.le_of_ble_eq_true rfl) rfl (fun ls hl => ?_)
        refine lv_iload F.hx F.hb d_Scene_standsIn_64 (lv_at hl 0 rfl) ?_
        refine r_if_lt (tgt := 82) F.hx F.hb h11 d_Scene_standsIn_66 (by decide) (fun c12 => ?_) (fun c12 => ?_)
        · replace hT := (if_pos c12).symm.trans hT
          refine r_iconst F.hx F.hb d_Scene_standsIn_82 ?_
          refine lv_goto (tgt := 87) F.hx F.hb d_Scene_standsIn_83 (by decide) ?_
          subst hT
          exact r_zret F hlk hr hS (Or.inr rfl) d_Scene_standsIn_87
        · replace hT := (if_neg c12).symm.trans hT
          refine lv_aload_n F.hx F.hb d_Scene_standsIn_69 rfl (lv_at hl 2 rfl) ?_
          refine r_get (v := .long (M.2 k0 4)) (N := 7) (T := T9) (j := 4) F hS (Scene_lt hk0) (Scene_sh hk0) (Scene_N hk0) rfl (Nat.le_of_ble_eq_true rfl) ing9 mw_285 (fv_long rfl) d_Scene_standsIn_70 ?_
          refine lv_iload F.hx F.hb d_Scene_standsIn_73 (lv_at hl 0 rfl) ?_
          obtain ⟨q13, hq13⟩ : ∃ q, q = (t_WF_bitOf M (M.2 k0 4) q10) := ⟨_, rfl⟩
          replace hT := qlet_eq hT hq13
          refine r_backI F hS (r_runSN (As := [.long (M.2 k0 4), vI q10]) F hS (c_WF_bitOf l F.2.2.1 M (M.2 k0 4) q10 h11 _ hq13.symm) mw_773 mw_772 mw_1 gs_Scene_60 hd_WF_bitOf ⟨Nat.le_of_ble_eq_true rfl, Nat.le_of_ble_eq_true rfl⟩ rfl hl.1 (Nat.le_of_ble_eq_true rfl) ⟨Nat.zero_le _, Nat.zero_le _⟩ rfl d_Scene_standsIn_75) (fun H locs hS h14 => ?_)
          refine r_iconst F.hx F.hb d_Scene_standsIn_78 ?_
          refine r_icmp_ne (tgt := 86) F.hx F.hb h14 (inr_c rfl) d_Scene_standsIn_79 (by decide) (fun c15 => ?_) (fun c15 => ?_)
          · replace hT := (if_neg c15).symm.trans hT
            refine r_iconst F.hx F.hb d_Scene_standsIn_86 ?_
            subst hT
            exact r_zret F hlk hr hS (Or.inl rfl) d_Scene_standsIn_87
          · replace hT := (if_pos c15).symm.trans hT
            refine r_iconst F.hx F.hb d_Scene_standsIn_82 ?_
            refine lv_goto (tgt := 87) F.hx F.hb d_Scene_standsIn_83 (by decide) ?_
            subst hT
            exact r_zret F hlk hr hS (Or.inr rfl) d_Scene_standsIn_87
      · replace hT := (if_pos c9).symm.trans hT
        exact k_Scene_standsIn_L38 l hlo k0 k1 x2 hk0 hk1 hx2 F hlk hr M _ _ _ hS (lv_sub hl [2, 3] rfl) hT
  · replace hT := (if_pos c3).symm.trans hT
    refine r_iconst F.hx F.hb d_Scene_standsIn_12 ?_
    subst hT
    exact r_zret F hlk hr hS (Or.inl rfl) d_Scene_standsIn_13
theorem d_Town_hasWard_0 : decode b_Town_hasWard 0 = .ok (.iload_n 1, 1) := dc_27 (by decide +kernel)
theorem d_Town_hasWard_1 : decode b_Town_hasWard 1 = .ok (.ifCond .lt 15, 3) := dc_155 (by decide +kernel)
theorem d_Town_hasWard_4 : decode b_Town_hasWard 4 = .ok (.iload_n 1, 1) := dc_27 (by decide +kernel)
theorem d_Town_hasWard_5 : decode b_Town_hasWard 5 = .ok (.aload_n 0, 1) := dc_42 (by decide +kernel)
theorem d_Town_hasWard_6 : decode b_Town_hasWard 6 = .ok (.getfield 56, 3) := dc_180 (by decide +kernel)
theorem d_Town_hasWard_9 : decode b_Town_hasWard 9 = .ok (.if_icmp .ge 7, 3) := dc_162 (by decide +kernel)
theorem d_Town_hasWard_12 : decode b_Town_hasWard 12 = .ok (.iconst 1, 1) := dc_4 (by decide +kernel)
theorem d_Town_hasWard_13 : decode b_Town_hasWard 13 = .ok (.goto 4, 3) := dc_167 (by decide +kernel)
theorem d_Town_hasWard_16 : decode b_Town_hasWard 16 = .ok (.iconst 0, 1) := dc_3 (by decide +kernel)
theorem d_Town_hasWard_17 : decode b_Town_hasWard 17 = .ok (.ireturn, 1) := dc_172 (by decide +kernel)
def t_Town_hasWard (M : Mem) (k0 : Nat) (x1 : Int) : Int := (if x1 < 0 then 0 else (if (M.1 k0 14) ≤ x1 then 0 else 1))
set_option maxHeartbeats 4000000 in
set_option maxRecDepth 100000 in
theorem c_Town_hasWard (l : Launch) {b n : Nat} {C : CT} (hlo : 191 ≤ n) (M : Mem) (k0 : Nat) (x1 : Int) (hk0 : isTown k0) (hx1 : InR x1) (res : Int) (hT : t_Town_hasWard M k0 x1 = res) : CM l b C n 0 y_Town_hasWard b_Town_hasWard 2 (some .boolean) [.ref (b + k0), vI x1] M (QZ b C n M res) := by
  refine CM.of (lo := 191) (ow := "WardFalls$Town") (by decide) rfl (Nat.le_of_ble_eq_true rfl) hlo (fun p e s m below meth c F hlk hr hS ls hl => ?_)
  have hl : lv_has ls 2 [(0, .ref (b + k0)), (1, vI x1)] := hl
  unfold t_Town_hasWard at hT
  refine lv_iload_n F.hx F.hb d_Town_hasWard_0 rfl (lv_at hl 1 rfl) ?_
  refine r_if_lt (tgt := 16) F.hx F.hb hx1 d_Town_hasWard_1 (by decide) (fun c1 => ?_) (fun c1 => ?_)
  · replace hT := (if_pos c1).symm.trans hT
    refine r_iconst F.hx F.hb d_Town_hasWard_16 ?_
    subst hT
    exact r_zret F hlk hr hS (Or.inl rfl) d_Town_hasWard_17
  · replace hT := (if_neg c1).symm.trans hT
    refine lv_iload_n F.hx F.hb d_Town_hasWard_4 rfl (lv_at hl 1 rfl) ?_
    refine lv_aload_n F.hx F.hb d_Town_hasWard_5 rfl (lv_at hl 0 rfl) ?_
    refine r_get (v := vI (M.1 k0 14)) (N := 20) (T := T11) (j := 14) F hS (Town_lt hk0) (Town_sh hk0) (Town_N hk0) rfl (Nat.le_of_ble_eq_true rfl) ing11 mw_133 (fv_int rfl) d_Town_hasWard_6 ?_
    have i2 := hS.rng k0 14
    refine r_icmp_ge (tgt := 16) F.hx F.hb hx1 i2 d_Town_hasWard_9 (by decide) (fun c3 => ?_) (fun c3 => ?_)
    · replace hT := (if_pos c3).symm.trans hT
      refine r_iconst F.hx F.hb d_Town_hasWard_16 ?_
      subst hT
      exact r_zret F hlk hr hS (Or.inl rfl) d_Town_hasWard_17
    · replace hT := (if_neg c3).symm.trans hT
      refine r_iconst F.hx F.hb d_Town_hasWard_12 ?_
      refine lv_goto (tgt := 17) F.hx F.hb d_Town_hasWard_13 (by decide) ?_
      subst hT
      exact r_zret F hlk hr hS (Or.inr rfl) d_Town_hasWard_17
theorem d_Town_isLine_0 : decode b_Town_isLine 0 = .ok (.aload_n 0, 1) := dc_42 (by decide +kernel)
theorem d_Town_isLine_1 : decode b_Town_isLine 1 = .ok (.iload_n 1, 1) := dc_27 (by decide +kernel)
theorem d_Town_isLine_2 : decode b_Town_isLine 2 = .ok (.invokevirtual 91, 3) := dc_182 (by decide +kernel)
theorem d_Town_isLine_5 : decode b_Town_isLine 5 = .ok (.aload_n 0, 1) := dc_42 (by decide +kernel)
theorem d_Town_isLine_6 : decode b_Town_isLine 6 = .ok (.iload_n 2, 1) := dc_28 (by decide +kernel)
theorem d_Town_isLine_7 : decode b_Town_isLine 7 = .ok (.invokevirtual 91, 3) := dc_182 (by decide +kernel)
theorem d_Town_isLine_10 : decode b_Town_isLine 10 = .ok (.if_icmp .eq 7, 3) := dc_159 (by decide +kernel)
theorem d_Town_isLine_13 : decode b_Town_isLine 13 = .ok (.iconst 1, 1) := dc_4 (by decide +kernel)
theorem d_Town_isLine_14 : decode b_Town_isLine 14 = .ok (.goto 4, 3) := dc_167 (by decide +kernel)
theorem d_Town_isLine_17 : decode b_Town_isLine 17 = .ok (.iconst 0, 1) := dc_3 (by decide +kernel)
theorem d_Town_isLine_18 : decode b_Town_isLine 18 = .ok (.ireturn, 1) := dc_172 (by decide +kernel)
def t_Town_isLine (M : Mem) (k0 : Nat) (x1 : Int) (x2 : Int) : Int := (qlet (t_Town_ownerOf M k0 x1) fun q1 => (qlet (t_Town_ownerOf M k0 x2) fun q3 => (if q1 = q3 then 0 else 1)))
set_option maxHeartbeats 4000000 in
set_option maxRecDepth 100000 in
theorem c_Town_isLine (l : Launch) {b n : Nat} {C : CT} (hlo : 191 ≤ n) (M : Mem) (k0 : Nat) (x1 : Int) (x2 : Int) (hk0 : isTown k0) (hx1 : InR x1) (hx2 : InR x2) (res : Int) (hT : t_Town_isLine M k0 x1 x2 = res) : CM l b C n 2 y_Town_isLine b_Town_isLine 3 (some .boolean) [.ref (b + k0), vI x1, vI x2] M (QZ b C n M res) := by
  refine CM.of (lo := 191) (ow := "WardFalls$Town") (by decide) rfl (Nat.le_of_ble_eq_true rfl) hlo (fun p e s m below meth c F hlk hr hS ls hl => ?_)
  have hl : lv_has ls 3 [(0, .ref (b + k0)), (1, vI x1), (2, vI x2)] := hl
  unfold t_Town_isLine at hT
  refine lv_aload_n F.hx F.hb d_Town_isLine_0 rfl (lv_at hl 0 rfl) ?_
  refine lv_iload_n F.hx F.hb d_Town_isLine_1 rfl (lv_at hl 1 rfl) ?_
  obtain ⟨q1, hq1⟩ : ∃ q, q = (t_Town_ownerOf M k0 x1) := ⟨_, rfl⟩
  replace hT := qlet_eq hT hq1
  refine r_backI F hS (r_runV (k := k0) (N := 20) (T := T11) (As := [vI x1]) F hS (Town_lt hk0) (Town_sh hk0) rfl (c_Town_ownerOf l F.2.2.1 M k0 x1 hk0 hx1 _ hq1.symm) gs_Town_91 hd_Town_ownerOf ⟨Nat.le_of_ble_eq_true rfl, Nat.le_of_ble_eq_true rfl⟩ rfl hl.1 (Nat.le_of_ble_eq_true rfl) ⟨Nat.zero_le _, Nat.zero_le _⟩ rfl d_Town_isLine_2) (fun H locs hS h2 => ?_)
  refine lv_aload_n F.hx F.hb d_Town_isLine_5 rfl (lv_at hl 0 rfl) ?_
  refine lv_iload_n F.hx F.hb d_Town_isLine_6 rfl (lv_at hl 2 rfl) ?_
  obtain ⟨q3, hq3⟩ : ∃ q, q = (t_Town_ownerOf M k0 x2) := ⟨_, rfl⟩
  replace hT := qlet_eq hT hq3
  refine r_backI F hS (r_runV (k := k0) (N := 20) (T := T11) (As := [vI x2]) F hS (Town_lt hk0) (Town_sh hk0) rfl (c_Town_ownerOf l F.2.2.1 M k0 x2 hk0 hx2 _ hq3.symm) gs_Town_91 hd_Town_ownerOf ⟨Nat.le_of_ble_eq_true rfl, Nat.le_of_ble_eq_true rfl⟩ rfl hl.1 (Nat.le_of_ble_eq_true rfl) ⟨Nat.zero_le _, Nat.zero_le _⟩ rfl d_Town_isLine_7) (fun H locs hS h4 => ?_)
  refine r_icmp_eq (tgt := 17) F.hx F.hb h2 h4 d_Town_isLine_10 (by decide) (fun c5 => ?_) (fun c5 => ?_)
  · replace hT := (if_pos c5).symm.trans hT
    refine r_iconst F.hx F.hb d_Town_isLine_17 ?_
    subst hT
    exact r_zret F hlk hr hS (Or.inl rfl) d_Town_isLine_18
  · replace hT := (if_neg c5).symm.trans hT
    refine r_iconst F.hx F.hb d_Town_isLine_13 ?_
    refine lv_goto (tgt := 18) F.hx F.hb d_Town_isLine_14 (by decide) ?_
    subst hT
    exact r_zret F hlk hr hS (Or.inr rfl) d_Town_isLine_18
theorem wn_Trail_follow_0 : ∀ i, i < 96 → bA b_Trail_follow (0 + i) = wB [42, 3, 181, 0, 15, 42, 3, 181, 0, 19, 42, 3, 181, 0, 22, 9, 55, 4, 29, 54, 6, 3, 54, 7, 21, 7, 16, 48, 162, 0, 125, 42, 180, 0, 9, 21, 7, 21, 6, 184, 0, 25, 42, 21, 7, 4, 96, 181, 0, 15, 42, 21, 7, 181, 0, 29, 22, 4, 10, 21, 6, 121, 129, 55, 4, 44, 43, 21, 6, 182, 0, 32, 54, 8, 21, 8, 156, 0, 4, 177, 43, 21, 6, 21, 8, 182, 0, 38, 153, 0, 13, 42, 89, 180, 0, 22] i := wB_of (by decide +kernel)
theorem d_Trail_follow_0 : decode b_Trail_follow 0 = .ok (.aload_n 0, 1) := dc_42 (q0_win (r := 0) wn_Trail_follow_0 (by decide +kernel))
theorem d_Trail_follow_1 : decode b_Trail_follow 1 = .ok (.iconst 0, 1) := dc_3 (q0_win (r := 1) wn_Trail_follow_0 (by decide +kernel))
theorem d_Trail_follow_2 : decode b_Trail_follow 2 = .ok (.putfield 15, 3) := dc_181 (qU2_win (r := 2) wn_Trail_follow_0 (by decide +kernel))
theorem d_Trail_follow_5 : decode b_Trail_follow 5 = .ok (.aload_n 0, 1) := dc_42 (q0_win (r := 5) wn_Trail_follow_0 (by decide +kernel))
theorem d_Trail_follow_6 : decode b_Trail_follow 6 = .ok (.iconst 0, 1) := dc_3 (q0_win (r := 6) wn_Trail_follow_0 (by decide +kernel))
theorem d_Trail_follow_7 : decode b_Trail_follow 7 = .ok (.putfield 19, 3) := dc_181 (qU2_win (r := 7) wn_Trail_follow_0 (by decide +kernel))
theorem d_Trail_follow_10 : decode b_Trail_follow 10 = .ok (.aload_n 0, 1) := dc_42 (q0_win (r := 10) wn_Trail_follow_0 (by decide +kernel))
theorem d_Trail_follow_11 : decode b_Trail_follow 11 = .ok (.iconst 0, 1) := dc_3 (q0_win (r := 11) wn_Trail_follow_0 (by decide +kernel))
theorem d_Trail_follow_12 : decode b_Trail_follow 12 = .ok (.putfield 22, 3) := dc_181 (qU2_win (r := 12) wn_Trail_follow_0 (by decide +kernel))
theorem d_Trail_follow_15 : decode b_Trail_follow 15 = .ok (.lconst 0, 1) := dc_9 (q0_win (r := 15) wn_Trail_follow_0 (by decide +kernel))
theorem d_Trail_follow_16 : decode b_Trail_follow 16 = .ok (.lstore 4, 2) := dc_55 (qU1_win (r := 16) wn_Trail_follow_0 (by decide +kernel))
theorem d_Trail_follow_18 : decode b_Trail_follow 18 = .ok (.iload_n 3, 1) := dc_29 (q0_win (r := 18) wn_Trail_follow_0 (by decide +kernel))
theorem d_Trail_follow_19 : decode b_Trail_follow 19 = .ok (.istore 6, 2) := dc_54 (qU1_win (r := 19) wn_Trail_follow_0 (by decide +kernel))
theorem d_Trail_follow_21 : decode b_Trail_follow 21 = .ok (.iconst 0, 1) := dc_3 (q0_win (r := 21) wn_Trail_follow_0 (by decide +kernel))
theorem d_Trail_follow_22 : decode b_Trail_follow 22 = .ok (.istore 7, 2) := dc_54 (qU1_win (r := 22) wn_Trail_follow_0 (by decide +kernel))
theorem d_Trail_follow_24 : decode b_Trail_follow 24 = .ok (.iload 7, 2) := dc_21 (qU1_win (r := 24) wn_Trail_follow_0 (by decide +kernel))
theorem d_Trail_follow_26 : decode b_Trail_follow 26 = .ok (.bipush 48, 2) := dc_16 (qS1_win (r := 26) wn_Trail_follow_0 (by decide +kernel))
theorem d_Trail_follow_28 : decode b_Trail_follow 28 = .ok (.if_icmp .ge 125, 3) := dc_162 (qS2_win (r := 28) wn_Trail_follow_0 (by decide +kernel))
theorem d_Trail_follow_31 : decode b_Trail_follow 31 = .ok (.aload_n 0, 1) := dc_42 (q0_win (r := 31) wn_Trail_follow_0 (by decide +kernel))
theorem d_Trail_follow_32 : decode b_Trail_follow 32 = .ok (.getfield 9, 3) := dc_180 (qU2_win (r := 32) wn_Trail_follow_0 (by decide +kernel))
theorem d_Trail_follow_35 : decode b_Trail_follow 35 = .ok (.iload 7, 2) := dc_21 (qU1_win (r := 35) wn_Trail_follow_0 (by decide +kernel))
theorem d_Trail_follow_37 : decode b_Trail_follow 37 = .ok (.iload 6, 2) := dc_21 (qU1_win (r := 37) wn_Trail_follow_0 (by decide +kernel))
theorem d_Trail_follow_39 : decode b_Trail_follow 39 = .ok (.invokestatic 25, 3) := dc_184 (qU2_win (r := 39) wn_Trail_follow_0 (by decide +kernel))
theorem d_Trail_follow_42 : decode b_Trail_follow 42 = .ok (.aload_n 0, 1) := dc_42 (q0_win (r := 42) wn_Trail_follow_0 (by decide +kernel))
theorem d_Trail_follow_43 : decode b_Trail_follow 43 = .ok (.iload 7, 2) := dc_21 (qU1_win (r := 43) wn_Trail_follow_0 (by decide +kernel))
theorem d_Trail_follow_45 : decode b_Trail_follow 45 = .ok (.iconst 1, 1) := dc_4 (q0_win (r := 45) wn_Trail_follow_0 (by decide +kernel))
theorem d_Trail_follow_46 : decode b_Trail_follow 46 = .ok (.iadd, 1) := dc_96 (q0_win (r := 46) wn_Trail_follow_0 (by decide +kernel))
theorem d_Trail_follow_47 : decode b_Trail_follow 47 = .ok (.putfield 15, 3) := dc_181 (qU2_win (r := 47) wn_Trail_follow_0 (by decide +kernel))
theorem d_Trail_follow_50 : decode b_Trail_follow 50 = .ok (.aload_n 0, 1) := dc_42 (q0_win (r := 50) wn_Trail_follow_0 (by decide +kernel))
theorem d_Trail_follow_51 : decode b_Trail_follow 51 = .ok (.iload 7, 2) := dc_21 (qU1_win (r := 51) wn_Trail_follow_0 (by decide +kernel))
theorem d_Trail_follow_53 : decode b_Trail_follow 53 = .ok (.putfield 29, 3) := dc_181 (qU2_win (r := 53) wn_Trail_follow_0 (by decide +kernel))
theorem d_Trail_follow_56 : decode b_Trail_follow 56 = .ok (.lload 4, 2) := dc_22 (qU1_win (r := 56) wn_Trail_follow_0 (by decide +kernel))
theorem d_Trail_follow_58 : decode b_Trail_follow 58 = .ok (.lconst 1, 1) := dc_10 (q0_win (r := 58) wn_Trail_follow_0 (by decide +kernel))
theorem d_Trail_follow_59 : decode b_Trail_follow 59 = .ok (.iload 6, 2) := dc_21 (qU1_win (r := 59) wn_Trail_follow_0 (by decide +kernel))
theorem d_Trail_follow_61 : decode b_Trail_follow 61 = .ok (.lshl, 1) := dc_121 (q0_win (r := 61) wn_Trail_follow_0 (by decide +kernel))
theorem d_Trail_follow_62 : decode b_Trail_follow 62 = .ok (.lor, 1) := dc_129 (q0_win (r := 62) wn_Trail_follow_0 (by decide +kernel))
theorem d_Trail_follow_63 : decode b_Trail_follow 63 = .ok (.lstore 4, 2) := dc_55 (qU1_win (r := 63) wn_Trail_follow_0 (by decide +kernel))
theorem d_Trail_follow_65 : decode b_Trail_follow 65 = .ok (.aload_n 2, 1) := dc_44 (q0_win (r := 65) wn_Trail_follow_0 (by decide +kernel))
theorem d_Trail_follow_66 : decode b_Trail_follow 66 = .ok (.aload_n 1, 1) := dc_43 (q0_win (r := 66) wn_Trail_follow_0 (by decide +kernel))
theorem d_Trail_follow_67 : decode b_Trail_follow 67 = .ok (.iload 6, 2) := dc_21 (qU1_win (r := 67) wn_Trail_follow_0 (by decide +kernel))
theorem d_Trail_follow_69 : decode b_Trail_follow 69 = .ok (.invokevirtual 32, 3) := dc_182 (qU2_win (r := 69) wn_Trail_follow_0 (by decide +kernel))
theorem d_Trail_follow_72 : decode b_Trail_follow 72 = .ok (.istore 8, 2) := dc_54 (qU1_win (r := 72) wn_Trail_follow_0 (by decide +kernel))
theorem d_Trail_follow_74 : decode b_Trail_follow 74 = .ok (.iload 8, 2) := dc_21 (qU1_win (r := 74) wn_Trail_follow_0 (by decide +kernel))
theorem d_Trail_follow_76 : decode b_Trail_follow 76 = .ok (.ifCond .ge 4, 3) := dc_156 (qS2_win (r := 76) wn_Trail_follow_0 (by decide +kernel))
theorem d_Trail_follow_79 : decode b_Trail_follow 79 = .ok (.return_, 1) := dc_177 (q0_win (r := 79) wn_Trail_follow_0 (by decide +kernel))
theorem d_Trail_follow_80 : decode b_Trail_follow 80 = .ok (.aload_n 1, 1) := dc_43 (q0_win (r := 80) wn_Trail_follow_0 (by decide +kernel))
theorem d_Trail_follow_81 : decode b_Trail_follow 81 = .ok (.iload 6, 2) := dc_21 (qU1_win (r := 81) wn_Trail_follow_0 (by decide +kernel))
theorem d_Trail_follow_83 : decode b_Trail_follow 83 = .ok (.iload 8, 2) := dc_21 (qU1_win (r := 83) wn_Trail_follow_0 (by decide +kernel))
theorem d_Trail_follow_85 : decode b_Trail_follow 85 = .ok (.invokevirtual 38, 3) := dc_182 (qU2_win (r := 85) wn_Trail_follow_0 (by decide +kernel))
theorem d_Trail_follow_88 : decode b_Trail_follow 88 = .ok (.ifCond .eq 13, 3) := dc_153 (qS2_win (r := 88) wn_Trail_follow_0 (by decide +kernel))
theorem d_Trail_follow_91 : decode b_Trail_follow 91 = .ok (.aload_n 0, 1) := dc_42 (q0_win (r := 91) wn_Trail_follow_0 (by decide +kernel))
theorem d_Trail_follow_92 : decode b_Trail_follow 92 = .ok (.dup, 1) := dc_89 (q0_win (r := 92) wn_Trail_follow_0 (by decide +kernel))
theorem d_Trail_follow_93 : decode b_Trail_follow 93 = .ok (.getfield 22, 3) := dc_180 (qU2_win (r := 93) wn_Trail_follow_0 (by decide +kernel))
theorem wn_Trail_follow_96 : ∀ i, i < 58 → bA b_Trail_follow (96 + i) = wB [4, 96, 181, 0, 22, 22, 4, 21, 8, 184, 0, 44, 4, 160, 0, 34, 42, 42, 180, 0, 9, 42, 180, 0, 15, 21, 8, 184, 0, 48, 181, 0, 29, 42, 42, 180, 0, 15, 42, 180, 0, 29, 100, 181, 0, 19, 177, 21, 8, 54, 6, 132, 7, 1, 167, 255, 130, 177] i := wB_of (by decide +kernel)
theorem d_Trail_follow_96 : decode b_Trail_follow 96 = .ok (.iconst 1, 1) := dc_4 (q0_win (r := 0) wn_Trail_follow_96 (by decide +kernel))
theorem d_Trail_follow_97 : decode b_Trail_follow 97 = .ok (.iadd, 1) := dc_96 (q0_win (r := 1) wn_Trail_follow_96 (by decide +kernel))
theorem d_Trail_follow_98 : decode b_Trail_follow 98 = .ok (.putfield 22, 3) := dc_181 (qU2_win (r := 2) wn_Trail_follow_96 (by decide +kernel))
theorem d_Trail_follow_101 : decode b_Trail_follow 101 = .ok (.lload 4, 2) := dc_22 (qU1_win (r := 5) wn_Trail_follow_96 (by decide +kernel))
theorem d_Trail_follow_103 : decode b_Trail_follow 103 = .ok (.iload 8, 2) := dc_21 (qU1_win (r := 7) wn_Trail_follow_96 (by decide +kernel))
theorem d_Trail_follow_105 : decode b_Trail_follow 105 = .ok (.invokestatic 44, 3) := dc_184 (qU2_win (r := 9) wn_Trail_follow_96 (by decide +kernel))
theorem d_Trail_follow_108 : decode b_Trail_follow 108 = .ok (.iconst 1, 1) := dc_4 (q0_win (r := 12) wn_Trail_follow_96 (by decide +kernel))
theorem d_Trail_follow_109 : decode b_Trail_follow 109 = .ok (.if_icmp .ne 34, 3) := dc_160 (qS2_win (r := 13) wn_Trail_follow_96 (by decide +kernel))
theorem d_Trail_follow_112 : decode b_Trail_follow 112 = .ok (.aload_n 0, 1) := dc_42 (q0_win (r := 16) wn_Trail_follow_96 (by decide +kernel))
theorem d_Trail_follow_113 : decode b_Trail_follow 113 = .ok (.aload_n 0, 1) := dc_42 (q0_win (r := 17) wn_Trail_follow_96 (by decide +kernel))
theorem d_Trail_follow_114 : decode b_Trail_follow 114 = .ok (.getfield 9, 3) := dc_180 (qU2_win (r := 18) wn_Trail_follow_96 (by decide +kernel))
theorem d_Trail_follow_117 : decode b_Trail_follow 117 = .ok (.aload_n 0, 1) := dc_42 (q0_win (r := 21) wn_Trail_follow_96 (by decide +kernel))
theorem d_Trail_follow_118 : decode b_Trail_follow 118 = .ok (.getfield 15, 3) := dc_180 (qU2_win (r := 22) wn_Trail_follow_96 (by decide +kernel))
theorem d_Trail_follow_121 : decode b_Trail_follow 121 = .ok (.iload 8, 2) := dc_21 (qU1_win (r := 25) wn_Trail_follow_96 (by decide +kernel))
theorem d_Trail_follow_123 : decode b_Trail_follow 123 = .ok (.invokestatic 48, 3) := dc_184 (qU2_win (r := 27) wn_Trail_follow_96 (by decide +kernel))
theorem d_Trail_follow_126 : decode b_Trail_follow 126 = .ok (.putfield 29, 3) := dc_181 (qU2_win (r := 30) wn_Trail_follow_96 (by decide +kernel))
theorem d_Trail_follow_129 : decode b_Trail_follow 129 = .ok (.aload_n 0, 1) := dc_42 (q0_win (r := 33) wn_Trail_follow_96 (by decide +kernel))
theorem d_Trail_follow_130 : decode b_Trail_follow 130 = .ok (.aload_n 0, 1) := dc_42 (q0_win (r := 34) wn_Trail_follow_96 (by decide +kernel))
theorem d_Trail_follow_131 : decode b_Trail_follow 131 = .ok (.getfield 15, 3) := dc_180 (qU2_win (r := 35) wn_Trail_follow_96 (by decide +kernel))
theorem d_Trail_follow_134 : decode b_Trail_follow 134 = .ok (.aload_n 0, 1) := dc_42 (q0_win (r := 38) wn_Trail_follow_96 (by decide +kernel))
theorem d_Trail_follow_135 : decode b_Trail_follow 135 = .ok (.getfield 29, 3) := dc_180 (qU2_win (r := 39) wn_Trail_follow_96 (by decide +kernel))
theorem d_Trail_follow_138 : decode b_Trail_follow 138 = .ok (.isub, 1) := dc_100 (q0_win (r := 42) wn_Trail_follow_96 (by decide +kernel))
theorem d_Trail_follow_139 : decode b_Trail_follow 139 = .ok (.putfield 19, 3) := dc_181 (qU2_win (r := 43) wn_Trail_follow_96 (by decide +kernel))
theorem d_Trail_follow_142 : decode b_Trail_follow 142 = .ok (.return_, 1) := dc_177 (q0_win (r := 46) wn_Trail_follow_96 (by decide +kernel))
theorem d_Trail_follow_143 : decode b_Trail_follow 143 = .ok (.iload 8, 2) := dc_21 (qU1_win (r := 47) wn_Trail_follow_96 (by decide +kernel))
theorem d_Trail_follow_145 : decode b_Trail_follow 145 = .ok (.istore 6, 2) := dc_54 (qU1_win (r := 49) wn_Trail_follow_96 (by decide +kernel))
theorem d_Trail_follow_147 : decode b_Trail_follow 147 = .ok (.iinc 7 1, 3) := dc_132 (qI_win (r := 51) wn_Trail_follow_96 (by decide +kernel))
theorem d_Trail_follow_150 : decode b_Trail_follow 150 = .ok (.goto (-126), 3) := dc_167 (qS2_win (r := 54) wn_Trail_follow_96 (by decide +kernel))
theorem d_Trail_follow_153 : decode b_Trail_follow 153 = .ok (.return_, 1) := dc_177 (q0_win (r := 57) wn_Trail_follow_96 (by decide +kernel))
def t_Trail_follow_L101 (k0 : Nat) (k1 : Nat) (k2 : Nat) (x3 : Int) (bk24 : Mem → Int64 → Int → Int → Option (Mem)) (M : Mem) (v3_ : Int64) (v4_ : Int) (v5_ : Int) : Option (Mem) := (qlet (t_WF_bitOf M v3_ v5_) fun q17 => (if q17 = 1 then (obind (t_WF_indexOf M (k0 + 1) 48 (M.1 k0 1) v5_) fun q21 => (qlet (setI M k0 2 q21) fun M23 => (qlet (setI M23 k0 3 (w32 ((M23.1 k0 1) - (M23.1 k0 2)))) fun M26 => (some M26)))) else (bk24 M v3_ v5_ (w32 (v4_ + 1)))))
def t_Trail_follow_L24 (k0 : Nat) (k1 : Nat) (k2 : Nat) (x3 : Int)  : Nat → Mem → Int64 → Int → Int → Option (Mem)
  | 0, _, _, _, _ => none
  | fu + 1, M, v3_, v4_, v5_ => (if 48 ≤ v5_ then (some M) else (qlet (t_WF_put M (k0 + 1) 48 v5_ v4_) fun q5 => (qlet (setI q5 k0 1 (w32 (v5_ + 1))) fun M7 => (qlet (setI M7 k0 2 v5_) fun M8 => (qlet (t_Scene_nextOf M8 k2 k1 v4_) fun q9 => (if 0 ≤ q9 then (qlet (t_Town_isLine M8 k1 v4_ q9) fun q12 => (if q12 = 0 then (t_Trail_follow_L101 k0 k1 k2 x3 (fun a0_ a1_ a2_ a3_ => t_Trail_follow_L24 k0 k1 k2 x3 fu a0_ a1_ a2_ a3_) M8 (v3_ ||| (q_lshl 1 v4_)) v5_ q9) else (qlet (setI M8 k0 4 (w32 ((M8.1 k0 4) + 1))) fun M16 => (t_Trail_follow_L101 k0 k1 k2 x3 (fun a0_ a1_ a2_ a3_ => t_Trail_follow_L24 k0 k1 k2 x3 fu a0_ a1_ a2_ a3_) M16 (v3_ ||| (q_lshl 1 v4_)) v5_ q9)))) else (some M8)))))))
def t_Trail_follow (M : Mem) (k0 : Nat) (k1 : Nat) (k2 : Nat) (x3 : Int) : Option (Mem) := (qlet (setI M k0 1 0) fun M1 => (qlet (setI M1 k0 3 0) fun M2 => (qlet (setI M2 k0 4 0) fun M3 => (t_Trail_follow_L24 k0 k1 k2 x3 FU M3 0 x3 0))))
set_option maxHeartbeats 4000000 in
set_option maxRecDepth 100000 in
theorem k_Trail_follow_L101 (l : Launch) {p : Program} {e : Env} {s : State} {m : MethodId} {below : List Frame} {meth : Method} {c : Code} {b n : Nat} {C : CT} (hlo : 191 ≤ n) (k0 : Nat) (k1 : Nat) (k2 : Nat) (x3 : Int) (hk0 : isTrail k0) (hk1 : isTown k1) (hk2 : isScene k2) (hx3 : InR x3) (F : Cx b p m c b_Trail_follow 9 s ([.ref (b + k0), .ref (b + k1), .ref (b + k2), vI x3] : List Value).toArray "WardFalls$Trail" C n 191) (hlk : meth.locks = false) (hr : meth.sig.returnType = none) {res : Mem} (bk24 : Mem → Int64 → Int → Int → Option (Mem)) (hbk24 : ∀ (M : Mem) (v3_ : Int64) (v4_ : Int) (hv4_ : InR v4_) (v5_ : Int) (hv5_ : InR v5_) (H : Heap) (locs : List Loc) (ls : Array Slot), St b C n M s H locs → lv_has ls 9 [(0, .ref (b + k0)), (1, .ref (b + k1)), (2, .ref (b + k2)), (4, .long v3_), (6, vI v4_), (7, vI v5_)] → bk24 M v3_ v4_ v5_ = some res → W p l e (headSpec (wsM y_Trail_follow b_Trail_follow 9 (none)) (rmD 3)).room s m ([.ref (b + k0), .ref (b + k1), .ref (b + k2), vI x3] : List Value).toArray below meth c H locs 0 0 (MQ below (QV b C n res) ([.ref (b + k0), .ref (b + k1), .ref (b + k2), vI x3] : List Value).toArray s 0 0 (frb b)) (F0 m 24 ls [])) (M : Mem) (v3_ : Int64) (v4_ : Int) (hv4_ : InR v4_) (v5_ : Int) (hv5_ : InR v5_) (H : Heap) (locs : List Loc) (ls : Array Slot) (hS : St b C n M s H locs) (hl : lv_has ls 9 [(0, .ref (b + k0)), (1, .ref (b + k1)), (2, .ref (b + k2)), (4, .long v3_), (7, vI v4_), (8, vI v5_)]) (hT : t_Trail_follow_L101 k0 k1 k2 x3 bk24 M v3_ v4_ v5_ = some res) : W p l e (headSpec (wsM y_Trail_follow b_Trail_follow 9 (none)) (rmD 3)).room s m ([.ref (b + k0), .ref (b + k1), .ref (b + k2), vI x3] : List Value).toArray below meth c H locs 0 0 (MQ below (QV b C n res) ([.ref (b + k0), .ref (b + k1), .ref (b + k2), vI x3] : List Value).toArray s 0 0 (frb b)) (F0 m 101 ls []) := by
  unfold t_Trail_follow_L101 at hT
  refine lv_lload F.hx F.hb d_Trail_follow_101 (lv_at hl 3 rfl) ?_
  refine lv_iload F.hx F.hb d_Trail_follow_103 (lv_at hl 5 rfl) ?_
  obtain ⟨q17, hq17⟩ : ∃ q, q = (t_WF_bitOf M v3_ v5_) := ⟨_, rfl⟩
  replace hT := qlet_eq hT hq17
  refine r_backI F hS (r_runSN (As := [.long v3_, vI v5_]) F hS (c_WF_bitOf l F.2.2.1 M v3_ v5_ hv5_ _ hq17.symm) mw_773 mw_772 mw_1 gs_Trail_44 hd_WF_bitOf ⟨Nat.le_of_ble_eq_true rfl, Nat.le_of_ble_eq_true rfl⟩ rfl hl.1 (Nat.le_of_ble_eq_true rfl) ⟨Nat.zero_le _, Nat.zero_le _⟩ rfl d_Trail_follow_105) (fun H locs hS h18 => ?_)
  refine r_iconst F.hx F.hb d_Trail_follow_108 ?_
  refine r_icmp_ne (tgt := 143) F.hx F.hb h18 (inr_c rfl) d_Trail_follow_109 (by decide) (fun c19 => ?_) (fun c19 => ?_)
  · replace hT := (if_neg c19).symm.trans hT
    refine lv_iload F.hx F.hb d_Trail_follow_143 (lv_at hl 5 rfl) ?_
    refine lv_istore (lv' := [(6, vI v5_), (0, .ref (b + k0)), (1, .ref (b + k1)), (2, .ref (b + k2)), (4, .long v3_), (7, vI v4_), (8, vI v5_)]) F.hx F.hb d_Trail_follow_145 hl (Nat.le_of_ble_eq_true rfl) rfl (fun ls hl => ?_)
    refine lv_iinc (v := Int32.ofInt (w32 (v4_ + 1))) (lv' := [(7, vI (w32 (v4_ + 1))), (6, vI v5_), (0, .ref (b + k0)), (1, .ref (b + k1)), (2, .ref (b + k2)), (4, .long v3_), (8, vI v5_)]) F.hx F.hb d_Trail_follow_147 hl (k := 5) rfl (q_of_add _ _) (Nat.le_of_ble_eq_true rfl) rfl (fun ls hl => ?_)
    refine lv_goto (tgt := 24) F.hx F.hb d_Trail_follow_150 (by decide) ?_
    exact hbk24 M v3_ v5_ hv5_ (w32 (v4_ + 1)) (inr_w32 _) _ _ _ hS (lv_sub hl [2, 3, 4, 5, 1, 0] rfl) hT
  · replace hT := (if_pos c19).symm.trans hT
    refine lv_aload_n F.hx F.hb d_Trail_follow_112 rfl (lv_at hl 0 rfl) ?_
    refine lv_aload_n F.hx F.hb d_Trail_follow_113 rfl (lv_at hl 0 rfl) ?_
    refine r_get (v := .ref (b + (k0 + 1))) (N := 9) (T := T12) (j := 0) F hS (Trail_lt hk0) (Trail_sh hk0) (Trail_N hk0) rfl (Nat.le_of_ble_eq_true rfl) ing12 mw_402 (Trail_g0 hk0 _) d_Trail_follow_114 ?_
    refine lv_aload_n F.hx F.hb d_Trail_follow_117 rfl (lv_at hl 0 rfl) ?_
    refine r_get (v := vI (M.1 k0 1)) (N := 9) (T := T12) (j := 1) F hS (Trail_lt hk0) (Trail_sh hk0) (Trail_N hk0) rfl (Nat.le_of_ble_eq_true rfl) ing12 mw_403 (fv_int rfl) d_Trail_follow_118 ?_
    have i20 := hS.rng k0 1
    refine lv_iload F.hx F.hb d_Trail_follow_121 (lv_at hl 5 rfl) ?_
    obtain ⟨q21, hq21, hT⟩ := q_obind hT
    refine r_backI F hS (r_runSN (As := [.ref (b + (k0 + 1)), vI (M.1 k0 1), vI v5_]) F hS (c_WF_indexOf l F.2.2.1 M (k0 + 1) 48 (M.1 k0 1) v5_ (Trail_f0 hk0) i20 hv5_ _ hq21) mw_748 mw_747 mw_1 gs_Trail_48 hd_WF_indexOf ⟨Nat.le_of_ble_eq_true rfl, Nat.le_of_ble_eq_true rfl⟩ rfl hl.1 (Nat.le_of_ble_eq_true rfl) ⟨Nat.zero_le _, Nat.zero_le _⟩ rfl d_Trail_follow_123) (fun H locs hS h22 => ?_)
    refine r_putI (N := 9) (T := T12) (j := 2) F hS (Trail_lt hk0) (Trail_sh hk0) (Trail_N hk0) rfl (Nat.le_of_ble_eq_true rfl) ing12 tyok12 nm12 rfl rfl rfl rfl rfl (Trail_dyn hk0 _) mw_404 h22 d_Trail_follow_126 (fun H locs hS => ?_)
    obtain ⟨M23, eM23⟩ : ∃ q, q = (setI M k0 2 q21) := ⟨_, rfl⟩
    replace hS : St b C n M23 s H locs := by rw [eM23]; exact hS
    replace hT := qlet_eq hT eM23
    refine lv_aload_n F.hx F.hb d_Trail_follow_129 rfl (lv_at hl 0 rfl) ?_
    refine lv_aload_n F.hx F.hb d_Trail_follow_130 rfl (lv_at hl 0 rfl) ?_
    refine r_get (v := vI (M23.1 k0 1)) (N := 9) (T := T12) (j := 1) F hS (Trail_lt hk0) (Trail_sh hk0) (Trail_N hk0) rfl (Nat.le_of_ble_eq_true rfl) ing12 mw_403 (fv_int rfl) d_Trail_follow_131 ?_
    have i24 := hS.rng k0 1
    refine lv_aload_n F.hx F.hb d_Trail_follow_134 rfl (lv_at hl 0 rfl) ?_
    refine r_get (v := vI (M23.1 k0 2)) (N := 9) (T := T12) (j := 2) F hS (Trail_lt hk0) (Trail_sh hk0) (Trail_N hk0) rfl (Nat.le_of_ble_eq_true rfl) ing12 mw_404 (fv_int rfl) d_Trail_follow_135 ?_
    have i25 := hS.rng k0 2
    refine r_isub F.hx F.hb d_Trail_follow_138 ?_
    refine r_putI (N := 9) (T := T12) (j := 3) F hS (Trail_lt hk0) (Trail_sh hk0) (Trail_N hk0) rfl (Nat.le_of_ble_eq_true rfl) ing12 tyok12 nm12 rfl rfl rfl rfl rfl (Trail_dyn hk0 _) mw_406 (inr_w32 _) d_Trail_follow_139 (fun H locs hS => ?_)
    obtain ⟨M26, eM26⟩ : ∃ q, q = (setI M23 k0 3 (w32 ((M23.1 k0 1) - (M23.1 k0 2)))) := ⟨_, rfl⟩
    replace hS : St b C n M26 s H locs := by rw [eM26]; exact hS
    replace hT := qlet_eq hT eM26
    cases hT
    exact r_vret F hlk hr hS d_Trail_follow_142
set_option maxHeartbeats 4000000 in
set_option maxRecDepth 100000 in
theorem k_Trail_follow_L24 (l : Launch) {p : Program} {e : Env} {s : State} {m : MethodId} {below : List Frame} {meth : Method} {c : Code} {b n : Nat} {C : CT} (hlo : 191 ≤ n) (k0 : Nat) (k1 : Nat) (k2 : Nat) (x3 : Int) (hk0 : isTrail k0) (hk1 : isTown k1) (hk2 : isScene k2) (hx3 : InR x3) (F : Cx b p m c b_Trail_follow 9 s ([.ref (b + k0), .ref (b + k1), .ref (b + k2), vI x3] : List Value).toArray "WardFalls$Trail" C n 191) (hlk : meth.locks = false) (hr : meth.sig.returnType = none) {res : Mem} : ∀ (fu : Nat) (M : Mem) (v3_ : Int64) (v4_ : Int) (hv4_ : InR v4_) (v5_ : Int) (hv5_ : InR v5_) (H : Heap) (locs : List Loc) (ls : Array Slot), St b C n M s H locs → lv_has ls 9 [(0, .ref (b + k0)), (1, .ref (b + k1)), (2, .ref (b + k2)), (4, .long v3_), (6, vI v4_), (7, vI v5_)] → t_Trail_follow_L24 k0 k1 k2 x3 fu M v3_ v4_ v5_ = some res → W p l e (headSpec (wsM y_Trail_follow b_Trail_follow 9 (none)) (rmD 3)).room s m ([.ref (b + k0), .ref (b + k1), .ref (b + k2), vI x3] : List Value).toArray below meth c H locs 0 0 (MQ below (QV b C n res) ([.ref (b + k0), .ref (b + k1), .ref (b + k2), vI x3] : List Value).toArray s 0 0 (frb b)) (F0 m 24 ls []) := by
  intro fu
  induction fu with
  | zero => intro M v3_ v4_ hv4_ v5_ hv5_ H locs ls hS hl hT; exact absurd hT (by simp [t_Trail_follow_L24])
  | succ fu ih =>
    intro M v3_ v4_ hv4_ v5_ hv5_ H locs ls hS hl hT
    rw [t_Trail_follow_L24] at hT
    refine lv_iload F.hx F.hb d_Trail_follow_24 (lv_at hl 5 rfl) ?_
    refine r_bipush F.hx F.hb d_Trail_follow_26 rfl ?_
    refine r_icmp_ge (tgt := 153) F.hx F.hb hv5_ (inr_c rfl) d_Trail_follow_28 (by decide) (fun c4 => ?_) (fun c4 => ?_)
    · replace hT := (if_pos c4).symm.trans hT
      cases hT
      exact r_vret F hlk hr hS d_Trail_follow_153
    · replace hT := (if_neg c4).symm.trans hT
      refine lv_aload_n F.hx F.hb d_Trail_follow_31 rfl (lv_at hl 0 rfl) ?_
      refine r_get (v := .ref (b + (k0 + 1))) (N := 9) (T := T12) (j := 0) F hS (Trail_lt hk0) (Trail_sh hk0) (Trail_N hk0) rfl (Nat.le_of_ble_eq_true rfl) ing12 mw_402 (Trail_g0 hk0 _) d_Trail_follow_32 ?_
      refine lv_iload F.hx F.hb d_Trail_follow_35 (lv_at hl 5 rfl) ?_
      refine lv_iload F.hx F.hb d_Trail_follow_37 (lv_at hl 4 rfl) ?_
      obtain ⟨q5, hq5⟩ : ∃ q, q = (t_WF_put M (k0 + 1) 48 v5_ v4_) := ⟨_, rfl⟩
      replace hT := qlet_eq hT hq5
      refine r_backV F hS (r_runSN (As := [.ref (b + (k0 + 1)), vI v5_, vI v4_]) F hS (c_WF_put l F.2.2.1 M (k0 + 1) 48 v5_ v4_ (Trail_f0 hk0) hv5_ hv4_ _ hq5.symm) mw_512 mw_511 mw_1 gs_Trail_25 hd_WF_put ⟨Nat.le_of_ble_eq_true rfl, Nat.le_of_ble_eq_true rfl⟩ rfl hl.1 (Nat.le_of_ble_eq_true rfl) ⟨Nat.zero_le _, Nat.zero_le _⟩ rfl d_Trail_follow_39) (fun H locs hS => ?_)
      refine lv_aload_n F.hx F.hb d_Trail_follow_42 rfl (lv_at hl 0 rfl) ?_
      refine lv_iload F.hx F.hb d_Trail_follow_43 (lv_at hl 5 rfl) ?_
      refine r_iconst F.hx F.hb d_Trail_follow_45 ?_
      refine r_iadd F.hx F.hb d_Trail_follow_46 ?_
      refine r_putI (N := 9) (T := T12) (j := 1) F hS (Trail_lt hk0) (Trail_sh hk0) (Trail_N hk0) rfl (Nat.le_of_ble_eq_true rfl) ing12 tyok12 nm12 rfl rfl rfl rfl rfl (Trail_dyn hk0 _) mw_403 (inr_w32 _) d_Trail_follow_47 (fun H locs hS => ?_)
      obtain ⟨M7, eM7⟩ : ∃ q, q = (setI q5 k0 1 (w32 (v5_ + 1))) := ⟨_, rfl⟩
      replace hS : St b C n M7 s H locs := by rw [eM7]; exact hS
      replace hT := qlet_eq hT eM7
      refine lv_aload_n F.hx F.hb d_Trail_follow_50 rfl (lv_at hl 0 rfl) ?_
      refine lv_iload F.hx F.hb d_Trail_follow_51 (lv_at hl 5 rfl) ?_
      refine r_putI (N := 9) (T := T12) (j := 2) F hS (Trail_lt hk0) (Trail_sh hk0) (Trail_N hk0) rfl (Nat.le_of_ble_eq_true rfl) ing12 tyok12 nm12 rfl rfl rfl rfl rfl (Trail_dyn hk0 _) mw_404 hv5_ d_Trail_follow_53 (fun H locs hS => ?_)
      obtain ⟨M8, eM8⟩ : ∃ q, q = (setI M7 k0 2 v5_) := ⟨_, rfl⟩
      replace hS : St b C n M8 s H locs := by rw [eM8]; exact hS
      replace hT := qlet_eq hT eM8
      refine lv_lload F.hx F.hb d_Trail_follow_56 (lv_at hl 3 rfl) ?_
      refine lv_lconst (v := 1) F.hx F.hb d_Trail_follow_58 rfl ?_
      refine lv_iload F.hx F.hb d_Trail_follow_59 (lv_at hl 4 rfl) ?_
      refine r_lshl F.hx F.hb d_Trail_follow_61 ?_
      refine lv_lor F.hx F.hb d_Trail_follow_62 ?_
      refine lv_lstore (lv' := [(4, .long (v3_ ||| (q_lshl 1 v4_))), (0, .ref (b + k0)), (1, .ref (b + k1)), (2, .ref (b + k2)), (6, vI v4_), (7, vI v5_)]) F.hx F.hb d_Trail_follow_63 hl (Nat.le_of_ble_eq_true rfl) rfl (fun ls hl => ?_)
      refine lv_aload_n F.hx F.hb d_Trail_follow_65 rfl (lv_at hl 3 rfl) ?_
      refine lv_aload_n F.hx F.hb d_Trail_follow_66 rfl (lv_at hl 2 rfl) ?_
      refine lv_iload F.hx F.hb d_Trail_follow_67 (lv_at hl 4 rfl) ?_
      obtain ⟨q9, hq9⟩ : ∃ q, q = (t_Scene_nextOf M8 k2 k1 v4_) := ⟨_, rfl⟩
      replace hT := qlet_eq hT hq9
      refine r_backI F hS (r_runV (k := k2) (N := 7) (T := T9) (As := [.ref (b + k1), vI v4_]) F hS (Scene_lt hk2) (Scene_sh hk2) rfl (c_Scene_nextOf l F.2.2.1 M8 k2 k1 v4_ hk2 hk1 hv4_ _ hq9.symm) gs_Trail_32 hd_Scene_nextOf ⟨Nat.le_of_ble_eq_true rfl, Nat.le_of_ble_eq_true rfl⟩ rfl hl.1 (Nat.le_of_ble_eq_true rfl) ⟨Nat.zero_le _, Nat.zero_le _⟩ rfl d_Trail_follow_69) (fun H locs hS h10 => ?_)
      refine lv_istore (lv' := [(8, vI q9), (4, .long (v3_ ||| (q_lshl 1 v4_))), (0, .ref (b + k0)), (1, .ref (b + k1)), (2, .ref (b + k2)), (6, vI v4_), (7, vI v5_)]) F.hx F.hb d_Trail_follow_72 hl (Nat.le_of_ble_eq_true rfl) rfl (fun ls hl => ?_)
      refine lv_iload F.hx F.hb d_Trail_follow_74 (lv_at hl 0 rfl) ?_
      refine r_if_ge (tgt := 80) F.hx F.hb h10 d_Trail_follow_76 (by decide) (fun c11 => ?_) (fun c11 => ?_)
      · replace hT := (if_pos c11).symm.trans hT
        refine lv_aload_n F.hx F.hb d_Trail_follow_80 rfl (lv_at hl 3 rfl) ?_
        refine lv_iload F.hx F.hb d_Trail_follow_81 (lv_at hl 5 rfl) ?_
        refine lv_iload F.hx F.hb d_Trail_follow_83 (lv_at hl 0 rfl) ?_
        obtain ⟨q12, hq12⟩ : ∃ q, q = (t_Town_isLine M8 k1 v4_ q9) := ⟨_, rfl⟩
        replace hT := qlet_eq hT hq12
        refine r_backZ F hS (r_runV (k := k1) (N := 20) (T := T11) (As := [vI v4_, vI q9]) F hS (Town_lt hk1) (Town_sh hk1) rfl (c_Town_isLine l F.2.2.1 M8 k1 v4_ q9 hk1 hv4_ h10 _ hq12.symm) gs_Trail_38 hd_Town_isLine ⟨Nat.le_of_ble_eq_true rfl, Nat.le_of_ble_eq_true rfl⟩ rfl hl.1 (Nat.le_of_ble_eq_true rfl) ⟨Nat.zero_le _, Nat.zero_le _⟩ rfl d_Trail_follow_85) (fun H locs hS h13 => ?_)
        refine r_if_eq (tgt := 101) F.hx F.hb (inr_z h13) d_Trail_follow_88 (by decide) (fun c14 => ?_) (fun c14 => ?_)
        · replace hT := (if_pos c14).symm.trans hT
          exact k_Trail_follow_L101 l hlo k0 k1 k2 x3 hk0 hk1 hk2 hx3 F hlk hr (fun a0_ a1_ a2_ a3_ => t_Trail_follow_L24 k0 k1 k2 x3 fu a0_ a1_ a2_ a3_) ih M8 (v3_ ||| (q_lshl 1 v4_)) v5_ hv5_ q9 h10 _ _ _ hS (lv_sub hl [2, 3, 4, 1, 6, 0] rfl) hT
        · replace hT := (if_neg c14).symm.trans hT
          refine lv_aload_n F.hx F.hb d_Trail_follow_91 rfl (lv_at hl 2 rfl) ?_
          refine lv_dup F.hx F.hb d_Trail_follow_92 rfl ?_
          refine r_get (v := vI (M8.1 k0 4)) (N := 9) (T := T12) (j := 4) F hS (Trail_lt hk0) (Trail_sh hk0) (Trail_N hk0) rfl (Nat.le_of_ble_eq_true rfl) ing12 mw_408 (fv_int rfl) d_Trail_follow_93 ?_
          have i15 := hS.rng k0 4
          refine r_iconst F.hx F.hb d_Trail_follow_96 ?_
          refine r_iadd F.hx F.hb d_Trail_follow_97 ?_
          refine r_putI (N := 9) (T := T12) (j := 4) F hS (Trail_lt hk0) (Trail_sh hk0) (Trail_N hk0) rfl (Nat.le_of_ble_eq_true rfl) ing12 tyok12 nm12 rfl rfl rfl rfl rfl (Trail_dyn hk0 _) mw_408 (inr_w32 _) d_Trail_follow_98 (fun H locs hS => ?_)
          obtain ⟨M16, eM16⟩ : ∃ q, q = (setI M8 k0 4 (w32 ((M8.1 k0 4) + 1))) := ⟨_, rfl⟩
          replace hS : St b C n M16 s H locs := by rw [eM16]; exact hS
          replace hT := qlet_eq hT eM16
          exact k_Trail_follow_L101 l hlo k0 k1 k2 x3 hk0 hk1 hk2 hx3 F hlk hr (fun a0_ a1_ a2_ a3_ => t_Trail_follow_L24 k0 k1 k2 x3 fu a0_ a1_ a2_ a3_) ih M16 (v3_ ||| (q_lshl 1 v4_)) v5_ hv5_ q9 h10 _ _ _ hS (lv_sub hl [2, 3, 4, 1, 6, 0] rfl) hT
      · replace hT := (if_neg c11).symm.trans hT
        cases hT
        exact r_vret F hlk hr hS d_Trail_follow_79
set_option maxHeartbeats 4000000 in
set_option maxRecDepth 100000 in
theorem c_Trail_follow (l : Launch) {b n : Nat} {C : CT} (hlo : 191 ≤ n) (M : Mem) (k0 : Nat) (k1 : Nat) (k2 : Nat) (x3 : Int) (hk0 : isTrail k0) (hk1 : isTown k1) (hk2 : isScene k2) (hx3 : InR x3) (res : Mem) (hT : t_Trail_follow M k0 k1 k2 x3 = some res) : CM l b C n 3 y_Trail_follow b_Trail_follow 9 (none) [.ref (b + k0), .ref (b + k1), .ref (b + k2), vI x3] M (QV b C n res) := by
  refine CM.of (lo := 191) (ow := "WardFalls$Trail") (by decide) rfl (Nat.le_of_ble_eq_true rfl) hlo (fun p e s m below meth c F hlk hr hS ls hl => ?_)
  have hl : lv_has ls 9 [(0, .ref (b + k0)), (1, .ref (b + k1)), (2, .ref (b + k2)), (3, vI x3)] := hl
  unfold t_Trail_follow at hT
  refine lv_aload_n F.hx F.hb d_Trail_follow_0 rfl (lv_at hl 0 rfl) ?_
  refine r_iconst F.hx F.hb d_Trail_follow_1 ?_
  refine r_putI (N := 9) (T := T12) (j := 1) F hS (Trail_lt hk0) (Trail_sh hk0) (Trail_N hk0) rfl (Nat.le_of_ble_eq_true rfl) ing12 tyok12 nm12 rfl rfl rfl rfl rfl (Trail_dyn hk0 _) mw_403 (inr_c rfl) d_Trail_follow_2 (fun H locs hS => ?_)
  obtain ⟨M1, eM1⟩ : ∃ q, q = (setI M k0 1 0) := ⟨_, rfl⟩
  replace hS : St b C n M1 s H locs := by rw [eM1]; exact hS
  replace hT := qlet_eq hT eM1
  refine lv_aload_n F.hx F.hb d_Trail_follow_5 rfl (lv_at hl 0 rfl) ?_
  refine r_iconst F.hx F.hb d_Trail_follow_6 ?_
  refine r_putI (N := 9) (T := T12) (j := 3) F hS (Trail_lt hk0) (Trail_sh hk0) (Trail_N hk0) rfl (Nat.le_of_ble_eq_true rfl) ing12 tyok12 nm12 rfl rfl rfl rfl rfl (Trail_dyn hk0 _) mw_406 (inr_c rfl) d_Trail_follow_7 (fun H locs hS => ?_)
  obtain ⟨M2, eM2⟩ : ∃ q, q = (setI M1 k0 3 0) := ⟨_, rfl⟩
  replace hS : St b C n M2 s H locs := by rw [eM2]; exact hS
  replace hT := qlet_eq hT eM2
  refine lv_aload_n F.hx F.hb d_Trail_follow_10 rfl (lv_at hl 0 rfl) ?_
  refine r_iconst F.hx F.hb d_Trail_follow_11 ?_
  refine r_putI (N := 9) (T := T12) (j := 4) F hS (Trail_lt hk0) (Trail_sh hk0) (Trail_N hk0) rfl (Nat.le_of_ble_eq_true rfl) ing12 tyok12 nm12 rfl rfl rfl rfl rfl (Trail_dyn hk0 _) mw_408 (inr_c rfl) d_Trail_follow_12 (fun H locs hS => ?_)
  obtain ⟨M3, eM3⟩ : ∃ q, q = (setI M2 k0 4 0) := ⟨_, rfl⟩
  replace hS : St b C n M3 s H locs := by rw [eM3]; exact hS
  replace hT := qlet_eq hT eM3
  refine lv_lconst (v := 0) F.hx F.hb d_Trail_follow_15 rfl ?_
  refine lv_lstore (lv' := [(4, .long 0), (0, .ref (b + k0)), (1, .ref (b + k1)), (2, .ref (b + k2)), (3, vI x3)]) F.hx F.hb d_Trail_follow_16 hl (Nat.le_of_ble_eq_true rfl) rfl (fun ls hl => ?_)
  refine lv_iload_n F.hx F.hb d_Trail_follow_18 rfl (lv_at hl 4 rfl) ?_
  refine lv_istore (lv' := [(6, vI x3), (4, .long 0), (0, .ref (b + k0)), (1, .ref (b + k1)), (2, .ref (b + k2)), (3, vI x3)]) F.hx F.hb d_Trail_follow_19 hl (Nat.le_of_ble_eq_true rfl) rfl (fun ls hl => ?_)
  refine r_iconst F.hx F.hb d_Trail_follow_21 ?_
  refine lv_istore (lv' := [(7, vI 0), (6, vI x3), (4, .long 0), (0, .ref (b + k0)), (1, .ref (b + k1)), (2, .ref (b + k2)), (3, vI x3)]) F.hx F.hb d_Trail_follow_22 hl (Nat.le_of_ble_eq_true rfl) rfl (fun ls hl => ?_)
  exact k_Trail_follow_L24 l hlo k0 k1 k2 x3 hk0 hk1 hk2 hx3 F hlk hr FU M3 0 x3 hx3 0 (inr_c rfl) _ _ _ hS (lv_sub hl [3, 4, 5, 2, 1, 0] rfl) hT
theorem d_Trail_end_0 : decode b_Trail_end 0 = .ok (.aload_n 0, 1) := dc_42 (by decide +kernel)
theorem d_Trail_end_1 : decode b_Trail_end 1 = .ok (.getfield 19, 3) := dc_180 (by decide +kernel)
theorem d_Trail_end_4 : decode b_Trail_end 4 = .ok (.ifCond .le 8, 3) := dc_158 (by decide +kernel)
theorem d_Trail_end_7 : decode b_Trail_end 7 = .ok (.bipush (-2), 2) := dc_16 (by decide +kernel)
theorem d_Trail_end_9 : decode b_Trail_end 9 = .ok (.goto 16, 3) := dc_167 (by decide +kernel)
theorem d_Trail_end_12 : decode b_Trail_end 12 = .ok (.aload_n 0, 1) := dc_42 (by decide +kernel)
theorem d_Trail_end_13 : decode b_Trail_end 13 = .ok (.getfield 9, 3) := dc_180 (by decide +kernel)
theorem d_Trail_end_16 : decode b_Trail_end 16 = .ok (.aload_n 0, 1) := dc_42 (by decide +kernel)
theorem d_Trail_end_17 : decode b_Trail_end 17 = .ok (.getfield 15, 3) := dc_180 (by decide +kernel)
theorem d_Trail_end_20 : decode b_Trail_end 20 = .ok (.iconst 1, 1) := dc_4 (by decide +kernel)
theorem d_Trail_end_21 : decode b_Trail_end 21 = .ok (.isub, 1) := dc_100 (by decide +kernel)
theorem d_Trail_end_22 : decode b_Trail_end 22 = .ok (.invokestatic 52, 3) := dc_184 (by decide +kernel)
theorem d_Trail_end_25 : decode b_Trail_end 25 = .ok (.ireturn, 1) := dc_172 (by decide +kernel)
def t_Trail_end (M : Mem) (k0 : Nat) : Int := (if (M.1 k0 3) ≤ 0 then (qlet (t_WF_look M (k0 + 1) 48 (w32 ((M.1 k0 1) - 1))) fun q4 => q4) else (-2))
set_option maxHeartbeats 4000000 in
set_option maxRecDepth 100000 in
theorem c_Trail_end (l : Launch) {b n : Nat} {C : CT} (hlo : 191 ≤ n) (M : Mem) (k0 : Nat) (hk0 : isTrail k0) (res : Int) (hT : t_Trail_end M k0 = res) : CM l b C n 1 y_Trail_end b_Trail_end 1 (some .int) [.ref (b + k0)] M (QI b C n M res) := by
  refine CM.of (lo := 191) (ow := "WardFalls$Trail") (by decide) rfl (Nat.le_of_ble_eq_true rfl) hlo (fun p e s m below meth c F hlk hr hS ls hl => ?_)
  have hl : lv_has ls 1 [(0, .ref (b + k0))] := hl
  unfold t_Trail_end at hT
  refine lv_aload_n F.hx F.hb d_Trail_end_0 rfl (lv_at hl 0 rfl) ?_
  refine r_get (v := vI (M.1 k0 3)) (N := 9) (T := T12) (j := 3) F hS (Trail_lt hk0) (Trail_sh hk0) (Trail_N hk0) rfl (Nat.le_of_ble_eq_true rfl) ing12 mw_406 (fv_int rfl) d_Trail_end_1 ?_
  have i1 := hS.rng k0 3
  refine r_if_le (tgt := 12) F.hx F.hb i1 d_Trail_end_4 (by decide) (fun c2 => ?_) (fun c2 => ?_)
  · replace hT := (if_pos c2).symm.trans hT
    refine lv_aload_n F.hx F.hb d_Trail_end_12 rfl (lv_at hl 0 rfl) ?_
    refine r_get (v := .ref (b + (k0 + 1))) (N := 9) (T := T12) (j := 0) F hS (Trail_lt hk0) (Trail_sh hk0) (Trail_N hk0) rfl (Nat.le_of_ble_eq_true rfl) ing12 mw_402 (Trail_g0 hk0 _) d_Trail_end_13 ?_
    refine lv_aload_n F.hx F.hb d_Trail_end_16 rfl (lv_at hl 0 rfl) ?_
    refine r_get (v := vI (M.1 k0 1)) (N := 9) (T := T12) (j := 1) F hS (Trail_lt hk0) (Trail_sh hk0) (Trail_N hk0) rfl (Nat.le_of_ble_eq_true rfl) ing12 mw_403 (fv_int rfl) d_Trail_end_17 ?_
    have i3 := hS.rng k0 1
    refine r_iconst F.hx F.hb d_Trail_end_20 ?_
    refine r_isub F.hx F.hb d_Trail_end_21 ?_
    obtain ⟨q4, hq4⟩ : ∃ q, q = (t_WF_look M (k0 + 1) 48 (w32 ((M.1 k0 1) - 1))) := ⟨_, rfl⟩
    replace hT := qlet_eq hT hq4
    refine r_backI F hS (r_runSN (As := [.ref (b + (k0 + 1)), vI (w32 ((M.1 k0 1) - 1))]) F hS (c_WF_look l F.2.2.1 M (k0 + 1) 48 (w32 ((M.1 k0 1) - 1)) (Trail_f0 hk0) (inr_w32 _) _ hq4.symm) mw_519 mw_518 mw_1 gs_Trail_52 hd_WF_look ⟨Nat.le_of_ble_eq_true rfl, Nat.le_of_ble_eq_true rfl⟩ rfl hl.1 (Nat.le_of_ble_eq_true rfl) ⟨Nat.zero_le _, Nat.zero_le _⟩ rfl d_Trail_end_22) (fun H locs hS h5 => ?_)
    subst hT
    exact r_iret F hlk hr rfl hS h5 d_Trail_end_25
  · replace hT := (if_neg c2).symm.trans hT
    refine r_bipush F.hx F.hb d_Trail_end_7 rfl ?_
    refine lv_goto (tgt := 25) F.hx F.hb d_Trail_end_9 (by decide) ?_
    subst hT
    exact r_iret F hlk hr rfl hS (inr_c rfl) d_Trail_end_25
end
