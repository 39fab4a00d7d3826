section
theorem wn_MO_layWalk_0 : ∀ i, i < 96 → bA b_MO_layWalk (0 + i) = wB [3, 61, 28, 16, 48, 162, 0, 27, 42, 180, 0, 112, 28, 28, 27, 160, 0, 7, 3, 167, 0, 6, 19, 1, 202, 79, 132, 2, 1, 167, 255, 229, 4, 61, 28, 153, 0, 96, 3, 61, 3, 62, 29, 42, 182, 1, 73, 162, 0, 81, 3, 54, 4, 21, 4, 7, 162, 0, 66, 42, 29, 21, 4, 182, 1, 82, 54, 5, 42, 29, 21, 5, 182, 1, 203, 153, 0, 41, 42, 180, 0, 112, 21, 5, 46, 4, 96, 42, 180, 0, 112, 29, 46, 161, 0, 6] i := wB_of (by decide +kernel)
theorem d_MO_layWalk_0 : decode b_MO_layWalk 0 = .ok (.iconst 0, 1) := dc_3 (q0_win (r := 0) wn_MO_layWalk_0 (by decide +kernel))
theorem d_MO_layWalk_1 : decode b_MO_layWalk 1 = .ok (.istore_n 2, 1) := dc_61 (q0_win (r := 1) wn_MO_layWalk_0 (by decide +kernel))
theorem d_MO_layWalk_2 : decode b_MO_layWalk 2 = .ok (.iload_n 2, 1) := dc_28 (q0_win (r := 2) wn_MO_layWalk_0 (by decide +kernel))
theorem d_MO_layWalk_3 : decode b_MO_layWalk 3 = .ok (.bipush 48, 2) := dc_16 (qS1_win (r := 3) wn_MO_layWalk_0 (by decide +kernel))
theorem d_MO_layWalk_5 : decode b_MO_layWalk 5 = .ok (.if_icmp .ge 27, 3) := dc_162 (qS2_win (r := 5) wn_MO_layWalk_0 (by decide +kernel))
theorem d_MO_layWalk_8 : decode b_MO_layWalk 8 = .ok (.aload_n 0, 1) := dc_42 (q0_win (r := 8) wn_MO_layWalk_0 (by decide +kernel))
theorem d_MO_layWalk_9 : decode b_MO_layWalk 9 = .ok (.getfield 112, 3) := dc_180 (qU2_win (r := 9) wn_MO_layWalk_0 (by decide +kernel))
theorem d_MO_layWalk_12 : decode b_MO_layWalk 12 = .ok (.iload_n 2, 1) := dc_28 (q0_win (r := 12) wn_MO_layWalk_0 (by decide +kernel))
theorem d_MO_layWalk_13 : decode b_MO_layWalk 13 = .ok (.iload_n 2, 1) := dc_28 (q0_win (r := 13) wn_MO_layWalk_0 (by decide +kernel))
theorem d_MO_layWalk_14 : decode b_MO_layWalk 14 = .ok (.iload_n 1, 1) := dc_27 (q0_win (r := 14) wn_MO_layWalk_0 (by decide +kernel))
theorem d_MO_layWalk_15 : decode b_MO_layWalk 15 = .ok (.if_icmp .ne 7, 3) := dc_160 (qS2_win (r := 15) wn_MO_layWalk_0 (by decide +kernel))
theorem d_MO_layWalk_18 : decode b_MO_layWalk 18 = .ok (.iconst 0, 1) := dc_3 (q0_win (r := 18) wn_MO_layWalk_0 (by decide +kernel))
theorem d_MO_layWalk_19 : decode b_MO_layWalk 19 = .ok (.goto 6, 3) := dc_167 (qS2_win (r := 19) wn_MO_layWalk_0 (by decide +kernel))
theorem d_MO_layWalk_22 : decode b_MO_layWalk 22 = .ok (.ldc_w 458, 3) := dc_19 (qU2_win (r := 22) wn_MO_layWalk_0 (by decide +kernel))
theorem d_MO_layWalk_25 : decode b_MO_layWalk 25 = .ok (.iastore, 1) := dc_79 (q0_win (r := 25) wn_MO_layWalk_0 (by decide +kernel))
theorem d_MO_layWalk_26 : decode b_MO_layWalk 26 = .ok (.iinc 2 1, 3) := dc_132 (qI_win (r := 26) wn_MO_layWalk_0 (by decide +kernel))
theorem d_MO_layWalk_29 : decode b_MO_layWalk 29 = .ok (.goto (-27), 3) := dc_167 (qS2_win (r := 29) wn_MO_layWalk_0 (by decide +kernel))
theorem d_MO_layWalk_32 : decode b_MO_layWalk 32 = .ok (.iconst 1, 1) := dc_4 (q0_win (r := 32) wn_MO_layWalk_0 (by decide +kernel))
theorem d_MO_layWalk_33 : decode b_MO_layWalk 33 = .ok (.istore_n 2, 1) := dc_61 (q0_win (r := 33) wn_MO_layWalk_0 (by decide +kernel))
theorem d_MO_layWalk_34 : decode b_MO_layWalk 34 = .ok (.iload_n 2, 1) := dc_28 (q0_win (r := 34) wn_MO_layWalk_0 (by decide +kernel))
theorem d_MO_layWalk_35 : decode b_MO_layWalk 35 = .ok (.ifCond .eq 96, 3) := dc_153 (qS2_win (r := 35) wn_MO_layWalk_0 (by decide +kernel))
theorem d_MO_layWalk_38 : decode b_MO_layWalk 38 = .ok (.iconst 0, 1) := dc_3 (q0_win (r := 38) wn_MO_layWalk_0 (by decide +kernel))
theorem d_MO_layWalk_39 : decode b_MO_layWalk 39 = .ok (.istore_n 2, 1) := dc_61 (q0_win (r := 39) wn_MO_layWalk_0 (by decide +kernel))
theorem d_MO_layWalk_40 : decode b_MO_layWalk 40 = .ok (.iconst 0, 1) := dc_3 (q0_win (r := 40) wn_MO_layWalk_0 (by decide +kernel))
theorem d_MO_layWalk_41 : decode b_MO_layWalk 41 = .ok (.istore_n 3, 1) := dc_62 (q0_win (r := 41) wn_MO_layWalk_0 (by decide +kernel))
theorem d_MO_layWalk_42 : decode b_MO_layWalk 42 = .ok (.iload_n 3, 1) := dc_29 (q0_win (r := 42) wn_MO_layWalk_0 (by decide +kernel))
theorem d_MO_layWalk_43 : decode b_MO_layWalk 43 = .ok (.aload_n 0, 1) := dc_42 (q0_win (r := 43) wn_MO_layWalk_0 (by decide +kernel))
theorem d_MO_layWalk_44 : decode b_MO_layWalk 44 = .ok (.invokevirtual 329, 3) := dc_182 (qU2_win (r := 44) wn_MO_layWalk_0 (by decide +kernel))
theorem d_MO_layWalk_47 : decode b_MO_layWalk 47 = .ok (.if_icmp .ge 81, 3) := dc_162 (qS2_win (r := 47) wn_MO_layWalk_0 (by decide +kernel))
theorem d_MO_layWalk_50 : decode b_MO_layWalk 50 = .ok (.iconst 0, 1) := dc_3 (q0_win (r := 50) wn_MO_layWalk_0 (by decide +kernel))
theorem d_MO_layWalk_51 : decode b_MO_layWalk 51 = .ok (.istore 4, 2) := dc_54 (qU1_win (r := 51) wn_MO_layWalk_0 (by decide +kernel))
theorem d_MO_layWalk_53 : decode b_MO_layWalk 53 = .ok (.iload 4, 2) := dc_21 (qU1_win (r := 53) wn_MO_layWalk_0 (by decide +kernel))
theorem d_MO_layWalk_55 : decode b_MO_layWalk 55 = .ok (.iconst 4, 1) := dc_7 (q0_win (r := 55) wn_MO_layWalk_0 (by decide +kernel))
theorem d_MO_layWalk_56 : decode b_MO_layWalk 56 = .ok (.if_icmp .ge 66, 3) := dc_162 (qS2_win (r := 56) wn_MO_layWalk_0 (by decide +kernel))
theorem d_MO_layWalk_59 : decode b_MO_layWalk 59 = .ok (.aload_n 0, 1) := dc_42 (q0_win (r := 59) wn_MO_layWalk_0 (by decide +kernel))
theorem d_MO_layWalk_60 : decode b_MO_layWalk 60 = .ok (.iload_n 3, 1) := dc_29 (q0_win (r := 60) wn_MO_layWalk_0 (by decide +kernel))
theorem d_MO_layWalk_61 : decode b_MO_layWalk 61 = .ok (.iload 4, 2) := dc_21 (qU1_win (r := 61) wn_MO_layWalk_0 (by decide +kernel))
theorem d_MO_layWalk_63 : decode b_MO_layWalk 63 = .ok (.invokevirtual 338, 3) := dc_182 (qU2_win (r := 63) wn_MO_layWalk_0 (by decide +kernel))
theorem d_MO_layWalk_66 : decode b_MO_layWalk 66 = .ok (.istore 5, 2) := dc_54 (qU1_win (r := 66) wn_MO_layWalk_0 (by decide +kernel))
theorem d_MO_layWalk_68 : decode b_MO_layWalk 68 = .ok (.aload_n 0, 1) := dc_42 (q0_win (r := 68) wn_MO_layWalk_0 (by decide +kernel))
theorem d_MO_layWalk_69 : decode b_MO_layWalk 69 = .ok (.iload_n 3, 1) := dc_29 (q0_win (r := 69) wn_MO_layWalk_0 (by decide +kernel))
theorem d_MO_layWalk_70 : decode b_MO_layWalk 70 = .ok (.iload 5, 2) := dc_21 (qU1_win (r := 70) wn_MO_layWalk_0 (by decide +kernel))
theorem d_MO_layWalk_72 : decode b_MO_layWalk 72 = .ok (.invokevirtual 459, 3) := dc_182 (qU2_win (r := 72) wn_MO_layWalk_0 (by decide +kernel))
theorem d_MO_layWalk_75 : decode b_MO_layWalk 75 = .ok (.ifCond .eq 41, 3) := dc_153 (qS2_win (r := 75) wn_MO_layWalk_0 (by decide +kernel))
theorem d_MO_layWalk_78 : decode b_MO_layWalk 78 = .ok (.aload_n 0, 1) := dc_42 (q0_win (r := 78) wn_MO_layWalk_0 (by decide +kernel))
theorem d_MO_layWalk_79 : decode b_MO_layWalk 79 = .ok (.getfield 112, 3) := dc_180 (qU2_win (r := 79) wn_MO_layWalk_0 (by decide +kernel))
theorem d_MO_layWalk_82 : decode b_MO_layWalk 82 = .ok (.iload 5, 2) := dc_21 (qU1_win (r := 82) wn_MO_layWalk_0 (by decide +kernel))
theorem d_MO_layWalk_84 : decode b_MO_layWalk 84 = .ok (.iaload, 1) := dc_46 (q0_win (r := 84) wn_MO_layWalk_0 (by decide +kernel))
theorem d_MO_layWalk_85 : decode b_MO_layWalk 85 = .ok (.iconst 1, 1) := dc_4 (q0_win (r := 85) wn_MO_layWalk_0 (by decide +kernel))
theorem d_MO_layWalk_86 : decode b_MO_layWalk 86 = .ok (.iadd, 1) := dc_96 (q0_win (r := 86) wn_MO_layWalk_0 (by decide +kernel))
theorem d_MO_layWalk_87 : decode b_MO_layWalk 87 = .ok (.aload_n 0, 1) := dc_42 (q0_win (r := 87) wn_MO_layWalk_0 (by decide +kernel))
theorem d_MO_layWalk_88 : decode b_MO_layWalk 88 = .ok (.getfield 112, 3) := dc_180 (qU2_win (r := 88) wn_MO_layWalk_0 (by decide +kernel))
theorem d_MO_layWalk_91 : decode b_MO_layWalk 91 = .ok (.iload_n 3, 1) := dc_29 (q0_win (r := 91) wn_MO_layWalk_0 (by decide +kernel))
theorem d_MO_layWalk_92 : decode b_MO_layWalk 92 = .ok (.iaload, 1) := dc_46 (q0_win (r := 92) wn_MO_layWalk_0 (by decide +kernel))
theorem d_MO_layWalk_93 : decode b_MO_layWalk 93 = .ok (.if_icmp .lt 6, 3) := dc_161 (qS2_win (r := 93) wn_MO_layWalk_0 (by decide +kernel))
theorem wn_MO_layWalk_96 : ∀ i, i < 36 → bA b_MO_layWalk (96 + i) = wB [167, 0, 20, 42, 180, 0, 112, 29, 42, 180, 0, 112, 21, 5, 46, 4, 96, 79, 4, 61, 132, 4, 1, 167, 255, 190, 132, 3, 1, 167, 255, 173, 167, 255, 162, 177] i := wB_of (by decide +kernel)
theorem d_MO_layWalk_96 : decode b_MO_layWalk 96 = .ok (.goto 20, 3) := dc_167 (qS2_win (r := 0) wn_MO_layWalk_96 (by decide +kernel))
theorem d_MO_layWalk_99 : decode b_MO_layWalk 99 = .ok (.aload_n 0, 1) := dc_42 (q0_win (r := 3) wn_MO_layWalk_96 (by decide +kernel))
theorem d_MO_layWalk_100 : decode b_MO_layWalk 100 = .ok (.getfield 112, 3) := dc_180 (qU2_win (r := 4) wn_MO_layWalk_96 (by decide +kernel))
theorem d_MO_layWalk_103 : decode b_MO_layWalk 103 = .ok (.iload_n 3, 1) := dc_29 (q0_win (r := 7) wn_MO_layWalk_96 (by decide +kernel))
theorem d_MO_layWalk_104 : decode b_MO_layWalk 104 = .ok (.aload_n 0, 1) := dc_42 (q0_win (r := 8) wn_MO_layWalk_96 (by decide +kernel))
theorem d_MO_layWalk_105 : decode b_MO_layWalk 105 = .ok (.getfield 112, 3) := dc_180 (qU2_win (r := 9) wn_MO_layWalk_96 (by decide +kernel))
theorem d_MO_layWalk_108 : decode b_MO_layWalk 108 = .ok (.iload 5, 2) := dc_21 (qU1_win (r := 12) wn_MO_layWalk_96 (by decide +kernel))
theorem d_MO_layWalk_110 : decode b_MO_layWalk 110 = .ok (.iaload, 1) := dc_46 (q0_win (r := 14) wn_MO_layWalk_96 (by decide +kernel))
theorem d_MO_layWalk_111 : decode b_MO_layWalk 111 = .ok (.iconst 1, 1) := dc_4 (q0_win (r := 15) wn_MO_layWalk_96 (by decide +kernel))
theorem d_MO_layWalk_112 : decode b_MO_layWalk 112 = .ok (.iadd, 1) := dc_96 (q0_win (r := 16) wn_MO_layWalk_96 (by decide +kernel))
theorem d_MO_layWalk_113 : decode b_MO_layWalk 113 = .ok (.iastore, 1) := dc_79 (q0_win (r := 17) wn_MO_layWalk_96 (by decide +kernel))
theorem d_MO_layWalk_114 : decode b_MO_layWalk 114 = .ok (.iconst 1, 1) := dc_4 (q0_win (r := 18) wn_MO_layWalk_96 (by decide +kernel))
theorem d_MO_layWalk_115 : decode b_MO_layWalk 115 = .ok (.istore_n 2, 1) := dc_61 (q0_win (r := 19) wn_MO_layWalk_96 (by decide +kernel))
theorem d_MO_layWalk_116 : decode b_MO_layWalk 116 = .ok (.iinc 4 1, 3) := dc_132 (qI_win (r := 20) wn_MO_layWalk_96 (by decide +kernel))
theorem d_MO_layWalk_119 : decode b_MO_layWalk 119 = .ok (.goto (-66), 3) := dc_167 (qS2_win (r := 23) wn_MO_layWalk_96 (by decide +kernel))
theorem d_MO_layWalk_122 : decode b_MO_layWalk 122 = .ok (.iinc 3 1, 3) := dc_132 (qI_win (r := 26) wn_MO_layWalk_96 (by decide +kernel))
theorem d_MO_layWalk_125 : decode b_MO_layWalk 125 = .ok (.goto (-83), 3) := dc_167 (qS2_win (r := 29) wn_MO_layWalk_96 (by decide +kernel))
theorem d_MO_layWalk_128 : decode b_MO_layWalk 128 = .ok (.goto (-94), 3) := dc_167 (qS2_win (r := 32) wn_MO_layWalk_96 (by decide +kernel))
theorem d_MO_layWalk_131 : decode b_MO_layWalk 131 = .ok (.return_, 1) := dc_177 (q0_win (r := 35) wn_MO_layWalk_96 (by decide +kernel))
def t_MO_layWalk_L25 (x1 : Int) (bk2 : Mem → Int → Option (Mem)) (M : Mem) (v2_ : Int) (v4_ : Int) (v5_ : Int) : Option (Mem) := (qguard (0 ≤ v4_ ∧ v4_ < 48) (qlet (setI M 222 v4_ v5_) fun M5 => (bk2 M5 (w32 (v2_ + 1)))))
def t_MO_layWalk_L116 (x1 : Int) (bk34 : Mem → Int → Option (Mem)) (bk42 : Mem → Int → Int → Option (Mem)) (bk53 : Mem → Int → Int → Int → Option (Mem)) (M : Mem) (v1_ : Int) (v2_ : Int) (v3_ : Int) : Option (Mem) := (bk53 M v1_ v2_ (w32 (v3_ + 1)))
def t_MO_layWalk_L53 (x1 : Int) (bk34 : Mem → Int → Option (Mem)) (bk42 : Mem → Int → Int → Option (Mem)) : Nat → Mem → Int → Int → Int → Option (Mem)
  | 0, _, _, _, _ => none
  | fu + 1, M, v1_, v2_, v3_ => (if 4 ≤ v3_ then (bk42 M v1_ (w32 (v2_ + 1))) else (obind (t_MO_beside M v2_ v3_) fun q10 => (obind (t_MO_canStep M v2_ q10) fun q12 => (if q12 = 0 then (t_MO_layWalk_L116 x1 bk34 bk42 (fun a0_ a1_ a2_ a3_ => t_MO_layWalk_L53 x1 bk34 bk42 fu a0_ a1_ a2_ a3_) M v1_ v2_ v3_) else (qguard (0 ≤ q10 ∧ q10 < 48) (qguard (0 ≤ v2_ ∧ v2_ < 48) (if (w32 ((M.1 222 q10) + 1)) < (M.1 222 v2_) then (qguard (0 ≤ q10 ∧ q10 < 48) (qguard (0 ≤ v2_ ∧ v2_ < 48) (qlet (setI M 222 v2_ (w32 ((M.1 222 q10) + 1))) fun M23 => (t_MO_layWalk_L116 x1 bk34 bk42 (fun a0_ a1_ a2_ a3_ => t_MO_layWalk_L53 x1 bk34 bk42 fu a0_ a1_ a2_ a3_) M23 1 v2_ v3_)))) else (t_MO_layWalk_L116 x1 bk34 bk42 (fun a0_ a1_ a2_ a3_ => t_MO_layWalk_L53 x1 bk34 bk42 fu a0_ a1_ a2_ a3_) M v1_ v2_ v3_))))))))
def t_MO_layWalk_L42 (x1 : Int) (bk34 : Mem → Int → Option (Mem)) : Nat → Mem → Int → Int → Option (Mem)
  | 0, _, _, _ => none
  | fu + 1, M, v1_, v2_ => (qlet (t_MO_cells M) fun q6 => (if q6 ≤ v2_ then (bk34 M v1_) else (t_MO_layWalk_L53 x1 bk34 (fun a0_ a1_ a2_ => t_MO_layWalk_L42 x1 bk34 fu a0_ a1_ a2_) FU M v1_ v2_ 0)))
def t_MO_layWalk_L34 (x1 : Int)  : Nat → Mem → Int → Option (Mem)
  | 0, _, _ => none
  | fu + 1, M, v1_ => (if v1_ = 0 then (some M) else (t_MO_layWalk_L42 x1 (fun a0_ a1_ => t_MO_layWalk_L34 x1 fu a0_ a1_) FU M 0 0))
def t_MO_layWalk_L2 (x1 : Int)  : Nat → Mem → Int → Option (Mem)
  | 0, _, _ => none
  | fu + 1, M, v2_ => (if 48 ≤ v2_ then (t_MO_layWalk_L34 x1 FU M 1) else (if v2_ = x1 then (t_MO_layWalk_L25 x1 (fun a0_ a1_ => t_MO_layWalk_L2 x1 fu a0_ a1_) M v2_ v2_ 0) else (t_MO_layWalk_L25 x1 (fun a0_ a1_ => t_MO_layWalk_L2 x1 fu a0_ a1_) M v2_ v2_ 1000000)))
def t_MO_layWalk (M : Mem) (x1 : Int) : Option (Mem) := (t_MO_layWalk_L2 x1 FU M 0)
set_option maxHeartbeats 4000000 in
set_option maxRecDepth 100000 in
theorem k_MO_layWalk_L25 (l : Launch) {p : Program} {e : Env} {s : State} {m : MethodId} {below : List Frame} {meth : Method} {c : Code} {b n : Nat} {C : CT} (hlo : 231 ≤ n) (x1 : Int) (hx1 : InR x1) (F : Cx b p m c b_MO_layWalk 6 s ([.ref (b + 191), vI x1] : List Value).toArray "WardFallsModel" C n 231) (hlk : meth.locks = false) (hr : meth.sig.returnType = none) {res : Mem} (bk2 : Mem → Int → Option (Mem)) (hbk2 : ∀ (M : Mem) (v2_ : Int) (hv2_ : InR v2_) (H : Heap) (locs : List Loc) (ls : Array Slot), St b C n M s H locs → lv_has ls 6 [(0, .ref (b + 191)), (1, vI x1), (2, vI v2_)] → bk2 M v2_ = some res → W p l e (headSpec (wsM y_MO_layWalk b_MO_layWalk 6 (none)) (rmD 3)).room s m ([.ref (b + 191), vI x1] : List Value).toArray below meth c H locs 0 0 (MQ below (QV b C n res) ([.ref (b + 191), vI x1] : List Value).toArray s 0 0 (frb b)) (F0 m 2 ls [])) (M : Mem) (v2_ : Int) (hv2_ : InR v2_) (v4_ : Int) (hv4_ : InR v4_) (v5_ : Int) (hv5_ : InR v5_) (H : Heap) (locs : List Loc) (ls : Array Slot) (hS : St b C n M s H locs) (hl : lv_has ls 6 [(0, .ref (b + 191)), (1, vI x1), (2, vI v2_)]) (hT : t_MO_layWalk_L25 x1 bk2 M v2_ v4_ v5_ = some res) : W p l e (headSpec (wsM y_MO_layWalk b_MO_layWalk 6 (none)) (rmD 3)).room s m ([.ref (b + 191), vI x1] : List Value).toArray below meth c H locs 0 0 (MQ below (QV b C n res) ([.ref (b + 191), vI x1] : List Value).toArray s 0 0 (frb b)) (F0 m 25 ls [vI v5_, vI v4_, .ref (b + 222)]) := by
  unfold t_MO_layWalk_L25 at hT
  obtain ⟨⟨g4a, g4b⟩, hT⟩ := q_guard hT
  refine r_iast F hS (show 222 < 231 by decide) (show shK 222 = 0 from rfl) (show shN 222 = 48 from rfl) hv4_ hv5_ g4a g4b d_MO_layWalk_25 (fun H locs hS => ?_)
  obtain ⟨M5, eM5⟩ : ∃ q, q = (setI M 222 v4_ v5_) := ⟨_, rfl⟩
  replace hS : St b C n M5 s H locs := by rw [eM5]; exact hS
  replace hT := qlet_eq hT eM5
  refine lv_iinc (v := Int32.ofInt (w32 (v2_ + 1))) (lv' := [(2, vI (w32 (v2_ + 1))), (0, .ref (b + 191)), (1, vI x1)]) F.hx F.hb d_MO_layWalk_26 hl (k := 2) rfl (q_of_add _ _) (Nat.le_of_ble_eq_true rfl) rfl (fun ls hl => ?_)
  refine lv_goto (tgt := 2) F.hx F.hb d_MO_layWalk_29 (by decide) ?_
  exact hbk2 M5 (w32 (v2_ + 1)) (inr_w32 _) _ _ _ hS (lv_sub hl [1, 2, 0] rfl) hT
set_option maxHeartbeats 4000000 in
set_option maxRecDepth 100000 in
theorem k_MO_layWalk_L116 (l : Launch) {p : Program} {e : Env} {s : State} {m : MethodId} {below : List Frame} {meth : Method} {c : Code} {b n : Nat} {C : CT} (hlo : 231 ≤ n) (x1 : Int) (hx1 : InR x1) (F : Cx b p m c b_MO_layWalk 6 s ([.ref (b + 191), vI x1] : List Value).toArray "WardFallsModel" C n 231) (hlk : meth.locks = false) (hr : meth.sig.returnType = none) {res : Mem} (bk34 : Mem → Int → Option (Mem)) (hbk34 : ∀ (M : Mem) (v1_ : Int) (hv1_ : v1_ = 0 ∨ v1_ = 1) (H : Heap) (locs : List Loc) (ls : Array Slot), St b C n M s H locs → lv_has ls 6 [(0, .ref (b + 191)), (2, vI v1_)] → bk34 M v1_ = some res → W p l e (headSpec (wsM y_MO_layWalk b_MO_layWalk 6 (none)) (rmD 3)).room s m ([.ref (b + 191), vI x1] : List Value).toArray below meth c H locs 0 0 (MQ below (QV b C n res) ([.ref (b + 191), vI x1] : List Value).toArray s 0 0 (frb b)) (F0 m 34 ls [])) (bk42 : Mem → Int → Int → Option (Mem)) (hbk42 : ∀ (M : Mem) (v1_ : Int) (hv1_ : v1_ = 0 ∨ v1_ = 1) (v2_ : Int) (hv2_ : InR v2_) (H : Heap) (locs : List Loc) (ls : Array Slot), St b C n M s H locs → lv_has ls 6 [(0, .ref (b + 191)), (2, vI v1_), (3, vI v2_)] → bk42 M v1_ v2_ = some res → W p l e (headSpec (wsM y_MO_layWalk b_MO_layWalk 6 (none)) (rmD 3)).room s m ([.ref (b + 191), vI x1] : List Value).toArray below meth c H locs 0 0 (MQ below (QV b C n res) ([.ref (b + 191), vI x1] : List Value).toArray s 0 0 (frb b)) (F0 m 42 ls [])) (bk53 : Mem → Int → Int → Int → Option (Mem)) (hbk53 : ∀ (M : Mem) (v1_ : Int) (hv1_ : v1_ = 0 ∨ v1_ = 1) (v2_ : Int) (hv2_ : InR v2_) (v3_ : Int) (hv3_ : InR v3_) (H : Heap) (locs : List Loc) (ls : Array Slot), St b C n M s H locs → lv_has ls 6 [(0, .ref (b + 191)), (2, vI v1_), (3, vI v2_), (4, vI v3_)] → bk53 M v1_ v2_ v3_ = some res → W p l e (headSpec (wsM y_MO_layWalk b_MO_layWalk 6 (none)) (rmD 3)).room s m ([.ref (b + 191), vI x1] : List Value).toArray below meth c H locs 0 0 (MQ below (QV b C n res) ([.ref (b + 191), vI x1] : List Value).toArray s 0 0 (frb b)) (F0 m 53 ls [])) (M : Mem) (v1_ : Int) (hv1_ : v1_ = 0 ∨ v1_ = 1) (v2_ : Int) (hv2_ : InR v2_) (v3_ : Int) (hv3_ : InR v3_) (H : Heap) (locs : List Loc) (ls : Array Slot) (hS : St b C n M s H locs) (hl : lv_has ls 6 [(0, .ref (b + 191)), (2, vI v1_), (3, vI v2_), (4, vI v3_)]) (hT : t_MO_layWalk_L116 x1 bk34 bk42 bk53 M v1_ v2_ v3_ = some res) : W p l e (headSpec (wsM y_MO_layWalk b_MO_layWalk 6 (none)) (rmD 3)).room s m ([.ref (b + 191), vI x1] : List Value).toArray below meth c H locs 0 0 (MQ below (QV b C n res) ([.ref (b + 191), vI x1] : List Value).toArray s 0 0 (frb b)) (F0 m 116 ls []) := by
  unfold t_MO_layWalk_L116 at hT
  refine lv_iinc (v := Int32.ofInt (w32 (v3_ + 1))) (lv' := [(4, vI (w32 (v3_ + 1))), (0, .ref (b + 191)), (2, vI v1_), (3, vI v2_)]) F.hx F.hb d_MO_layWalk_116 hl (k := 3) rfl (q_of_add _ _) (Nat.le_of_ble_eq_true rfl) rfl (fun ls hl => ?_)
  refine lv_goto (tgt := 53) F.hx F.hb d_MO_layWalk_119 (by decide) ?_
  exact hbk53 M v1_ hv1_ v2_ hv2_ (w32 (v3_ + 1)) (inr_w32 _) _ _ _ hS (lv_sub hl [1, 2, 3, 0] rfl) hT
set_option maxHeartbeats 4000000 in
set_option maxRecDepth 100000 in
theorem k_MO_layWalk_L53 (l : Launch) {p : Program} {e : Env} {s : State} {m : MethodId} {below : List Frame} {meth : Method} {c : Code} {b n : Nat} {C : CT} (hlo : 231 ≤ n) (x1 : Int) (hx1 : InR x1) (F : Cx b p m c b_MO_layWalk 6 s ([.ref (b + 191), vI x1] : List Value).toArray "WardFallsModel" C n 231) (hlk : meth.locks = false) (hr : meth.sig.returnType = none) {res : Mem} (bk34 : Mem → Int → Option (Mem)) (hbk34 : ∀ (M : Mem) (v1_ : Int) (hv1_ : v1_ = 0 ∨ v1_ = 1) (H : Heap) (locs : List Loc) (ls : Array Slot), St b C n M s H locs → lv_has ls 6 [(0, .ref (b + 191)), (2, vI v1_)] → bk34 M v1_ = some res → W p l e (headSpec (wsM y_MO_layWalk b_MO_layWalk 6 (none)) (rmD 3)).room s m ([.ref (b + 191), vI x1] : List Value).toArray below meth c H locs 0 0 (MQ below (QV b C n res) ([.ref (b + 191), vI x1] : List Value).toArray s 0 0 (frb b)) (F0 m 34 ls [])) (bk42 : Mem → Int → Int → Option (Mem)) (hbk42 : ∀ (M : Mem) (v1_ : Int) (hv1_ : v1_ = 0 ∨ v1_ = 1) (v2_ : Int) (hv2_ : InR v2_) (H : Heap) (locs : List Loc) (ls : Array Slot), St b C n M s H locs → lv_has ls 6 [(0, .ref (b + 191)), (2, vI v1_), (3, vI v2_)] → bk42 M v1_ v2_ = some res → W p l e (headSpec (wsM y_MO_layWalk b_MO_layWalk 6 (none)) (rmD 3)).room s m ([.ref (b + 191), vI x1] : List Value).toArray below meth c H locs 0 0 (MQ below (QV b C n res) ([.ref (b + 191), vI x1] : List Value).toArray s 0 0 (frb b)) (F0 m 42 ls [])) : ∀ (fu : Nat) (M : Mem) (v1_ : Int) (hv1_ : v1_ = 0 ∨ v1_ = 1) (v2_ : Int) (hv2_ : InR v2_) (v3_ : Int) (hv3_ : InR v3_) (H : Heap) (locs : List Loc) (ls : Array Slot), St b C n M s H locs → lv_has ls 6 [(0, .ref (b + 191)), (2, vI v1_), (3, vI v2_), (4, vI v3_)] → t_MO_layWalk_L53 x1 bk34 bk42 fu M v1_ v2_ v3_ = some res → W p l e (headSpec (wsM y_MO_layWalk b_MO_layWalk 6 (none)) (rmD 3)).room s m ([.ref (b + 191), vI x1] : List Value).toArray below meth c H locs 0 0 (MQ below (QV b C n res) ([.ref (b + 191), vI x1] : List Value).toArray s 0 0 (frb b)) (F0 m 53 ls []) := by
  intro fu
  induction fu with
  | zero => intro M v1_ hv1_ v2_ hv2_ v3_ hv3_ H locs ls hS hl hT; exact absurd hT (by simp [t_MO_layWalk_L53])
  | succ fu ih =>
    intro M v1_ hv1_ v2_ hv2_ v3_ hv3_ H locs ls hS hl hT
    rw [t_MO_layWalk_L53] at hT
    refine lv_iload F.hx F.hb d_MO_layWalk_53 (lv_at hl 3 rfl) ?_
    refine r_iconst F.hx F.hb d_MO_layWalk_55 ?_
    refine r_icmp_ge (tgt := 122) F.hx F.hb hv3_ (inr_c rfl) d_MO_layWalk_56 (by decide) (fun c9 => ?_) (fun c9 => ?_)
    · replace hT := (if_pos c9).symm.trans hT
      refine lv_iinc (v := Int32.ofInt (w32 (v2_ + 1))) (lv' := [(3, vI (w32 (v2_ + 1))), (0, .ref (b + 191)), (2, vI v1_), (4, vI v3_)]) F.hx F.hb d_MO_layWalk_122 hl (k := 2) rfl (q_of_add _ _) (Nat.le_of_ble_eq_true rfl) rfl (fun ls hl => ?_)
      refine lv_goto (tgt := 42) F.hx F.hb d_MO_layWalk_125 (by decide) ?_
      exact hbk42 M v1_ hv1_ (w32 (v2_ + 1)) (inr_w32 _) _ _ _ hS (lv_sub hl [1, 2, 0] rfl) hT
    · replace hT := (if_neg c9).symm.trans hT
      refine lv_aload_n F.hx F.hb d_MO_layWalk_59 rfl (lv_at hl 0 rfl) ?_
      refine lv_iload_n F.hx F.hb d_MO_layWalk_60 rfl (lv_at hl 2 rfl) ?_
      refine lv_iload F.hx F.hb d_MO_layWalk_61 (lv_at hl 3 rfl) ?_
      obtain ⟨q10, hq10, hT⟩ := q_obind hT
      refine r_backI F hS (r_runV (k := 191) (N := 68) (T := T1) (As := [vI v2_, vI v3_]) F hS (show 191 < 231 by decide) (show shK 191 = 5 from rfl) rfl (c_MO_beside l F.2.2.1 M v2_ v3_ hv2_ hv3_ _ hq10) gs_MO_338 hd_MO_beside ⟨Nat.le_of_ble_eq_true rfl, Nat.le_of_ble_eq_true rfl⟩ rfl hl.1 (Nat.le_of_ble_eq_true rfl) ⟨Nat.zero_le _, Nat.zero_le _⟩ rfl d_MO_layWalk_63) (fun H locs hS h11 => ?_)
      refine lv_istore (lv' := [(5, vI q10), (0, .ref (b + 191)), (2, vI v1_), (3, vI v2_), (4, vI v3_)]) F.hx F.hb d_MO_layWalk_66 hl (Nat.le_of_ble_eq_true rfl) rfl (fun ls hl => ?_)
      refine lv_aload_n F.hx F.hb d_MO_layWalk_68 rfl (lv_at hl 1 rfl) ?_
      refine lv_iload_n F.hx F.hb d_MO_layWalk_69 rfl (lv_at hl 3 rfl) ?_
      refine lv_iload F.hx F.hb d_MO_layWalk_70 (lv_at hl 0 rfl) ?_
      obtain ⟨q12, hq12, hT⟩ := q_obind hT
      refine r_backZ F hS (r_runV (k := 191) (N := 68) (T := T1) (As := [vI v2_, vI q10]) F hS (show 191 < 231 by decide) (show shK 191 = 5 from rfl) rfl (c_MO_canStep l F.2.2.1 M v2_ q10 hv2_ h11 _ hq12) gs_MO_459 hd_MO_canStep ⟨Nat.le_of_ble_eq_true rfl, Nat.le_of_ble_eq_true rfl⟩ rfl hl.1 (Nat.le_of_ble_eq_true rfl) ⟨Nat.zero_le _, Nat.zero_le _⟩ rfl d_MO_layWalk_72) (fun H locs hS h13 => ?_)
      refine r_if_eq (tgt := 116) F.hx F.hb (inr_z h13) d_MO_layWalk_75 (by decide) (fun c14 => ?_) (fun c14 => ?_)
      · replace hT := (if_pos c14).symm.trans hT
        exact k_MO_layWalk_L116 l hlo x1 hx1 F hlk hr bk34 hbk34 bk42 hbk42 (fun a0_ a1_ a2_ a3_ => t_MO_layWalk_L53 x1 bk34 bk42 fu a0_ a1_ a2_ a3_) ih M v1_ hv1_ v2_ hv2_ v3_ hv3_ _ _ _ hS (lv_sub hl [1, 2, 3, 4] rfl) hT
      · replace hT := (if_neg c14).symm.trans hT
        refine lv_aload_n F.hx F.hb d_MO_layWalk_78 rfl (lv_at hl 1 rfl) ?_
        refine r_get (v := .ref (b + 222)) (N := 68) (T := T1) (j := 55) F hS (show 191 < 231 by decide) (show shK 191 = 5 from rfl) (show shN 191 = 68 from rfl) rfl (Nat.le_of_ble_eq_true rfl) ing1 mw_1444 (fv_sg rfl rfl rfl) d_MO_layWalk_79 ?_
        refine lv_iload F.hx F.hb d_MO_layWalk_82 (lv_at hl 0 rfl) ?_
        obtain ⟨⟨g15a, g15b⟩, hT⟩ := q_guard hT
        refine r_iald F hS (show 222 < 231 by decide) (show shK 222 = 0 from rfl) (show shN 222 = 48 from rfl) h11 g15a g15b d_MO_layWalk_84 ?_
        have i16 := hS.rng 222 q10
        refine r_iconst F.hx F.hb d_MO_layWalk_85 ?_
        refine r_iadd F.hx F.hb d_MO_layWalk_86 ?_
        refine lv_aload_n F.hx F.hb d_MO_layWalk_87 rfl (lv_at hl 1 rfl) ?_
        refine r_get (v := .ref (b + 222)) (N := 68) (T := T1) (j := 55) F hS (show 191 < 231 by decide) (show shK 191 = 5 from rfl) (show shN 191 = 68 from rfl) rfl (Nat.le_of_ble_eq_true rfl) ing1 mw_1444 (fv_sg rfl rfl rfl) d_MO_layWalk_88 ?_
        refine lv_iload_n F.hx F.hb d_MO_layWalk_91 rfl (lv_at hl 3 rfl) ?_
        obtain ⟨⟨g17a, g17b⟩, hT⟩ := q_guard hT
        refine r_iald F hS (show 222 < 231 by decide) (show shK 222 = 0 from rfl) (show shN 222 = 48 from rfl) hv2_ g17a g17b d_MO_layWalk_92 ?_
        have i18 := hS.rng 222 v2_
        refine r_icmp_lt (tgt := 99) F.hx F.hb (inr_w32 _) i18 d_MO_layWalk_93 (by decide) (fun c19 => ?_) (fun c19 => ?_)
        · replace hT := (if_pos c19).symm.trans hT
          refine lv_aload_n F.hx F.hb d_MO_layWalk_99 rfl (lv_at hl 1 rfl) ?_
          refine r_get (v := .ref (b + 222)) (N := 68) (T := T1) (j := 55) F hS (show 191 < 231 by decide) (show shK 191 = 5 from rfl) (show shN 191 = 68 from rfl) rfl (Nat.le_of_ble_eq_true rfl) ing1 mw_1444 (fv_sg rfl rfl rfl) d_MO_layWalk_100 ?_
          refine lv_iload_n F.hx F.hb d_MO_layWalk_103 rfl (lv_at hl 3 rfl) ?_
          refine lv_aload_n F.hx F.hb d_MO_layWalk_104 rfl (lv_at hl 1 rfl) ?_
          refine r_get (v := .ref (b + 222)) (N := 68) (T := T1) (j := 55) F hS (show 191 < 231 by decide) (show shK 191 = 5 from rfl) (show shN 191 = 68 from rfl) rfl (Nat.le_of_ble_eq_true rfl) ing1 mw_1444 (fv_sg rfl rfl rfl) d_MO_layWalk_105 ?_
          refine lv_iload F.hx F.hb d_MO_layWalk_108 (lv_at hl 0 rfl) ?_
          obtain ⟨⟨g20a, g20b⟩, hT⟩ := q_guard hT
          refine r_iald F hS (show 222 < 231 by decide) (show shK 222 = 0 from rfl) (show shN 222 = 48 from rfl) h11 g20a g20b d_MO_layWalk_110 ?_
          have i21 := hS.rng 222 q10
          refine r_iconst F.hx F.hb d_MO_layWalk_111 ?_
          refine r_iadd F.hx F.hb d_MO_layWalk_112 ?_
          obtain ⟨⟨g22a, g22b⟩, hT⟩ := q_guard hT
          refine r_iast F hS (show 222 < 231 by decide) (show shK 222 = 0 from rfl) (show shN 222 = 48 from rfl) hv2_ (inr_w32 _) g22a g22b d_MO_layWalk_113 (fun H locs hS => ?_)
          obtain ⟨M23, eM23⟩ : ∃ q, q = (setI M 222 v2_ (w32 ((M.1 222 q10) + 1))) := ⟨_, rfl⟩
          replace hS : St b C n M23 s H locs := by rw [eM23]; exact hS
          replace hT := qlet_eq hT eM23
          refine r_iconst F.hx F.hb d_MO_layWalk_114 ?_
          refine lv_istore_n (lv' := [(2, vI 1), (5, vI q10), (0, .ref (b + 191)), (3, vI v2_), (4, vI v3_)]) F.hx F.hb d_MO_layWalk_115 rfl hl (Nat.le_of_ble_eq_true rfl) rfl (fun ls hl => ?_)
          exact k_MO_layWalk_L116 l hlo x1 hx1 F hlk hr bk34 hbk34 bk42 hbk42 (fun a0_ a1_ a2_ a3_ => t_MO_layWalk_L53 x1 bk34 bk42 fu a0_ a1_ a2_ a3_) ih M23 1 (Or.inr rfl) v2_ hv2_ v3_ hv3_ _ _ _ hS (lv_sub hl [2, 0, 3, 4] rfl) hT
        · replace hT := (if_neg c19).symm.trans hT
          refine lv_goto (tgt := 116) F.hx F.hb d_MO_layWalk_96 (by decide) ?_
          exact k_MO_layWalk_L116 l hlo x1 hx1 F hlk hr bk34 hbk34 bk42 hbk42 (fun a0_ a1_ a2_ a3_ => t_MO_layWalk_L53 x1 bk34 bk42 fu a0_ a1_ a2_ a3_) ih M v1_ hv1_ v2_ hv2_ v3_ hv3_ _ _ _ hS (lv_sub hl [1, 2, 3, 4] rfl) hT
set_option maxHeartbeats 4000000 in
set_option maxRecDepth 100000 in
theorem k_MO_layWalk_L42 (l : Launch) {p : Program} {e : Env} {s : State} {m : MethodId} {below : List Frame} {meth : Method} {c : Code} {b n : Nat} {C : CT} (hlo : 231 ≤ n) (x1 : Int) (hx1 : InR x1) (F : Cx b p m c b_MO_layWalk 6 s ([.ref (b + 191), vI x1] : List Value).toArray "WardFallsModel" C n 231) (hlk : meth.locks = false) (hr : meth.sig.returnType = none) {res : Mem} (bk34 : Mem → Int → Option (Mem)) (hbk34 : ∀ (M : Mem) (v1_ : Int) (hv1_ : v1_ = 0 ∨ v1_ = 1) (H : Heap) (locs : List Loc) (ls : Array Slot), St b C n M s H locs → lv_has ls 6 [(0, .ref (b + 191)), (2, vI v1_)] → bk34 M v1_ = some res → W p l e (headSpec (wsM y_MO_layWalk b_MO_layWalk 6 (none)) (rmD 3)).room s m ([.ref (b + 191), vI x1] : List Value).toArray below meth c H locs 0 0 (MQ below (QV b C n res) ([.ref (b + 191), vI x1] : List Value).toArray s 0 0 (frb b)) (F0 m 34 ls [])) : ∀ (fu : Nat) (M : Mem) (v1_ : Int) (hv1_ : v1_ = 0 ∨ v1_ = 1) (v2_ : Int) (hv2_ : InR v2_) (H : Heap) (locs : List Loc) (ls : Array Slot), St b C n M s H locs → lv_has ls 6 [(0, .ref (b + 191)), (2, vI v1_), (3, vI v2_)] → t_MO_layWalk_L42 x1 bk34 fu M v1_ v2_ = some res → W p l e (headSpec (wsM y_MO_layWalk b_MO_layWalk 6 (none)) (rmD 3)).room s m ([.ref (b + 191), vI x1] : List Value).toArray below meth c H locs 0 0 (MQ below (QV b C n res) ([.ref (b + 191), vI x1] : List Value).toArray s 0 0 (frb b)) (F0 m 42 ls []) := by
  intro fu
  induction fu with
  | zero => intro M v1_ hv1_ v2_ hv2_ H locs ls hS hl hT; exact absurd hT (by simp [t_MO_layWalk_L42])
  | succ fu ih =>
    intro M v1_ hv1_ v2_ hv2_ H locs ls hS hl hT
    rw [t_MO_layWalk_L42] at hT
    refine lv_iload_n F.hx F.hb d_MO_layWalk_42 rfl (lv_at hl 2 rfl) ?_
    refine lv_aload_n F.hx F.hb d_MO_layWalk_43 rfl (lv_at hl 0 rfl) ?_
    obtain ⟨q6, hq6⟩ : ∃ q, q = (t_MO_cells M) := ⟨_, rfl⟩
    replace hT := qlet_eq hT hq6
    refine r_backI F hS (r_runV (k := 191) (N := 68) (T := T1) (As := []) F hS (show 191 < 231 by decide) (show shK 191 = 5 from rfl) rfl (c_MO_cells l F.2.2.1 M _ hq6.symm) gs_MO_329 hd_MO_cells ⟨Nat.le_of_ble_eq_true rfl, Nat.le_of_ble_eq_true rfl⟩ rfl hl.1 (Nat.le_of_ble_eq_true rfl) ⟨Nat.zero_le _, Nat.zero_le _⟩ rfl d_MO_layWalk_44) (fun H locs hS h7 => ?_)
    refine r_icmp_ge (tgt := 128) F.hx F.hb hv2_ h7 d_MO_layWalk_47 (by decide) (fun c8 => ?_) (fun c8 => ?_)
    · replace hT := (if_pos c8).symm.trans hT
      refine lv_goto (tgt := 34) F.hx F.hb d_MO_layWalk_128 (by decide) ?_
      exact hbk34 M v1_ hv1_ _ _ _ hS (lv_sub hl [0, 1] rfl) hT
    · replace hT := (if_neg c8).symm.trans hT
      refine r_iconst F.hx F.hb d_MO_layWalk_50 ?_
      refine lv_istore (lv' := [(4, vI 0), (0, .ref (b + 191)), (2, vI v1_), (3, vI v2_)]) F.hx F.hb d_MO_layWalk_51 hl (Nat.le_of_ble_eq_true rfl) rfl (fun ls hl => ?_)
      exact k_MO_layWalk_L53 l hlo x1 hx1 F hlk hr bk34 hbk34 (fun a0_ a1_ a2_ => t_MO_layWalk_L42 x1 bk34 fu a0_ a1_ a2_) ih FU M v1_ hv1_ v2_ hv2_ 0 (inr_c rfl) _ _ _ hS (lv_sub hl [1, 2, 3, 0] rfl) hT
set_option maxHeartbeats 4000000 in
set_option maxRecDepth 100000 in
theorem k_MO_layWalk_L34 (l : Launch) {p : Program} {e : Env} {s : State} {m : MethodId} {below : List Frame} {meth : Method} {c : Code} {b n : Nat} {C : CT} (hlo : 231 ≤ n) (x1 : Int) (hx1 : InR x1) (F : Cx b p m c b_MO_layWalk 6 s ([.ref (b + 191), vI x1] : List Value).toArray "WardFallsModel" C n 231) (hlk : meth.locks = false) (hr : meth.sig.returnType = none) {res : Mem} : ∀ (fu : Nat) (M : Mem) (v1_ : Int) (hv1_ : v1_ = 0 ∨ v1_ = 1) (H : Heap) (locs : List Loc) (ls : Array Slot), St b C n M s H locs → lv_has ls 6 [(0, .ref (b + 191)), (2, vI v1_)] → t_MO_layWalk_L34 x1 fu M v1_ = some res → W p l e (headSpec (wsM y_MO_layWalk b_MO_layWalk 6 (none)) (rmD 3)).room s m ([.ref (b + 191), vI x1] : List Value).toArray below meth c H locs 0 0 (MQ below (QV b C n res) ([.ref (b + 191), vI x1] : List Value).toArray s 0 0 (frb b)) (F0 m 34 ls []) := by
  intro fu
  induction fu with
  | zero => intro M v1_ hv1_ H locs ls hS hl hT; exact absurd hT (by simp [t_MO_layWalk_L34])
  | succ fu ih =>
    intro M v1_ hv1_ H locs ls hS hl hT
    rw [t_MO_layWalk_L34] at hT
    refine lv_iload_n F.hx F.hb d_MO_layWalk_34 rfl (lv_at hl 1 rfl) ?_
    refine r_if_eq (tgt := 131) F.hx F.hb (inr_z hv1_) d_MO_layWalk_35 (by decide) (fun c3 => ?_) (fun c3 => ?_)
    · replace hT := (if_pos c3).symm.trans hT
      cases hT
      exact r_vret F hlk hr hS d_MO_layWalk_131
    · replace hT := (if_neg c3).symm.trans hT
      refine r_iconst F.hx F.hb d_MO_layWalk_38 ?_
      refine lv_istore_n (lv' := [(2, vI 0), (0, .ref (b + 191))]) F.hx F.hb d_MO_layWalk_39 rfl hl (Nat.le_of_ble_eq_true rfl) rfl (fun ls hl => ?_)
      refine r_iconst F.hx F.hb d_MO_layWalk_40 ?_
      refine lv_istore_n (lv' := [(3, vI 0), (2, vI 0), (0, .ref (b + 191))]) F.hx F.hb d_MO_layWalk_41 rfl hl (Nat.le_of_ble_eq_true rfl) rfl (fun ls hl => ?_)
      exact k_MO_layWalk_L42 l hlo x1 hx1 F hlk hr (fun a0_ a1_ => t_MO_layWalk_L34 x1 fu a0_ a1_) ih FU M 0 (Or.inl rfl) 0 (inr_c rfl) _ _ _ hS (lv_sub hl [2, 1, 0] rfl) hT
set_option maxHeartbeats 4000000 in
set_option maxRecDepth 100000 in
theorem k_MO_layWalk_L2 (l : Launch) {p : Program} {e : Env} {s : State} {m : MethodId} {below : List Frame} {meth : Method} {c : Code} {b n : Nat} {C : CT} (hlo : 231 ≤ n) (x1 : Int) (hx1 : InR x1) (F : Cx b p m c b_MO_layWalk 6 s ([.ref (b + 191), vI x1] : List Value).toArray "WardFallsModel" C n 231) (hlk : meth.locks = false) (hr : meth.sig.returnType = none) {res : Mem} : ∀ (fu : Nat) (M : Mem) (v2_ : Int) (hv2_ : InR v2_) (H : Heap) (locs : List Loc) (ls : Array Slot), St b C n M s H locs → lv_has ls 6 [(0, .ref (b + 191)), (1, vI x1), (2, vI v2_)] → t_MO_layWalk_L2 x1 fu M v2_ = some res → W p l e (headSpec (wsM y_MO_layWalk b_MO_layWalk 6 (none)) (rmD 3)).room s m ([.ref (b + 191), vI x1] : List Value).toArray below meth c H locs 0 0 (MQ below (QV b C n res) ([.ref (b + 191), vI x1] : List Value).toArray s 0 0 (frb b)) (F0 m 2 ls []) := by
  intro fu
  induction fu with
  | zero => intro M v2_ hv2_ H locs ls hS hl hT; exact absurd hT (by simp [t_MO_layWalk_L2])
  | succ fu ih =>
    intro M v2_ hv2_ H locs ls hS hl hT
    rw [t_MO_layWalk_L2] at hT
    refine lv_iload_n F.hx F.hb d_MO_layWalk_2 rfl (lv_at hl 2 rfl) ?_
    refine r_bipush F.hx F.hb d_MO_layWalk_3 rfl ?_
    refine r_icmp_ge (tgt := 32) F.hx F.hb hv2_ (inr_c rfl) d_MO_layWalk_5 (by decide) (fun c1 => ?_) (fun c1 => ?_)
    · replace hT := (if_pos c1).symm.trans hT
      refine r_iconst F.hx F.hb d_MO_layWalk_32 ?_
      refine lv_istore_n (lv' := [(2, vI 1), (0, .ref (b + 191)), (1, vI x1)]) F.hx F.hb d_MO_layWalk_33 rfl hl (Nat.le_of_ble_eq_true rfl) rfl (fun ls hl => ?_)
      exact k_MO_layWalk_L34 l hlo x1 hx1 F hlk hr FU M 1 (Or.inr rfl) _ _ _ hS (lv_sub hl [1, 0] rfl) hT
    · replace hT := (if_neg c1).symm.trans hT
      refine lv_aload_n F.hx F.hb d_MO_layWalk_8 rfl (lv_at hl 0 rfl) ?_
      refine r_get (v := .ref (b + 222)) (N := 68) (T := T1) (j := 55) F hS (show 191 < 231 by decide) (show shK 191 = 5 from rfl) (show shN 191 = 68 from rfl) rfl (Nat.le_of_ble_eq_true rfl) ing1 mw_1444 (fv_sg rfl rfl rfl) d_MO_layWalk_9 ?_
      refine lv_iload_n F.hx F.hb d_MO_layWalk_12 rfl (lv_at hl 2 rfl) ?_
      refine lv_iload_n F.hx F.hb d_MO_layWalk_13 rfl (lv_at hl 2 rfl) ?_
      refine lv_iload_n F.hx F.hb d_MO_layWalk_14 rfl (lv_at hl 1 rfl) ?_
      refine r_icmp_ne (tgt := 22) F.hx F.hb hv2_ hx1 d_MO_layWalk_15 (by decide) (fun c2 => ?_) (fun c2 => ?_)
      · replace hT := (if_neg c2).symm.trans hT
        refine lv_ldcw (v := Int32.ofInt 1000000) F.hx F.hb F.hown (F.hts mw_1943) d_MO_layWalk_22 ?_
        exact k_MO_layWalk_L25 l hlo x1 hx1 F hlk hr (fun a0_ a1_ => t_MO_layWalk_L2 x1 fu a0_ a1_) ih M v2_ hv2_ v2_ hv2_ 1000000 (inr_c rfl) _ _ _ hS (lv_sub hl [0, 1, 2] rfl) hT
      · replace hT := (if_pos c2).symm.trans hT
        refine r_iconst F.hx F.hb d_MO_layWalk_18 ?_
        refine lv_goto (tgt := 25) F.hx F.hb d_MO_layWalk_19 (by decide) ?_
        exact k_MO_layWalk_L25 l hlo x1 hx1 F hlk hr (fun a0_ a1_ => t_MO_layWalk_L2 x1 fu a0_ a1_) ih M v2_ hv2_ v2_ hv2_ 0 (inr_c rfl) _ _ _ hS (lv_sub hl [0, 1, 2] rfl) hT
set_option maxHeartbeats 4000000 in
set_option maxRecDepth 100000 in
theorem c_MO_layWalk (l : Launch) {b n : Nat} {C : CT} (hlo : 231 ≤ n) (M : Mem) (x1 : Int) (hx1 : InR x1) (res : Mem) (hT : t_MO_layWalk M x1 = some res) : CM l b C n 3 y_MO_layWalk b_MO_layWalk 6 (none) [.ref (b + 191), vI x1] M (QV b C n res) := by
  refine CM.of (lo := 231) (ow := "WardFallsModel") (by decide) rfl (Nat.le_of_ble_eq_true rfl) hlo (fun p e s m below meth c F hlk hr hS ls hl => ?_)
  have hl : lv_has ls 6 [(0, .ref (b + 191)), (1, vI x1)] := hl
  unfold t_MO_layWalk at hT
  refine r_iconst F.hx F.hb d_MO_layWalk_0 ?_
  refine lv_istore_n (lv' := [(2, vI 0), (0, .ref (b + 191)), (1, vI x1)]) F.hx F.hb d_MO_layWalk_1 rfl hl (Nat.le_of_ble_eq_true rfl) rfl (fun ls hl => ?_)
  exact k_MO_layWalk_L2 l hlo x1 hx1 F hlk hr FU M 0 (inr_c rfl) _ _ _ hS (lv_sub hl [1, 2, 0] rfl) hT
theorem d_MO_isWalk_0 : decode b_MO_isWalk 0 = .ok (.aload_n 0, 1) := dc_42 (by decide +kernel)
theorem d_MO_isWalk_1 : decode b_MO_isWalk 1 = .ok (.iload_n 1, 1) := dc_27 (by decide +kernel)
theorem d_MO_isWalk_2 : decode b_MO_isWalk 2 = .ok (.invokevirtual 332, 3) := dc_182 (by decide +kernel)
theorem d_MO_isWalk_5 : decode b_MO_isWalk 5 = .ok (.ifCond .eq 31, 3) := dc_153 (by decide +kernel)
theorem d_MO_isWalk_8 : decode b_MO_isWalk 8 = .ok (.aload_n 0, 1) := dc_42 (by decide +kernel)
theorem d_MO_isWalk_9 : decode b_MO_isWalk 9 = .ok (.iload_n 2, 1) := dc_28 (by decide +kernel)
theorem d_MO_isWalk_10 : decode b_MO_isWalk 10 = .ok (.invokevirtual 332, 3) := dc_182 (by decide +kernel)
theorem d_MO_isWalk_13 : decode b_MO_isWalk 13 = .ok (.ifCond .eq 23, 3) := dc_153 (by decide +kernel)
theorem d_MO_isWalk_16 : decode b_MO_isWalk 16 = .ok (.aload_n 0, 1) := dc_42 (by decide +kernel)
theorem d_MO_isWalk_17 : decode b_MO_isWalk 17 = .ok (.iload_n 1, 1) := dc_27 (by decide +kernel)
theorem d_MO_isWalk_18 : decode b_MO_isWalk 18 = .ok (.invokevirtual 366, 3) := dc_182 (by decide +kernel)
theorem d_MO_isWalk_21 : decode b_MO_isWalk 21 = .ok (.ifCond .eq 15, 3) := dc_153 (by decide +kernel)
theorem d_MO_isWalk_24 : decode b_MO_isWalk 24 = .ok (.aload_n 0, 1) := dc_42 (by decide +kernel)
theorem d_MO_isWalk_25 : decode b_MO_isWalk 25 = .ok (.iload_n 2, 1) := dc_28 (by decide +kernel)
theorem d_MO_isWalk_26 : decode b_MO_isWalk 26 = .ok (.invokevirtual 366, 3) := dc_182 (by decide +kernel)
theorem d_MO_isWalk_29 : decode b_MO_isWalk 29 = .ok (.ifCond .eq 7, 3) := dc_153 (by decide +kernel)
theorem d_MO_isWalk_32 : decode b_MO_isWalk 32 = .ok (.iconst 1, 1) := dc_4 (by decide +kernel)
theorem d_MO_isWalk_33 : decode b_MO_isWalk 33 = .ok (.goto 4, 3) := dc_167 (by decide +kernel)
theorem d_MO_isWalk_36 : decode b_MO_isWalk 36 = .ok (.iconst 0, 1) := dc_3 (by decide +kernel)
theorem d_MO_isWalk_37 : decode b_MO_isWalk 37 = .ok (.ireturn, 1) := dc_172 (by decide +kernel)
def t_MO_isWalk (M : Mem) (x1 : Int) (x2 : Int) : Option (Int) := (qlet (t_MO_isCell M x1) fun q1 => (if q1 = 0 then (some 0) else (qlet (t_MO_isCell M x2) fun q4 => (if q4 = 0 then (some 0) else (obind (t_MO_stands M x1) fun q7 => (if q7 = 0 then (some 0) else (obind (t_MO_stands M x2) fun q10 => (if q10 = 0 then (some 0) else (some 1)))))))))
set_option maxHeartbeats 4000000 in
set_option maxRecDepth 100000 in
theorem c_MO_isWalk (l : Launch) {b n : Nat} {C : CT} (hlo : 231 ≤ n) (M : Mem) (x1 : Int) (x2 : Int) (hx1 : InR x1) (hx2 : InR x2) (res : Int) (hT : t_MO_isWalk M x1 x2 = some res) : CM l b C n 2 y_MO_isWalk b_MO_isWalk 3 (some .boolean) [.ref (b + 191), vI x1, vI x2] M (QZ b C n M res) := by
  refine CM.of (lo := 231) (ow := "WardFallsModel") (by decide) rfl (Nat.le_of_ble_eq_true rfl) hlo (fun p e s m below meth c F hlk hr hS ls hl => ?_)
  have hl : lv_has ls 3 [(0, .ref (b + 191)), (1, vI x1), (2, vI x2)] := hl
  unfold t_MO_isWalk at hT
  refine lv_aload_n F.hx F.hb d_MO_isWalk_0 rfl (lv_at hl 0 rfl) ?_
  refine lv_iload_n F.hx F.hb d_MO_isWalk_1 rfl (lv_at hl 1 rfl) ?_
  obtain ⟨q1, hq1⟩ : ∃ q, q = (t_MO_isCell M x1) := ⟨_, rfl⟩
  replace hT := qlet_eq hT hq1
  refine r_backZ F hS (r_runV (k := 191) (N := 68) (T := T1) (As := [vI x1]) F hS (show 191 < 231 by decide) (show shK 191 = 5 from rfl) rfl (c_MO_isCell l F.2.2.1 M x1 hx1 _ hq1.symm) gs_MO_332 hd_MO_isCell ⟨Nat.le_of_ble_eq_true rfl, Nat.le_of_ble_eq_true rfl⟩ rfl hl.1 (Nat.le_of_ble_eq_true rfl) ⟨Nat.zero_le _, Nat.zero_le _⟩ rfl d_MO_isWalk_2) (fun H locs hS h2 => ?_)
  refine r_if_eq (tgt := 36) F.hx F.hb (inr_z h2) d_MO_isWalk_5 (by decide) (fun c3 => ?_) (fun c3 => ?_)
  · replace hT := (if_pos c3).symm.trans hT
    refine r_iconst F.hx F.hb d_MO_isWalk_36 ?_
    cases hT
    exact r_zret F hlk hr hS (Or.inl rfl) d_MO_isWalk_37
  · replace hT := (if_neg c3).symm.trans hT
    refine lv_aload_n F.hx F.hb d_MO_isWalk_8 rfl (lv_at hl 0 rfl) ?_
    refine lv_iload_n F.hx F.hb d_MO_isWalk_9 rfl (lv_at hl 2 rfl) ?_
    obtain ⟨q4, hq4⟩ : ∃ q, q = (t_MO_isCell M x2) := ⟨_, rfl⟩
    replace hT := qlet_eq hT hq4
    refine r_backZ F hS (r_runV (k := 191) (N := 68) (T := T1) (As := [vI x2]) F hS (show 191 < 231 by decide) (show shK 191 = 5 from rfl) rfl (c_MO_isCell l F.2.2.1 M x2 hx2 _ hq4.symm) gs_MO_332 hd_MO_isCell ⟨Nat.le_of_ble_eq_true rfl, Nat.le_of_ble_eq_true rfl⟩ rfl hl.1 (Nat.le_of_ble_eq_true rfl) ⟨Nat.zero_le _, Nat.zero_le _⟩ rfl d_MO_isWalk_10) (fun H locs hS h5 => ?_)
    refine r_if_eq (tgt := 36) F.hx F.hb (inr_z h5) d_MO_isWalk_13 (by decide) (fun c6 => ?_) (fun c6 => ?_)
    · replace hT := (if_pos c6).symm.trans hT
      refine r_iconst F.hx F.hb d_MO_isWalk_36 ?_
      cases hT
      exact r_zret F hlk hr hS (Or.inl rfl) d_MO_isWalk_37
    · replace hT := (if_neg c6).symm.trans hT
      refine lv_aload_n F.hx F.hb d_MO_isWalk_16 rfl (lv_at hl 0 rfl) ?_
      refine lv_iload_n F.hx F.hb d_MO_isWalk_17 rfl (lv_at hl 1 rfl) ?_
      obtain ⟨q7, hq7, hT⟩ := q_obind hT
      refine r_backZ F hS (r_runV (k := 191) (N := 68) (T := T1) (As := [vI x1]) F hS (show 191 < 231 by decide) (show shK 191 = 5 from rfl) rfl (c_MO_stands l F.2.2.1 M x1 hx1 _ hq7) gs_MO_366 hd_MO_stands ⟨Nat.le_of_ble_eq_true rfl, Nat.le_of_ble_eq_true rfl⟩ rfl hl.1 (Nat.le_of_ble_eq_true rfl) ⟨Nat.zero_le _, Nat.zero_le _⟩ rfl d_MO_isWalk_18) (fun H locs hS h8 => ?_)
      refine r_if_eq (tgt := 36) F.hx F.hb (inr_z h8) d_MO_isWalk_21 (by decide) (fun c9 => ?_) (fun c9 => ?_)
      · replace hT := (if_pos c9).symm.trans hT
        refine r_iconst F.hx F.hb d_MO_isWalk_36 ?_
        cases hT
        exact r_zret F hlk hr hS (Or.inl rfl) d_MO_isWalk_37
      · replace hT := (if_neg c9).symm.trans hT
        refine lv_aload_n F.hx F.hb d_MO_isWalk_24 rfl (lv_at hl 0 rfl) ?_
        refine lv_iload_n F.hx F.hb d_MO_isWalk_25 rfl (lv_at hl 2 rfl) ?_
        obtain ⟨q10, hq10, hT⟩ := q_obind hT
        refine r_backZ F hS (r_runV (k := 191) (N := 68) (T := T1) (As := [vI x2]) F hS (show 191 < 231 by decide) (show shK 191 = 5 from rfl) rfl (c_MO_stands l F.2.2.1 M x2 hx2 _ hq10) gs_MO_366 hd_MO_stands ⟨Nat.le_of_ble_eq_true rfl, Nat.le_of_ble_eq_true rfl⟩ rfl hl.1 (Nat.le_of_ble_eq_true rfl) ⟨Nat.zero_le _, Nat.zero_le _⟩ rfl d_MO_isWalk_26) (fun H locs hS h11 => ?_)
        refine r_if_eq (tgt := 36) F.hx F.hb (inr_z h11) d_MO_isWalk_29 (by decide) (fun c12 => ?_) (fun c12 => ?_)
        · replace hT := (if_pos c12).symm.trans hT
          refine r_iconst F.hx F.hb d_MO_isWalk_36 ?_
          cases hT
          exact r_zret F hlk hr hS (Or.inl rfl) d_MO_isWalk_37
        · replace hT := (if_neg c12).symm.trans hT
          refine r_iconst F.hx F.hb d_MO_isWalk_32 ?_
          refine lv_goto (tgt := 37) F.hx F.hb d_MO_isWalk_33 (by decide) ?_
          cases hT
          exact r_zret F hlk hr hS (Or.inr rfl) d_MO_isWalk_37
theorem d_MO_walk_0 : decode b_MO_walk 0 = .ok (.aload_n 0, 1) := dc_42 (by decide +kernel)
theorem d_MO_walk_1 : decode b_MO_walk 1 = .ok (.iconst 0, 1) := dc_3 (by decide +kernel)
theorem d_MO_walk_2 : decode b_MO_walk 2 = .ok (.putfield 145, 3) := dc_181 (by decide +kernel)
theorem d_MO_walk_5 : decode b_MO_walk 5 = .ok (.aload_n 0, 1) := dc_42 (by decide +kernel)
theorem d_MO_walk_6 : decode b_MO_walk 6 = .ok (.iload_n 1, 1) := dc_27 (by decide +kernel)
theorem d_MO_walk_7 : decode b_MO_walk 7 = .ok (.iload_n 2, 1) := dc_28 (by decide +kernel)
theorem d_MO_walk_8 : decode b_MO_walk 8 = .ok (.invokevirtual 462, 3) := dc_182 (by decide +kernel)
theorem d_MO_walk_11 : decode b_MO_walk 11 = .ok (.ifCond .ne 5, 3) := dc_154 (by decide +kernel)
theorem d_MO_walk_14 : decode b_MO_walk 14 = .ok (.iconst (-1), 1) := dc_2 (by decide +kernel)
theorem d_MO_walk_15 : decode b_MO_walk 15 = .ok (.ireturn, 1) := dc_172 (by decide +kernel)
theorem d_MO_walk_16 : decode b_MO_walk 16 = .ok (.aload_n 0, 1) := dc_42 (by decide +kernel)
theorem d_MO_walk_17 : decode b_MO_walk 17 = .ok (.iload_n 2, 1) := dc_28 (by decide +kernel)
theorem d_MO_walk_18 : decode b_MO_walk 18 = .ok (.invokevirtual 465, 3) := dc_182 (by decide +kernel)
theorem d_MO_walk_21 : decode b_MO_walk 21 = .ok (.aload_n 0, 1) := dc_42 (by decide +kernel)
theorem d_MO_walk_22 : decode b_MO_walk 22 = .ok (.getfield 112, 3) := dc_180 (by decide +kernel)
theorem d_MO_walk_25 : decode b_MO_walk 25 = .ok (.iload_n 1, 1) := dc_27 (by decide +kernel)
theorem d_MO_walk_26 : decode b_MO_walk 26 = .ok (.iaload, 1) := dc_46 (by decide +kernel)
theorem d_MO_walk_27 : decode b_MO_walk 27 = .ok (.ldc_w 458, 3) := dc_19 (by decide +kernel)
theorem d_MO_walk_30 : decode b_MO_walk 30 = .ok (.if_icmp .lt 8, 3) := dc_161 (by decide +kernel)
theorem d_MO_walk_33 : decode b_MO_walk 33 = .ok (.bipush (-2), 2) := dc_16 (by decide +kernel)
theorem d_MO_walk_35 : decode b_MO_walk 35 = .ok (.goto 9, 3) := dc_167 (by decide +kernel)
theorem d_MO_walk_38 : decode b_MO_walk 38 = .ok (.aload_n 0, 1) := dc_42 (by decide +kernel)
theorem d_MO_walk_39 : decode b_MO_walk 39 = .ok (.getfield 112, 3) := dc_180 (by decide +kernel)
theorem d_MO_walk_42 : decode b_MO_walk 42 = .ok (.iload_n 1, 1) := dc_27 (by decide +kernel)
theorem d_MO_walk_43 : decode b_MO_walk 43 = .ok (.iaload, 1) := dc_46 (by decide +kernel)
theorem d_MO_walk_44 : decode b_MO_walk 44 = .ok (.ireturn, 1) := dc_172 (by decide +kernel)
def t_MO_walk (M : Mem) (x1 : Int) (x2 : Int) : Option (Mem × Int) := (qlet (setI M 191 0 0) fun M1 => (obind (t_MO_isWalk M1 x1 x2) fun q2 => (if q2 = 0 then (some (M1, (-1))) else (obind (t_MO_layWalk M1 x2) fun q5 => (qguard (0 ≤ x1 ∧ x1 < 48) (if (q5.1 222 x1) < 1000000 then (qguard (0 ≤ x1 ∧ x1 < 48) (some (q5, (q5.1 222 x1)))) else (some (q5, (-2)))))))))
set_option maxHeartbeats 4000000 in
set_option maxRecDepth 100000 in
theorem c_MO_walk (l : Launch) {b n : Nat} {C : CT} (hlo : 231 ≤ n) (M : Mem) (x1 : Int) (x2 : Int) (hx1 : InR x1) (hx2 : InR x2) (res : Mem × Int) (hT : t_MO_walk M x1 x2 = some res) : CM l b C n 4 y_MO_walk b_MO_walk 3 (some .int) [.ref (b + 191), vI x1, vI x2] M (QI b C n res.1 res.2) := by
  refine CM.of (lo := 231) (ow := "WardFallsModel") (by decide) rfl (Nat.le_of_ble_eq_true rfl) hlo (fun p e s m below meth c F hlk hr hS ls hl => ?_)
  have hl : lv_has ls 3 [(0, .ref (b + 191)), (1, vI x1), (2, vI x2)] := hl
  unfold t_MO_walk at hT
  refine lv_aload_n F.hx F.hb d_MO_walk_0 rfl (lv_at hl 0 rfl) ?_
  refine r_iconst F.hx F.hb d_MO_walk_1 ?_
  refine r_putI (N := 68) (T := T1) (j := 0) F hS (show 191 < 231 by decide) (show shK 191 = 5 from rfl) (show shN 191 = 68 from rfl) rfl (Nat.le_of_ble_eq_true rfl) ing1 tyok1 nm1 rfl rfl rfl rfl rfl rfl mw_1389 (inr_c rfl) d_MO_walk_2 (fun H locs hS => ?_)
  obtain ⟨M1, eM1⟩ : ∃ q, q = (setI M 191 0 0) := ⟨_, rfl⟩
  replace hS : St b C n M1 s H locs := by rw [eM1]; exact hS
  replace hT := qlet_eq hT eM1
  refine lv_aload_n F.hx F.hb d_MO_walk_5 rfl (lv_at hl 0 rfl) ?_
  refine lv_iload_n F.hx F.hb d_MO_walk_6 rfl (lv_at hl 1 rfl) ?_
  refine lv_iload_n F.hx F.hb d_MO_walk_7 rfl (lv_at hl 2 rfl) ?_
  obtain ⟨q2, hq2, hT⟩ := q_obind hT
  refine r_backZ F hS (r_runV (k := 191) (N := 68) (T := T1) (As := [vI x1, vI x2]) F hS (show 191 < 231 by decide) (show shK 191 = 5 from rfl) rfl (c_MO_isWalk l F.2.2.1 M1 x1 x2 hx1 hx2 _ hq2) gs_MO_462 hd_MO_isWalk ⟨Nat.le_of_ble_eq_true rfl, Nat.le_of_ble_eq_true rfl⟩ rfl hl.1 (Nat.le_of_ble_eq_true rfl) ⟨Nat.zero_le _, Nat.zero_le _⟩ rfl d_MO_walk_8) (fun H locs hS h3 => ?_)
  refine r_if_ne (tgt := 16) F.hx F.hb (inr_z h3) d_MO_walk_11 (by decide) (fun c4 => ?_) (fun c4 => ?_)
  · replace hT := (if_neg c4).symm.trans hT
    refine lv_aload_n F.hx F.hb d_MO_walk_16 rfl (lv_at hl 0 rfl) ?_
    refine lv_iload_n F.hx F.hb d_MO_walk_17 rfl (lv_at hl 2 rfl) ?_
    obtain ⟨q5, hq5, hT⟩ := q_obind hT
    refine r_backV F hS (r_runV (k := 191) (N := 68) (T := T1) (As := [vI x2]) F hS (show 191 < 231 by decide) (show shK 191 = 5 from rfl) rfl (c_MO_layWalk l F.2.2.1 M1 x2 hx2 _ hq5) gs_MO_465 hd_MO_layWalk ⟨Nat.le_of_ble_eq_true rfl, Nat.le_of_ble_eq_true rfl⟩ rfl hl.1 (Nat.le_of_ble_eq_true rfl) ⟨Nat.zero_le _, Nat.zero_le _⟩ rfl d_MO_walk_18) (fun H locs hS => ?_)
    refine lv_aload_n F.hx F.hb d_MO_walk_21 rfl (lv_at hl 0 rfl) ?_
    refine r_get (v := .ref (b + 222)) (N := 68) (T := T1) (j := 55) F hS (show 191 < 231 by decide) (show shK 191 = 5 from rfl) (show shN 191 = 68 from rfl) rfl (Nat.le_of_ble_eq_true rfl) ing1 mw_1444 (fv_sg rfl rfl rfl) d_MO_walk_22 ?_
    refine lv_iload_n F.hx F.hb d_MO_walk_25 rfl (lv_at hl 1 rfl) ?_
    obtain ⟨⟨g7a, g7b⟩, hT⟩ := q_guard hT
    refine r_iald F hS (show 222 < 231 by decide) (show shK 222 = 0 from rfl) (show shN 222 = 48 from rfl) hx1 g7a g7b d_MO_walk_26 ?_
    have i8 := hS.rng 222 x1
    refine lv_ldcw (v := Int32.ofInt 1000000) F.hx F.hb F.hown (F.hts mw_1943) d_MO_walk_27 ?_
    refine r_icmp_lt (tgt := 38) F.hx F.hb i8 (inr_c rfl) d_MO_walk_30 (by decide) (fun c9 => ?_) (fun c9 => ?_)
    · replace hT := (if_pos c9).symm.trans hT
      refine lv_aload_n F.hx F.hb d_MO_walk_38 rfl (lv_at hl 0 rfl) ?_
      refine r_get (v := .ref (b + 222)) (N := 68) (T := T1) (j := 55) F hS (show 191 < 231 by decide) (show shK 191 = 5 from rfl) (show shN 191 = 68 from rfl) rfl (Nat.le_of_ble_eq_true rfl) ing1 mw_1444 (fv_sg rfl rfl rfl) d_MO_walk_39 ?_
      refine lv_iload_n F.hx F.hb d_MO_walk_42 rfl (lv_at hl 1 rfl) ?_
      obtain ⟨⟨g10a, g10b⟩, hT⟩ := q_guard hT
      refine r_iald F hS (show 222 < 231 by decide) (show shK 222 = 0 from rfl) (show shN 222 = 48 from rfl) hx1 g10a g10b d_MO_walk_43 ?_
      have i11 := hS.rng 222 x1
      cases hT
      exact r_iret F hlk hr rfl hS i11 d_MO_walk_44
    · replace hT := (if_neg c9).symm.trans hT
      refine r_bipush F.hx F.hb d_MO_walk_33 rfl ?_
      refine lv_goto (tgt := 44) F.hx F.hb d_MO_walk_35 (by decide) ?_
      cases hT
      exact r_iret F hlk hr rfl hS (inr_c rfl) d_MO_walk_44
  · replace hT := (if_pos c4).symm.trans hT
    refine r_iconst F.hx F.hb d_MO_walk_14 ?_
    cases hT
    exact r_iret F hlk hr rfl hS (inr_c rfl) d_MO_walk_15
theorem wn_MO_step_0 : ∀ i, i < 96 → bA b_MO_step (0 + i) = wB [42, 3, 181, 0, 145, 42, 27, 28, 182, 1, 206, 153, 0, 7, 29, 156, 0, 5, 2, 172, 42, 28, 182, 1, 209, 42, 180, 0, 112, 27, 46, 19, 1, 202, 162, 0, 13, 29, 42, 180, 0, 112, 27, 46, 164, 0, 6, 16, 254, 172, 27, 54, 4, 3, 54, 5, 21, 5, 29, 162, 0, 70, 3, 54, 6, 42, 21, 4, 42, 21, 4, 21, 6, 182, 1, 82, 182, 1, 203, 153, 0, 28, 42, 180, 0, 112, 42, 21, 4, 21, 6, 182, 1, 82, 46, 42] i := wB_of (by decide +kernel)
theorem d_MO_step_0 : decode b_MO_step 0 = .ok (.aload_n 0, 1) := dc_42 (q0_win (r := 0) wn_MO_step_0 (by decide +kernel))
theorem d_MO_step_1 : decode b_MO_step 1 = .ok (.iconst 0, 1) := dc_3 (q0_win (r := 1) wn_MO_step_0 (by decide +kernel))
theorem d_MO_step_2 : decode b_MO_step 2 = .ok (.putfield 145, 3) := dc_181 (qU2_win (r := 2) wn_MO_step_0 (by decide +kernel))
theorem d_MO_step_5 : decode b_MO_step 5 = .ok (.aload_n 0, 1) := dc_42 (q0_win (r := 5) wn_MO_step_0 (by decide +kernel))
theorem d_MO_step_6 : decode b_MO_step 6 = .ok (.iload_n 1, 1) := dc_27 (q0_win (r := 6) wn_MO_step_0 (by decide +kernel))
theorem d_MO_step_7 : decode b_MO_step 7 = .ok (.iload_n 2, 1) := dc_28 (q0_win (r := 7) wn_MO_step_0 (by decide +kernel))
theorem d_MO_step_8 : decode b_MO_step 8 = .ok (.invokevirtual 462, 3) := dc_182 (qU2_win (r := 8) wn_MO_step_0 (by decide +kernel))
theorem d_MO_step_11 : decode b_MO_step 11 = .ok (.ifCond .eq 7, 3) := dc_153 (qS2_win (r := 11) wn_MO_step_0 (by decide +kernel))
theorem d_MO_step_14 : decode b_MO_step 14 = .ok (.iload_n 3, 1) := dc_29 (q0_win (r := 14) wn_MO_step_0 (by decide +kernel))
theorem d_MO_step_15 : decode b_MO_step 15 = .ok (.ifCond .ge 5, 3) := dc_156 (qS2_win (r := 15) wn_MO_step_0 (by decide +kernel))
theorem d_MO_step_18 : decode b_MO_step 18 = .ok (.iconst (-1), 1) := dc_2 (q0_win (r := 18) wn_MO_step_0 (by decide +kernel))
theorem d_MO_step_19 : decode b_MO_step 19 = .ok (.ireturn, 1) := dc_172 (q0_win (r := 19) wn_MO_step_0 (by decide +kernel))
theorem d_MO_step_20 : decode b_MO_step 20 = .ok (.aload_n 0, 1) := dc_42 (q0_win (r := 20) wn_MO_step_0 (by decide +kernel))
theorem d_MO_step_21 : decode b_MO_step 21 = .ok (.iload_n 2, 1) := dc_28 (q0_win (r := 21) wn_MO_step_0 (by decide +kernel))
theorem d_MO_step_22 : decode b_MO_step 22 = .ok (.invokevirtual 465, 3) := dc_182 (qU2_win (r := 22) wn_MO_step_0 (by decide +kernel))
theorem d_MO_step_25 : decode b_MO_step 25 = .ok (.aload_n 0, 1) := dc_42 (q0_win (r := 25) wn_MO_step_0 (by decide +kernel))
theorem d_MO_step_26 : decode b_MO_step 26 = .ok (.getfield 112, 3) := dc_180 (qU2_win (r := 26) wn_MO_step_0 (by decide +kernel))
theorem d_MO_step_29 : decode b_MO_step 29 = .ok (.iload_n 1, 1) := dc_27 (q0_win (r := 29) wn_MO_step_0 (by decide +kernel))
theorem d_MO_step_30 : decode b_MO_step 30 = .ok (.iaload, 1) := dc_46 (q0_win (r := 30) wn_MO_step_0 (by decide +kernel))
theorem d_MO_step_31 : decode b_MO_step 31 = .ok (.ldc_w 458, 3) := dc_19 (qU2_win (r := 31) wn_MO_step_0 (by decide +kernel))
theorem d_MO_step_34 : decode b_MO_step 34 = .ok (.if_icmp .ge 13, 3) := dc_162 (qS2_win (r := 34) wn_MO_step_0 (by decide +kernel))
theorem d_MO_step_37 : decode b_MO_step 37 = .ok (.iload_n 3, 1) := dc_29 (q0_win (r := 37) wn_MO_step_0 (by decide +kernel))
theorem d_MO_step_38 : decode b_MO_step 38 = .ok (.aload_n 0, 1) := dc_42 (q0_win (r := 38) wn_MO_step_0 (by decide +kernel))
theorem d_MO_step_39 : decode b_MO_step 39 = .ok (.getfield 112, 3) := dc_180 (qU2_win (r := 39) wn_MO_step_0 (by decide +kernel))
theorem d_MO_step_42 : decode b_MO_step 42 = .ok (.iload_n 1, 1) := dc_27 (q0_win (r := 42) wn_MO_step_0 (by decide +kernel))
theorem d_MO_step_43 : decode b_MO_step 43 = .ok (.iaload, 1) := dc_46 (q0_win (r := 43) wn_MO_step_0 (by decide +kernel))
theorem d_MO_step_44 : decode b_MO_step 44 = .ok (.if_icmp .le 6, 3) := dc_164 (qS2_win (r := 44) wn_MO_step_0 (by decide +kernel))
theorem d_MO_step_47 : decode b_MO_step 47 = .ok (.bipush (-2), 2) := dc_16 (qS1_win (r := 47) wn_MO_step_0 (by decide +kernel))
theorem d_MO_step_49 : decode b_MO_step 49 = .ok (.ireturn, 1) := dc_172 (q0_win (r := 49) wn_MO_step_0 (by decide +kernel))
theorem d_MO_step_50 : decode b_MO_step 50 = .ok (.iload_n 1, 1) := dc_27 (q0_win (r := 50) wn_MO_step_0 (by decide +kernel))
theorem d_MO_step_51 : decode b_MO_step 51 = .ok (.istore 4, 2) := dc_54 (qU1_win (r := 51) wn_MO_step_0 (by decide +kernel))
theorem d_MO_step_53 : decode b_MO_step 53 = .ok (.iconst 0, 1) := dc_3 (q0_win (r := 53) wn_MO_step_0 (by decide +kernel))
theorem d_MO_step_54 : decode b_MO_step 54 = .ok (.istore 5, 2) := dc_54 (qU1_win (r := 54) wn_MO_step_0 (by decide +kernel))
theorem d_MO_step_56 : decode b_MO_step 56 = .ok (.iload 5, 2) := dc_21 (qU1_win (r := 56) wn_MO_step_0 (by decide +kernel))
theorem d_MO_step_58 : decode b_MO_step 58 = .ok (.iload_n 3, 1) := dc_29 (q0_win (r := 58) wn_MO_step_0 (by decide +kernel))
theorem d_MO_step_59 : decode b_MO_step 59 = .ok (.if_icmp .ge 70, 3) := dc_162 (qS2_win (r := 59) wn_MO_step_0 (by decide +kernel))
theorem d_MO_step_62 : decode b_MO_step 62 = .ok (.iconst 0, 1) := dc_3 (q0_win (r := 62) wn_MO_step_0 (by decide +kernel))
theorem d_MO_step_63 : decode b_MO_step 63 = .ok (.istore 6, 2) := dc_54 (qU1_win (r := 63) wn_MO_step_0 (by decide +kernel))
theorem d_MO_step_65 : decode b_MO_step 65 = .ok (.aload_n 0, 1) := dc_42 (q0_win (r := 65) wn_MO_step_0 (by decide +kernel))
theorem d_MO_step_66 : decode b_MO_step 66 = .ok (.iload 4, 2) := dc_21 (qU1_win (r := 66) wn_MO_step_0 (by decide +kernel))
theorem d_MO_step_68 : decode b_MO_step 68 = .ok (.aload_n 0, 1) := dc_42 (q0_win (r := 68) wn_MO_step_0 (by decide +kernel))
theorem d_MO_step_69 : decode b_MO_step 69 = .ok (.iload 4, 2) := dc_21 (qU1_win (r := 69) wn_MO_step_0 (by decide +kernel))
theorem d_MO_step_71 : decode b_MO_step 71 = .ok (.iload 6, 2) := dc_21 (qU1_win (r := 71) wn_MO_step_0 (by decide +kernel))
theorem d_MO_step_73 : decode b_MO_step 73 = .ok (.invokevirtual 338, 3) := dc_182 (qU2_win (r := 73) wn_MO_step_0 (by decide +kernel))
theorem d_MO_step_76 : decode b_MO_step 76 = .ok (.invokevirtual 459, 3) := dc_182 (qU2_win (r := 76) wn_MO_step_0 (by decide +kernel))
theorem d_MO_step_79 : decode b_MO_step 79 = .ok (.ifCond .eq 28, 3) := dc_153 (qS2_win (r := 79) wn_MO_step_0 (by decide +kernel))
theorem d_MO_step_82 : decode b_MO_step 82 = .ok (.aload_n 0, 1) := dc_42 (q0_win (r := 82) wn_MO_step_0 (by decide +kernel))
theorem d_MO_step_83 : decode b_MO_step 83 = .ok (.getfield 112, 3) := dc_180 (qU2_win (r := 83) wn_MO_step_0 (by decide +kernel))
theorem d_MO_step_86 : decode b_MO_step 86 = .ok (.aload_n 0, 1) := dc_42 (q0_win (r := 86) wn_MO_step_0 (by decide +kernel))
theorem d_MO_step_87 : decode b_MO_step 87 = .ok (.iload 4, 2) := dc_21 (qU1_win (r := 87) wn_MO_step_0 (by decide +kernel))
theorem d_MO_step_89 : decode b_MO_step 89 = .ok (.iload 6, 2) := dc_21 (qU1_win (r := 89) wn_MO_step_0 (by decide +kernel))
theorem d_MO_step_91 : decode b_MO_step 91 = .ok (.invokevirtual 338, 3) := dc_182 (qU2_win (r := 91) wn_MO_step_0 (by decide +kernel))
theorem d_MO_step_94 : decode b_MO_step 94 = .ok (.iaload, 1) := dc_46 (q0_win (r := 94) wn_MO_step_0 (by decide +kernel))
theorem d_MO_step_95 : decode b_MO_step 95 = .ok (.aload_n 0, 1) := dc_42 (q0_win (r := 95) wn_MO_step_0 (by decide +kernel))
theorem wn_MO_step_96 : ∀ i, i < 36 → bA b_MO_step (96 + i) = wB [180, 0, 112, 21, 4, 46, 4, 100, 159, 0, 9, 132, 6, 1, 167, 255, 211, 42, 21, 4, 21, 6, 182, 1, 82, 54, 4, 132, 5, 1, 167, 255, 186, 21, 4, 172] i := wB_of (by decide +kernel)
theorem d_MO_step_96 : decode b_MO_step 96 = .ok (.getfield 112, 3) := dc_180 (qU2_win (r := 0) wn_MO_step_96 (by decide +kernel))
theorem d_MO_step_99 : decode b_MO_step 99 = .ok (.iload 4, 2) := dc_21 (qU1_win (r := 3) wn_MO_step_96 (by decide +kernel))
theorem d_MO_step_101 : decode b_MO_step 101 = .ok (.iaload, 1) := dc_46 (q0_win (r := 5) wn_MO_step_96 (by decide +kernel))
theorem d_MO_step_102 : decode b_MO_step 102 = .ok (.iconst 1, 1) := dc_4 (q0_win (r := 6) wn_MO_step_96 (by decide +kernel))
theorem d_MO_step_103 : decode b_MO_step 103 = .ok (.isub, 1) := dc_100 (q0_win (r := 7) wn_MO_step_96 (by decide +kernel))
theorem d_MO_step_104 : decode b_MO_step 104 = .ok (.if_icmp .eq 9, 3) := dc_159 (qS2_win (r := 8) wn_MO_step_96 (by decide +kernel))
theorem d_MO_step_107 : decode b_MO_step 107 = .ok (.iinc 6 1, 3) := dc_132 (qI_win (r := 11) wn_MO_step_96 (by decide +kernel))
theorem d_MO_step_110 : decode b_MO_step 110 = .ok (.goto (-45), 3) := dc_167 (qS2_win (r := 14) wn_MO_step_96 (by decide +kernel))
theorem d_MO_step_113 : decode b_MO_step 113 = .ok (.aload_n 0, 1) := dc_42 (q0_win (r := 17) wn_MO_step_96 (by decide +kernel))
theorem d_MO_step_114 : decode b_MO_step 114 = .ok (.iload 4, 2) := dc_21 (qU1_win (r := 18) wn_MO_step_96 (by decide +kernel))
theorem d_MO_step_116 : decode b_MO_step 116 = .ok (.iload 6, 2) := dc_21 (qU1_win (r := 20) wn_MO_step_96 (by decide +kernel))
theorem d_MO_step_118 : decode b_MO_step 118 = .ok (.invokevirtual 338, 3) := dc_182 (qU2_win (r := 22) wn_MO_step_96 (by decide +kernel))
theorem d_MO_step_121 : decode b_MO_step 121 = .ok (.istore 4, 2) := dc_54 (qU1_win (r := 25) wn_MO_step_96 (by decide +kernel))
theorem d_MO_step_123 : decode b_MO_step 123 = .ok (.iinc 5 1, 3) := dc_132 (qI_win (r := 27) wn_MO_step_96 (by decide +kernel))
theorem d_MO_step_126 : decode b_MO_step 126 = .ok (.goto (-70), 3) := dc_167 (qS2_win (r := 30) wn_MO_step_96 (by decide +kernel))
theorem d_MO_step_129 : decode b_MO_step 129 = .ok (.iload 4, 2) := dc_21 (qU1_win (r := 33) wn_MO_step_96 (by decide +kernel))
theorem d_MO_step_131 : decode b_MO_step 131 = .ok (.ireturn, 1) := dc_172 (q0_win (r := 35) wn_MO_step_96 (by decide +kernel))
def t_MO_step_L107 (x1 : Int) (x2 : Int) (x3 : Int) (bk56 : Mem → Int → Int → Option (Mem × Int)) (bk65 : Mem → Int → Int → Int → Option (Mem × Int)) (M : Mem) (v2_ : Int) (v3_ : Int) (v4_ : Int) : Option (Mem × Int) := (bk65 M v2_ v3_ (w32 (v4_ + 1)))
def t_MO_step_L65 (x1 : Int) (x2 : Int) (x3 : Int) (bk56 : Mem → Int → Int → Option (Mem × Int)) : Nat → Mem → Int → Int → Int → Option (Mem × Int)
  | 0, _, _, _, _ => none
  | fu + 1, M, v2_, v3_, v4_ => (obind (t_MO_beside M v2_ v4_) fun q15 => (obind (t_MO_canStep M v2_ q15) fun q17 => (if q17 = 0 then (t_MO_step_L107 x1 x2 x3 bk56 (fun a0_ a1_ a2_ a3_ => t_MO_step_L65 x1 x2 x3 bk56 fu a0_ a1_ a2_ a3_) M v2_ v3_ v4_) else (obind (t_MO_beside M v2_ v4_) fun q20 => (qguard (0 ≤ q20 ∧ q20 < 48) (qguard (0 ≤ v2_ ∧ v2_ < 48) (if (M.1 222 q20) = (w32 ((M.1 222 v2_) - 1)) then (obind (t_MO_beside M v2_ v4_) fun q27 => (bk56 M q27 (w32 (v3_ + 1)))) else (t_MO_step_L107 x1 x2 x3 bk56 (fun a0_ a1_ a2_ a3_ => t_MO_step_L65 x1 x2 x3 bk56 fu a0_ a1_ a2_ a3_) M v2_ v3_ v4_))))))))
def t_MO_step_L56 (x1 : Int) (x2 : Int) (x3 : Int)  : Nat → Mem → Int → Int → Option (Mem × Int)
  | 0, _, _, _ => none
  | fu + 1, M, v2_, v3_ => (if x3 ≤ v3_ then (some (M, v2_)) else (t_MO_step_L65 x1 x2 x3 (fun a0_ a1_ a2_ => t_MO_step_L56 x1 x2 x3 fu a0_ a1_ a2_) FU M v2_ v3_ 0))
def t_MO_step (M : Mem) (x1 : Int) (x2 : Int) (x3 : Int) : Option (Mem × Int) := (qlet (setI M 191 0 0) fun M1 => (obind (t_MO_isWalk M1 x1 x2) fun q2 => (if q2 = 0 then (some (M1, (-1))) else (if 0 ≤ x3 then (obind (t_MO_layWalk M1 x2) fun q6 => (qguard (0 ≤ x1 ∧ x1 < 48) (if 1000000 ≤ (q6.1 222 x1) then (some (q6, (-2))) else (qguard (0 ≤ x1 ∧ x1 < 48) (if x3 ≤ (q6.1 222 x1) then (t_MO_step_L56 x1 x2 x3 FU q6 x1 0) else (some (q6, (-2)))))))) else (some (M1, (-1)))))))
set_option maxHeartbeats 4000000 in
set_option maxRecDepth 100000 in
theorem k_MO_step_L107 (l : Launch) {p : Program} {e : Env} {s : State} {m : MethodId} {below : List Frame} {meth : Method} {c : Code} {b n : Nat} {C : CT} (hlo : 231 ≤ n) (x1 : Int) (x2 : Int) (x3 : Int) (hx1 : InR x1) (hx2 : InR x2) (hx3 : InR x3) (F : Cx b p m c b_MO_step 7 s ([.ref (b + 191), vI x1, vI x2, vI x3] : List Value).toArray "WardFallsModel" C n 231) (hlk : meth.locks = false) (hr : meth.sig.returnType = some .int) {res : Mem × Int} (bk56 : Mem → Int → Int → Option (Mem × Int)) (hbk56 : ∀ (M : Mem) (v2_ : Int) (hv2_ : InR v2_) (v3_ : Int) (hv3_ : InR v3_) (H : Heap) (locs : List Loc) (ls : Array Slot), St b C n M s H locs → lv_has ls 7 [(0, .ref (b + 191)), (3, vI x3), (4, vI v2_), (5, vI v3_)] → bk56 M v2_ v3_ = some res → W p l e (headSpec (wsM y_MO_step b_MO_step 7 (some .int)) (rmD 4)).room s m ([.ref (b + 191), vI x1, vI x2, vI x3] : List Value).toArray below meth c H locs 0 0 (MQ below (QI b C n res.1 res.2) ([.ref (b + 191), vI x1, vI x2, vI x3] : List Value).toArray s 0 0 (frb b)) (F0 m 56 ls [])) (bk65 : Mem → Int → Int → Int → Option (Mem × Int)) (hbk65 : ∀ (M : Mem) (v2_ : Int) (hv2_ : InR v2_) (v3_ : Int) (hv3_ : InR v3_) (v4_ : Int) (hv4_ : InR v4_) (H : Heap) (locs : List Loc) (ls : Array Slot), St b C n M s H locs → lv_has ls 7 [(0, .ref (b + 191)), (3, vI x3), (4, vI v2_), (5, vI v3_), (6, vI v4_)] → bk65 M v2_ v3_ v4_ = some res → W p l e (headSpec (wsM y_MO_step b_MO_step 7 (some .int)) (rmD 4)).room s m ([.ref (b + 191), vI x1, vI x2, vI x3] : List Value).toArray below meth c H locs 0 0 (MQ below (QI b C n res.1 res.2) ([.ref (b + 191), vI x1, vI x2, vI x3] : List Value).toArray s 0 0 (frb b)) (F0 m 65 ls [])) (M : Mem) (v2_ : Int) (hv2_ : InR v2_) (v3_ : Int) (hv3_ : InR v3_) (v4_ : Int) (hv4_ : InR v4_) (H : Heap) (locs : List Loc) (ls : Array Slot) (hS : St b C n M s H locs) (hl : lv_has ls 7 [(0, .ref (b + 191)), (3, vI x3), (4, vI v2_), (5, vI v3_), (6, vI v4_)]) (hT : t_MO_step_L107 x1 x2 x3 bk56 bk65 M v2_ v3_ v4_ = some res) : W p l e (headSpec (wsM y_MO_step b_MO_step 7 (some .int)) (rmD 4)).room s m ([.ref (b + 191), vI x1, vI x2, vI x3] : List Value).toArray below meth c H locs 0 0 (MQ below (QI b C n res.1 res.2) ([.ref (b + 191), vI x1, vI x2, vI x3] : List Value).toArray s 0 0 (frb b)) (F0 m 107 ls []) := by
  unfold t_MO_step_L107 at hT
  refine lv_iinc (v := Int32.ofInt (w32 (v4_ + 1))) (lv' := [(6, vI (w32 (v4_ + 1))), (0, .ref (b + 191)), (3, vI x3), (4, vI v2_), (5, vI v3_)]) F.hx F.hb d_MO_step_107 hl (k := 4) rfl (q_of_add _ _) (Nat.le_of_ble_eq_true rfl) rfl (fun ls hl => ?_)
  refine lv_goto (tgt := 65) F.hx F.hb d_MO_step_110 (by decide) ?_
  exact hbk65 M v2_ hv2_ v3_ hv3_ (w32 (v4_ + 1)) (inr_w32 _) _ _ _ hS (lv_sub hl [1, 2, 3, 4, 0] rfl) hT
set_option maxHeartbeats 4000000 in
set_option maxRecDepth 100000 in
theorem k_MO_step_L65 (l : Launch) {p : Program} {e : Env} {s : State} {m : MethodId} {below : List Frame} {meth : Method} {c : Code} {b n : Nat} {C : CT} (hlo : 231 ≤ n) (x1 : Int) (x2 : Int) (x3 : Int) (hx1 : InR x1) (hx2 : InR x2) (hx3 : InR x3) (F : Cx b p m c b_MO_step 7 s ([.ref (b + 191), vI x1, vI x2, vI x3] : List Value).toArray "WardFallsModel" C n 231) (hlk : meth.locks = false) (hr : meth.sig.returnType = some .int) {res : Mem × Int} (bk56 : Mem → Int → Int → Option (Mem × Int)) (hbk56 : ∀ (M : Mem) (v2_ : Int) (hv2_ : InR v2_) (v3_ : Int) (hv3_ : InR v3_) (H : Heap) (locs : List Loc) (ls : Array Slot), St b C n M s H locs → lv_has ls 7 [(0, .ref (b + 191)), (3, vI x3), (4, vI v2_), (5, vI v3_)] → bk56 M v2_ v3_ = some res → W p l e (headSpec (wsM y_MO_step b_MO_step 7 (some .int)) (rmD 4)).room s m ([.ref (b + 191), vI x1, vI x2, vI x3] : List Value).toArray below meth c H locs 0 0 (MQ below (QI b C n res.1 res.2) ([.ref (b + 191), vI x1, vI x2, vI x3] : List Value).toArray s 0 0 (frb b)) (F0 m 56 ls [])) : ∀ (fu : Nat) (M : Mem) (v2_ : Int) (hv2_ : InR v2_) (v3_ : Int) (hv3_ : InR v3_) (v4_ : Int) (hv4_ : InR v4_) (H : Heap) (locs : List Loc) (ls : Array Slot), St b C n M s H locs → lv_has ls 7 [(0, .ref (b + 191)), (3, vI x3), (4, vI v2_), (5, vI v3_), (6, vI v4_)] → t_MO_step_L65 x1 x2 x3 bk56 fu M v2_ v3_ v4_ = some res → W p l e (headSpec (wsM y_MO_step b_MO_step 7 (some .int)) (rmD 4)).room s m ([.ref (b + 191), vI x1, vI x2, vI x3] : List Value).toArray below meth c H locs 0 0 (MQ below (QI b C n res.1 res.2) ([.ref (b + 191), vI x1, vI x2, vI x3] : List Value).toArray s 0 0 (frb b)) (F0 m 65 ls []) := by
  intro fu
  induction fu with
  | zero => intro M v2_ hv2_ v3_ hv3_ v4_ hv4_ H locs ls hS hl hT; exact absurd hT (by simp [t_MO_step_L65])
  | succ fu ih =>
    intro M v2_ hv2_ v3_ hv3_ v4_ hv4_ H locs ls hS hl hT
    rw [t_MO_step_L65] at hT
    refine lv_aload_n F.hx F.hb d_MO_step_65 rfl (lv_at hl 0 rfl) ?_
    refine lv_iload F.hx F.hb d_MO_step_66 (lv_at hl 2 rfl) ?_
    refine lv_aload_n F.hx F.hb d_MO_step_68 rfl (lv_at hl 0 rfl) ?_
    refine lv_iload F.hx F.hb d_MO_step_69 (lv_at hl 2 rfl) ?_
    refine lv_iload F.hx F.hb d_MO_step_71 (lv_at hl 4 rfl) ?_
    obtain ⟨q15, hq15, hT⟩ := q_obind hT
    refine r_backI F hS (r_runV (k := 191) (N := 68) (T := T1) (As := [vI v2_, vI v4_]) F hS (show 191 < 231 by decide) (show shK 191 = 5 from rfl) rfl (c_MO_beside l F.2.2.1 M v2_ v4_ hv2_ hv4_ _ hq15) gs_MO_338 hd_MO_beside ⟨Nat.le_of_ble_eq_true rfl, Nat.le_of_ble_eq_true rfl⟩ rfl hl.1 (Nat.le_of_ble_eq_true rfl) ⟨Nat.zero_le _, Nat.zero_le _⟩ rfl d_MO_step_73) (fun H locs hS h16 => ?_)
    obtain ⟨q17, hq17, hT⟩ := q_obind hT
    refine r_backZ F hS (r_runV (k := 191) (N := 68) (T := T1) (As := [vI v2_, vI q15]) F hS (show 191 < 231 by decide) (show shK 191 = 5 from rfl) rfl (c_MO_canStep l F.2.2.1 M v2_ q15 hv2_ h16 _ hq17) gs_MO_459 hd_MO_canStep ⟨Nat.le_of_ble_eq_true rfl, Nat.le_of_ble_eq_true rfl⟩ rfl hl.1 (Nat.le_of_ble_eq_true rfl) ⟨Nat.zero_le _, Nat.zero_le _⟩ rfl d_MO_step_76) (fun H locs hS h18 => ?_)
    refine r_if_eq (tgt := 107) F.hx F.hb (inr_z h18) d_MO_step_79 (by decide) (fun c19 => ?_) (fun c19 => ?_)
    · replace hT := (if_pos c19).symm.trans hT
      exact k_MO_step_L107 l hlo x1 x2 x3 hx1 hx2 hx3 F hlk hr bk56 hbk56 (fun a0_ a1_ a2_ a3_ => t_MO_step_L65 x1 x2 x3 bk56 fu a0_ a1_ a2_ a3_) ih M v2_ hv2_ v3_ hv3_ v4_ hv4_ _ _ _ hS (lv_sub hl [0, 1, 2, 3, 4] rfl) hT
    · replace hT := (if_neg c19).symm.trans hT
      refine lv_aload_n F.hx F.hb d_MO_step_82 rfl (lv_at hl 0 rfl) ?_
      refine r_get (v := .ref (b + 222)) (N := 68) (T := T1) (j := 55) F hS (show 191 < 231 by decide) (show shK 191 = 5 from rfl) (show shN 191 = 68 from rfl) rfl (Nat.le_of_ble_eq_true rfl) ing1 mw_1444 (fv_sg rfl rfl rfl) d_MO_step_83 ?_
      refine lv_aload_n F.hx F.hb d_MO_step_86 rfl (lv_at hl 0 rfl) ?_
      refine lv_iload F.hx F.hb d_MO_step_87 (lv_at hl 2 rfl) ?_
      refine lv_iload F.hx F.hb d_MO_step_89 (lv_at hl 4 rfl) ?_
      obtain ⟨q20, hq20, hT⟩ := q_obind hT
      refine r_backI F hS (r_runV (k := 191) (N := 68) (T := T1) (As := [vI v2_, vI v4_]) F hS (show 191 < 231 by decide) (show shK 191 = 5 from rfl) rfl (c_MO_beside l F.2.2.1 M v2_ v4_ hv2_ hv4_ _ hq20) gs_MO_338 hd_MO_beside ⟨Nat.le_of_ble_eq_true rfl, Nat.le_of_ble_eq_true rfl⟩ rfl hl.1 (Nat.le_of_ble_eq_true rfl) ⟨Nat.zero_le _, Nat.zero_le _⟩ rfl d_MO_step_91) (fun H locs hS h21 => ?_)
      obtain ⟨⟨g22a, g22b⟩, hT⟩ := q_guard hT
      refine r_iald F hS (show 222 < 231 by decide) (show shK 222 = 0 from rfl) (show shN 222 = 48 from rfl) h21 g22a g22b d_MO_step_94 ?_
      have i23 := hS.rng 222 q20
      refine lv_aload_n F.hx F.hb d_MO_step_95 rfl (lv_at hl 0 rfl) ?_
      refine r_get (v := .ref (b + 222)) (N := 68) (T := T1) (j := 55) F hS (show 191 < 231 by decide) (show shK 191 = 5 from rfl) (show shN 191 = 68 from rfl) rfl (Nat.le_of_ble_eq_true rfl) ing1 mw_1444 (fv_sg rfl rfl rfl) d_MO_step_96 ?_
      refine lv_iload F.hx F.hb d_MO_step_99 (lv_at hl 2 rfl) ?_
      obtain ⟨⟨g24a, g24b⟩, hT⟩ := q_guard hT
      refine r_iald F hS (show 222 < 231 by decide) (show shK 222 = 0 from rfl) (show shN 222 = 48 from rfl) hv2_ g24a g24b d_MO_step_101 ?_
      have i25 := hS.rng 222 v2_
      refine r_iconst F.hx F.hb d_MO_step_102 ?_
      refine r_isub F.hx F.hb d_MO_step_103 ?_
      refine r_icmp_eq (tgt := 113) F.hx F.hb i23 (inr_w32 _) d_MO_step_104 (by decide) (fun c26 => ?_) (fun c26 => ?_)
      · replace hT := (if_pos c26).symm.trans hT
        refine lv_aload_n F.hx F.hb d_MO_step_113 rfl (lv_at hl 0 rfl) ?_
        refine lv_iload F.hx F.hb d_MO_step_114 (lv_at hl 2 rfl) ?_
        refine lv_iload F.hx F.hb d_MO_step_116 (lv_at hl 4 rfl) ?_
        obtain ⟨q27, hq27, hT⟩ := q_obind hT
        refine r_backI F hS (r_runV (k := 191) (N := 68) (T := T1) (As := [vI v2_, vI v4_]) F hS (show 191 < 231 by decide) (show shK 191 = 5 from rfl) rfl (c_MO_beside l F.2.2.1 M v2_ v4_ hv2_ hv4_ _ hq27) gs_MO_338 hd_MO_beside ⟨Nat.le_of_ble_eq_true rfl, Nat.le_of_ble_eq_true rfl⟩ rfl hl.1 (Nat.le_of_ble_eq_true rfl) ⟨Nat.zero_le _, Nat.zero_le _⟩ rfl d_MO_step_118) (fun H locs hS h28 => ?_)
        refine lv_istore (lv' := [(4, vI q27), (0, .ref (b + 191)), (3, vI x3), (5, vI v3_), (6, vI v4_)]) F.hx F.hb d_MO_step_121 hl (Nat.le_of_ble_eq_true rfl) rfl (fun ls hl => ?_)
        refine lv_iinc (v := Int32.ofInt (w32 (v3_ + 1))) (lv' := [(5, vI (w32 (v3_ + 1))), (4, vI q27), (0, .ref (b + 191)), (3, vI x3), (6, vI v4_)]) F.hx F.hb d_MO_step_123 hl (k := 3) rfl (q_of_add _ _) (Nat.le_of_ble_eq_true rfl) rfl (fun ls hl => ?_)
        refine lv_goto (tgt := 56) F.hx F.hb d_MO_step_126 (by decide) ?_
        exact hbk56 M q27 h28 (w32 (v3_ + 1)) (inr_w32 _) _ _ _ hS (lv_sub hl [2, 3, 1, 0] rfl) hT
      · replace hT := (if_neg c26).symm.trans hT
        exact k_MO_step_L107 l hlo x1 x2 x3 hx1 hx2 hx3 F hlk hr bk56 hbk56 (fun a0_ a1_ a2_ a3_ => t_MO_step_L65 x1 x2 x3 bk56 fu a0_ a1_ a2_ a3_) ih M v2_ hv2_ v3_ hv3_ v4_ hv4_ _ _ _ hS (lv_sub hl [0, 1, 2, 3, 4] rfl) hT
set_option maxHeartbeats 4000000 in
set_option maxRecDepth 100000 in
theorem k_MO_step_L56 (l : Launch) {p : Program} {e : Env} {s : State} {m : MethodId} {below : List Frame} {meth : Method} {c : Code} {b n : Nat} {C : CT} (hlo : 231 ≤ n) (x1 : Int) (x2 : Int) (x3 : Int) (hx1 : InR x1) (hx2 : InR x2) (hx3 : InR x3) (F : Cx b p m c b_MO_step 7 s ([.ref (b + 191), vI x1, vI x2, vI x3] : List Value).toArray "WardFallsModel" C n 231) (hlk : meth.locks = false) (hr : meth.sig.returnType = some .int) {res : Mem × Int} : ∀ (fu : Nat) (M : Mem) (v2_ : Int) (hv2_ : InR v2_) (v3_ : Int) (hv3_ : InR v3_) (H : Heap) (locs : List Loc) (ls : Array Slot), St b C n M s H locs → lv_has ls 7 [(0, .ref (b + 191)), (3, vI x3), (4, vI v2_), (5, vI v3_)] → t_MO_step_L56 x1 x2 x3 fu M v2_ v3_ = some res → W p l e (headSpec (wsM y_MO_step b_MO_step 7 (some .int)) (rmD 4)).room s m ([.ref (b + 191), vI x1, vI x2, vI x3] : List Value).toArray below meth c H locs 0 0 (MQ below (QI b C n res.1 res.2) ([.ref (b + 191), vI x1, vI x2, vI x3] : List Value).toArray s 0 0 (frb b)) (F0 m 56 ls []) := by
  intro fu
  induction fu with
  | zero => intro M v2_ hv2_ v3_ hv3_ H locs ls hS hl hT; exact absurd hT (by simp [t_MO_step_L56])
  | succ fu ih =>
    intro M v2_ hv2_ v3_ hv3_ H locs ls hS hl hT
    rw [t_MO_step_L56] at hT
    refine lv_iload F.hx F.hb d_MO_step_56 (lv_at hl 3 rfl) ?_
    refine lv_iload_n F.hx F.hb d_MO_step_58 rfl (lv_at hl 1 rfl) ?_
    refine r_icmp_ge (tgt := 129) F.hx F.hb hv3_ hx3 d_MO_step_59 (by decide) (fun c14 => ?_) (fun c14 => ?_)
    · replace hT := (if_pos c14).symm.trans hT
      refine lv_iload F.hx F.hb d_MO_step_129 (lv_at hl 2 rfl) ?_
      cases hT
      exact r_iret F hlk hr rfl hS hv2_ d_MO_step_131
    · replace hT := (if_neg c14).symm.trans hT
      refine r_iconst F.hx F.hb d_MO_step_62 ?_
      refine lv_istore (lv' := [(6, vI 0), (0, .ref (b + 191)), (3, vI x3), (4, vI v2_), (5, vI v3_)]) F.hx F.hb d_MO_step_63 hl (Nat.le_of_ble_eq_true rfl) rfl (fun ls hl => ?_)
      exact k_MO_step_L65 l hlo x1 x2 x3 hx1 hx2 hx3 F hlk hr (fun a0_ a1_ a2_ => t_MO_step_L56 x1 x2 x3 fu a0_ a1_ a2_) ih FU M v2_ hv2_ v3_ hv3_ 0 (inr_c rfl) _ _ _ hS (lv_sub hl [1, 2, 3, 4, 0] rfl) hT
set_option maxHeartbeats 4000000 in
set_option maxRecDepth 100000 in
theorem c_MO_step (l : Launch) {b n : Nat} {C : CT} (hlo : 231 ≤ n) (M : Mem) (x1 : Int) (x2 : Int) (x3 : Int) (hx1 : InR x1) (hx2 : InR x2) (hx3 : InR x3) (res : Mem × Int) (hT : t_MO_step M x1 x2 x3 = some res) : CM l b C n 4 y_MO_step b_MO_step 7 (some .int) [.ref (b + 191), vI x1, vI x2, vI x3] M (QI b C n res.1 res.2) := by
  refine CM.of (lo := 231) (ow := "WardFallsModel") (by decide) rfl (Nat.le_of_ble_eq_true rfl) hlo (fun p e s m below meth c F hlk hr hS ls hl => ?_)
  have hl : lv_has ls 7 [(0, .ref (b + 191)), (1, vI x1), (2, vI x2), (3, vI x3)] := hl
  unfold t_MO_step at hT
  refine lv_aload_n F.hx F.hb d_MO_step_0 rfl (lv_at hl 0 rfl) ?_
  refine r_iconst F.hx F.hb d_MO_step_1 ?_
  refine r_putI (N := 68) (T := T1) (j := 0) F hS (show 191 < 231 by decide) (show shK 191 = 5 from rfl) (show shN 191 = 68 from rfl) rfl (Nat.le_of_ble_eq_true rfl) ing1 tyok1 nm1 rfl rfl rfl rfl rfl rfl mw_1389 (inr_c rfl) d_MO_step_2 (fun H locs hS => ?_)
  obtain ⟨M1, eM1⟩ : ∃ q, q = (setI M 191 0 0) := ⟨_, rfl⟩
  replace hS : St b C n M1 s H locs := by rw [eM1]; exact hS
  replace hT := qlet_eq hT eM1
  refine lv_aload_n F.hx F.hb d_MO_step_5 rfl (lv_at hl 0 rfl) ?_
  refine lv_iload_n F.hx F.hb d_MO_step_6 rfl (lv_at hl 1 rfl) ?_
  refine lv_iload_n F.hx F.hb d_MO_step_7 rfl (lv_at hl 2 rfl) ?_
  obtain ⟨q2, hq2, hT⟩ := q_obind hT
  refine r_backZ F hS (r_runV (k := 191) (N := 68) (T := T1) (As := [vI x1, vI x2]) F hS (show 191 < 231 by decide) (show shK 191 = 5 from rfl) rfl (c_MO_isWalk l F.2.2.1 M1 x1 x2 hx1 hx2 _ hq2) gs_MO_462 hd_MO_isWalk ⟨Nat.le_of_ble_eq_true rfl, Nat.le_of_ble_eq_true rfl⟩ rfl hl.1 (Nat.le_of_ble_eq_true rfl) ⟨Nat.zero_le _, Nat.zero_le _⟩ rfl d_MO_step_8) (fun H locs hS h3 => ?_)
  refine r_if_eq (tgt := 18) F.hx F.hb (inr_z h3) d_MO_step_11 (by decide) (fun c4 => ?_) (fun c4 => ?_)
  · replace hT := (if_pos c4).symm.trans hT
    refine r_iconst F.hx F.hb d_MO_step_18 ?_
    cases hT
    exact r_iret F hlk hr rfl hS (inr_c rfl) d_MO_step_19
  · replace hT := (if_neg c4).symm.trans hT
    refine lv_iload_n F.hx F.hb d_MO_step_14 rfl (lv_at hl 3 rfl) ?_
    refine r_if_ge (tgt := 20) F.hx F.hb hx3 d_MO_step_15 (by decide) (fun c5 => ?_) (fun c5 => ?_)
    · replace hT := (if_pos c5).symm.trans hT
      refine lv_aload_n F.hx F.hb d_MO_step_20 rfl (lv_at hl 0 rfl) ?_
      refine lv_iload_n F.hx F.hb d_MO_step_21 rfl (lv_at hl 2 rfl) ?_
      obtain ⟨q6, hq6, hT⟩ := q_obind hT
      refine r_backV F hS (r_runV (k := 191) (N := 68) (T := T1) (As := [vI x2]) F hS (show 191 < 231 by decide) (show shK 191 = 5 from rfl) rfl (c_MO_layWalk l F.2.2.1 M1 x2 hx2 _ hq6) gs_MO_465 hd_MO_layWalk ⟨Nat.le_of_ble_eq_true rfl, Nat.le_of_ble_eq_true rfl⟩ rfl hl.1 (Nat.le_of_ble_eq_true rfl) ⟨Nat.zero_le _, Nat.zero_le _⟩ rfl d_MO_step_22) (fun H locs hS => ?_)
      refine lv_aload_n F.hx F.hb d_MO_step_25 rfl (lv_at hl 0 rfl) ?_
      refine r_get (v := .ref (b + 222)) (N := 68) (T := T1) (j := 55) F hS (show 191 < 231 by decide) (show shK 191 = 5 from rfl) (show shN 191 = 68 from rfl) rfl (Nat.le_of_ble_eq_true rfl) ing1 mw_1444 (fv_sg rfl rfl rfl) d_MO_step_26 ?_
      refine lv_iload_n F.hx F.hb d_MO_step_29 rfl (lv_at hl 1 rfl) ?_
      obtain ⟨⟨g8a, g8b⟩, hT⟩ := q_guard hT
      refine r_iald F hS (show 222 < 231 by decide) (show shK 222 = 0 from rfl) (show shN 222 = 48 from rfl) hx1 g8a g8b d_MO_step_30 ?_
      have i9 := hS.rng 222 x1
      refine lv_ldcw (v := Int32.ofInt 1000000) F.hx F.hb F.hown (F.hts mw_1943) d_MO_step_31 ?_
      refine r_icmp_ge (tgt := 47) F.hx F.hb i9 (inr_c rfl) d_MO_step_34 (by decide) (fun c10 => ?_) (fun c10 => ?_)
      · replace hT := (if_pos c10).symm.trans hT
        refine r_bipush F.hx F.hb d_MO_step_47 rfl ?_
        cases hT
        exact r_iret F hlk hr rfl hS (inr_c rfl) d_MO_step_49
      · replace hT := (if_neg c10).symm.trans hT
        refine lv_iload_n F.hx F.hb d_MO_step_37 rfl (lv_at hl 3 rfl) ?_
        refine lv_aload_n F.hx F.hb d_MO_step_38 rfl (lv_at hl 0 rfl) ?_
        refine r_get (v := .ref (b + 222)) (N := 68) (T := T1) (j := 55) F hS (show 191 < 231 by decide) (show shK 191 = 5 from rfl) (show shN 191 = 68 from rfl) rfl (Nat.le_of_ble_eq_true rfl) ing1 mw_1444 (fv_sg rfl rfl rfl) d_MO_step_39 ?_
        refine lv_iload_n F.hx F.hb d_MO_step_42 rfl (lv_at hl 1 rfl) ?_
        obtain ⟨⟨g11a, g11b⟩, hT⟩ := q_guard hT
        refine r_iald F hS (show 222 < 231 by decide) (show shK 222 = 0 from rfl) (show shN 222 = 48 from rfl) hx1 g11a g11b d_MO_step_43 ?_
        have i12 := hS.rng 222 x1
        refine r_icmp_le (tgt := 50) F.hx F.hb hx3 i12 d_MO_step_44 (by decide) (fun c13 => ?_) (fun c13 => ?_)
        · replace hT := (if_pos c13).symm.trans hT
          refine lv_iload_n F.hx F.hb d_MO_step_50 rfl (lv_at hl 1 rfl) ?_
          refine lv_istore (lv' := [(4, vI x1), (0, .ref (b + 191)), (1, vI x1), (2, vI x2), (3, vI x3)]) F.hx F.hb d_MO_step_51 hl (Nat.le_of_ble_eq_true rfl) rfl (fun ls hl => ?_)
          refine r_iconst F.hx F.hb d_MO_step_53 ?_
          refine lv_istore (lv' := [(5, vI 0), (4, vI x1), (0, .ref (b + 191)), (1, vI x1), (2, vI x2), (3, vI x3)]) F.hx F.hb d_MO_step_54 hl (Nat.le_of_ble_eq_true rfl) rfl (fun ls hl => ?_)
          exact k_MO_step_L56 l hlo x1 x2 x3 hx1 hx2 hx3 F hlk hr FU q6 x1 hx1 0 (inr_c rfl) _ _ _ hS (lv_sub hl [2, 5, 1, 0] rfl) hT
        · replace hT := (if_neg c13).symm.trans hT
          refine r_bipush F.hx F.hb d_MO_step_47 rfl ?_
          cases hT
          exact r_iret F hlk hr rfl hS (inr_c rfl) d_MO_step_49
    · replace hT := (if_neg c5).symm.trans hT
      refine r_iconst F.hx F.hb d_MO_step_18 ?_
      cases hT
      exact r_iret F hlk hr rfl hS (inr_c rfl) d_MO_step_19
theorem d_MO_pushOf_0 : decode b_MO_pushOf 0 = .ok (.aload_n 0, 1) := dc_42 (by decide +kernel)
theorem d_MO_pushOf_1 : decode b_MO_pushOf 1 = .ok (.iconst 0, 1) := dc_3 (by decide +kernel)
theorem d_MO_pushOf_2 : decode b_MO_pushOf 2 = .ok (.iload_n 1, 1) := dc_27 (by decide +kernel)
theorem d_MO_pushOf_3 : decode b_MO_pushOf 3 = .ok (.invokevirtual 350, 3) := dc_182 (by decide +kernel)
theorem d_MO_pushOf_6 : decode b_MO_pushOf 6 = .ok (.aload_n 0, 1) := dc_42 (by decide +kernel)
theorem d_MO_pushOf_7 : decode b_MO_pushOf 7 = .ok (.iload_n 1, 1) := dc_27 (by decide +kernel)
theorem d_MO_pushOf_8 : decode b_MO_pushOf 8 = .ok (.iload_n 2, 1) := dc_28 (by decide +kernel)
theorem d_MO_pushOf_9 : decode b_MO_pushOf 9 = .ok (.invokevirtual 338, 3) := dc_182 (by decide +kernel)
theorem d_MO_pushOf_12 : decode b_MO_pushOf 12 = .ok (.if_icmp .ne 5, 3) := dc_160 (by decide +kernel)
theorem d_MO_pushOf_15 : decode b_MO_pushOf 15 = .ok (.iconst 0, 1) := dc_3 (by decide +kernel)
theorem d_MO_pushOf_16 : decode b_MO_pushOf 16 = .ok (.ireturn, 1) := dc_172 (by decide +kernel)
theorem d_MO_pushOf_17 : decode b_MO_pushOf 17 = .ok (.aload_n 0, 1) := dc_42 (by decide +kernel)
theorem d_MO_pushOf_18 : decode b_MO_pushOf 18 = .ok (.iload_n 1, 1) := dc_27 (by decide +kernel)
theorem d_MO_pushOf_19 : decode b_MO_pushOf 19 = .ok (.iload_n 2, 1) := dc_28 (by decide +kernel)
theorem d_MO_pushOf_20 : decode b_MO_pushOf 20 = .ok (.invokevirtual 431, 3) := dc_182 (by decide +kernel)
theorem d_MO_pushOf_23 : decode b_MO_pushOf 23 = .ok (.aload_n 0, 1) := dc_42 (by decide +kernel)
theorem d_MO_pushOf_24 : decode b_MO_pushOf 24 = .ok (.iconst 0, 1) := dc_3 (by decide +kernel)
theorem d_MO_pushOf_25 : decode b_MO_pushOf 25 = .ok (.sipush 999, 3) := dc_17 (by decide +kernel)
theorem d_MO_pushOf_28 : decode b_MO_pushOf 28 = .ok (.iconst 1, 1) := dc_4 (by decide +kernel)
theorem d_MO_pushOf_29 : decode b_MO_pushOf 29 = .ok (.invokevirtual 420, 3) := dc_182 (by decide +kernel)
theorem d_MO_pushOf_32 : decode b_MO_pushOf 32 = .ok (.ireturn, 1) := dc_172 (by decide +kernel)
def t_MO_pushOf (M : Mem) (x1 : Int) (x2 : Int) : Option (Mem × Int) := (obind (t_MO_nextOf M 0 x1) fun q1 => (obind (t_MO_beside M x1 x2) fun q3 => (if q1 = q3 then (some (M, 0)) else (obind (t_MO_callsPush M x1 x2) fun q6 => (obind (t_MO_within q6 0 999 1) fun q8 => (some ((q8.1), (q8.2))))))))
set_option maxHeartbeats 4000000 in
set_option maxRecDepth 100000 in
theorem c_MO_pushOf (l : Launch) {b n : Nat} {C : CT} (hlo : 231 ≤ n) (M : Mem) (x1 : Int) (x2 : Int) (hx1 : InR x1) (hx2 : InR x2) (res : Mem × Int) (hT : t_MO_pushOf M x1 x2 = some res) : CM l b C n 4 y_MO_pushOf b_MO_pushOf 3 (some .int) [.ref (b + 191), vI x1, vI x2] M (QI b C n res.1 res.2) := by
  refine CM.of (lo := 231) (ow := "WardFallsModel") (by decide) rfl (Nat.le_of_ble_eq_true rfl) hlo (fun p e s m below meth c F hlk hr hS ls hl => ?_)
  have hl : lv_has ls 3 [(0, .ref (b + 191)), (1, vI x1), (2, vI x2)] := hl
  unfold t_MO_pushOf at hT
  refine lv_aload_n F.hx F.hb d_MO_pushOf_0 rfl (lv_at hl 0 rfl) ?_
  refine r_iconst F.hx F.hb d_MO_pushOf_1 ?_
  refine lv_iload_n F.hx F.hb d_MO_pushOf_2 rfl (lv_at hl 1 rfl) ?_
  obtain ⟨q1, hq1, hT⟩ := q_obind hT
  refine r_backI F hS (r_runV (k := 191) (N := 68) (T := T1) (As := [vI 0, vI x1]) F hS (show 191 < 231 by decide) (show shK 191 = 5 from rfl) rfl (c_MO_nextOf l F.2.2.1 M 0 x1 (inr_c rfl) hx1 _ hq1) gs_MO_350 hd_MO_nextOf ⟨Nat.le_of_ble_eq_true rfl, Nat.le_of_ble_eq_true rfl⟩ rfl hl.1 (Nat.le_of_ble_eq_true rfl) ⟨Nat.zero_le _, Nat.zero_le _⟩ rfl d_MO_pushOf_3) (fun H locs hS h2 => ?_)
  refine lv_aload_n F.hx F.hb d_MO_pushOf_6 rfl (lv_at hl 0 rfl) ?_
  refine lv_iload_n F.hx F.hb d_MO_pushOf_7 rfl (lv_at hl 1 rfl) ?_
  refine lv_iload_n F.hx F.hb d_MO_pushOf_8 rfl (lv_at hl 2 rfl) ?_
  obtain ⟨q3, hq3, hT⟩ := q_obind hT
  refine r_backI F hS (r_runV (k := 191) (N := 68) (T := T1) (As := [vI x1, vI x2]) F hS (show 191 < 231 by decide) (show shK 191 = 5 from rfl) rfl (c_MO_beside l F.2.2.1 M x1 x2 hx1 hx2 _ hq3) gs_MO_338 hd_MO_beside ⟨Nat.le_of_ble_eq_true rfl, Nat.le_of_ble_eq_true rfl⟩ rfl hl.1 (Nat.le_of_ble_eq_true rfl) ⟨Nat.zero_le _, Nat.zero_le _⟩ rfl d_MO_pushOf_9) (fun H locs hS h4 => ?_)
  refine r_icmp_ne (tgt := 17) F.hx F.hb h2 h4 d_MO_pushOf_12 (by decide) (fun c5 => ?_) (fun c5 => ?_)
  · replace hT := (if_neg c5).symm.trans hT
    refine lv_aload_n F.hx F.hb d_MO_pushOf_17 rfl (lv_at hl 0 rfl) ?_
    refine lv_iload_n F.hx F.hb d_MO_pushOf_18 rfl (lv_at hl 1 rfl) ?_
    refine lv_iload_n F.hx F.hb d_MO_pushOf_19 rfl (lv_at hl 2 rfl) ?_
    obtain ⟨q6, hq6, hT⟩ := q_obind hT
    refine r_backV F hS (r_runV (k := 191) (N := 68) (T := T1) (As := [vI x1, vI x2]) F hS (show 191 < 231 by decide) (show shK 191 = 5 from rfl) rfl (c_MO_callsPush l F.2.2.1 M x1 x2 hx1 hx2 _ hq6) gs_MO_431 hd_MO_callsPush ⟨Nat.le_of_ble_eq_true rfl, Nat.le_of_ble_eq_true rfl⟩ rfl hl.1 (Nat.le_of_ble_eq_true rfl) ⟨Nat.zero_le _, Nat.zero_le _⟩ rfl d_MO_pushOf_20) (fun H locs hS => ?_)
    refine lv_aload_n F.hx F.hb d_MO_pushOf_23 rfl (lv_at hl 0 rfl) ?_
    refine r_iconst F.hx F.hb d_MO_pushOf_24 ?_
    refine r_sipush F.hx F.hb d_MO_pushOf_25 rfl ?_
    refine r_iconst F.hx F.hb d_MO_pushOf_28 ?_
    obtain ⟨q8, hq8, hT⟩ := q_obind hT
    refine r_backI F hS (r_runV (k := 191) (N := 68) (T := T1) (As := [vI 0, vI 999, vI 1]) F hS (show 191 < 231 by decide) (show shK 191 = 5 from rfl) rfl (c_MO_within l F.2.2.1 q6 0 999 1 (inr_c rfl) (inr_c rfl) (inr_c rfl) _ hq8) gs_MO_420 hd_MO_within ⟨Nat.le_of_ble_eq_true rfl, Nat.le_of_ble_eq_true rfl⟩ rfl hl.1 (Nat.le_of_ble_eq_true rfl) ⟨Nat.zero_le _, Nat.zero_le _⟩ rfl d_MO_pushOf_29) (fun H locs hS h9 => ?_)
    cases hT
    exact r_iret F hlk hr rfl hS h9 d_MO_pushOf_32
  · replace hT := (if_pos c5).symm.trans hT
    refine r_iconst F.hx F.hb d_MO_pushOf_15 ?_
    cases hT
    exact r_iret F hlk hr rfl hS (inr_c rfl) d_MO_pushOf_16
theorem wn_MO_layPush_0 : ∀ i, i < 95 → bA b_MO_layPush (0 + i) = wB [3, 61, 28, 16, 48, 162, 0, 45, 42, 180, 0, 115, 28, 28, 27, 160, 0, 7, 3, 167, 0, 6, 19, 1, 202, 79, 42, 180, 0, 112, 28, 28, 27, 160, 0, 7, 3, 167, 0, 6, 19, 1, 202, 79, 132, 2, 1, 167, 255, 211, 4, 61, 28, 153, 0, 174, 3, 61, 3, 62, 29, 42, 182, 1, 73, 162, 0, 159, 3, 54, 4, 21, 4, 7, 162, 0, 144, 42, 180, 0, 28, 29, 51, 154, 0, 135, 42, 29, 21, 4, 182, 1, 82, 54, 5] i := wB_of (by decide +kernel)
theorem d_MO_layPush_0 : decode b_MO_layPush 0 = .ok (.iconst 0, 1) := dc_3 (q0_win (r := 0) wn_MO_layPush_0 (by decide +kernel))
theorem d_MO_layPush_1 : decode b_MO_layPush 1 = .ok (.istore_n 2, 1) := dc_61 (q0_win (r := 1) wn_MO_layPush_0 (by decide +kernel))
theorem d_MO_layPush_2 : decode b_MO_layPush 2 = .ok (.iload_n 2, 1) := dc_28 (q0_win (r := 2) wn_MO_layPush_0 (by decide +kernel))
theorem d_MO_layPush_3 : decode b_MO_layPush 3 = .ok (.bipush 48, 2) := dc_16 (qS1_win (r := 3) wn_MO_layPush_0 (by decide +kernel))
theorem d_MO_layPush_5 : decode b_MO_layPush 5 = .ok (.if_icmp .ge 45, 3) := dc_162 (qS2_win (r := 5) wn_MO_layPush_0 (by decide +kernel))
theorem d_MO_layPush_8 : decode b_MO_layPush 8 = .ok (.aload_n 0, 1) := dc_42 (q0_win (r := 8) wn_MO_layPush_0 (by decide +kernel))
theorem d_MO_layPush_9 : decode b_MO_layPush 9 = .ok (.getfield 115, 3) := dc_180 (qU2_win (r := 9) wn_MO_layPush_0 (by decide +kernel))
theorem d_MO_layPush_12 : decode b_MO_layPush 12 = .ok (.iload_n 2, 1) := dc_28 (q0_win (r := 12) wn_MO_layPush_0 (by decide +kernel))
theorem d_MO_layPush_13 : decode b_MO_layPush 13 = .ok (.iload_n 2, 1) := dc_28 (q0_win (r := 13) wn_MO_layPush_0 (by decide +kernel))
theorem d_MO_layPush_14 : decode b_MO_layPush 14 = .ok (.iload_n 1, 1) := dc_27 (q0_win (r := 14) wn_MO_layPush_0 (by decide +kernel))
theorem d_MO_layPush_15 : decode b_MO_layPush 15 = .ok (.if_icmp .ne 7, 3) := dc_160 (qS2_win (r := 15) wn_MO_layPush_0 (by decide +kernel))
theorem d_MO_layPush_18 : decode b_MO_layPush 18 = .ok (.iconst 0, 1) := dc_3 (q0_win (r := 18) wn_MO_layPush_0 (by decide +kernel))
theorem d_MO_layPush_19 : decode b_MO_layPush 19 = .ok (.goto 6, 3) := dc_167 (qS2_win (r := 19) wn_MO_layPush_0 (by decide +kernel))
theorem d_MO_layPush_22 : decode b_MO_layPush 22 = .ok (.ldc_w 458, 3) := dc_19 (qU2_win (r := 22) wn_MO_layPush_0 (by decide +kernel))
theorem d_MO_layPush_25 : decode b_MO_layPush 25 = .ok (.iastore, 1) := dc_79 (q0_win (r := 25) wn_MO_layPush_0 (by decide +kernel))
theorem d_MO_layPush_26 : decode b_MO_layPush 26 = .ok (.aload_n 0, 1) := dc_42 (q0_win (r := 26) wn_MO_layPush_0 (by decide +kernel))
theorem d_MO_layPush_27 : decode b_MO_layPush 27 = .ok (.getfield 112, 3) := dc_180 (qU2_win (r := 27) wn_MO_layPush_0 (by decide +kernel))
theorem d_MO_layPush_30 : decode b_MO_layPush 30 = .ok (.iload_n 2, 1) := dc_28 (q0_win (r := 30) wn_MO_layPush_0 (by decide +kernel))
theorem d_MO_layPush_31 : decode b_MO_layPush 31 = .ok (.iload_n 2, 1) := dc_28 (q0_win (r := 31) wn_MO_layPush_0 (by decide +kernel))
theorem d_MO_layPush_32 : decode b_MO_layPush 32 = .ok (.iload_n 1, 1) := dc_27 (q0_win (r := 32) wn_MO_layPush_0 (by decide +kernel))
theorem d_MO_layPush_33 : decode b_MO_layPush 33 = .ok (.if_icmp .ne 7, 3) := dc_160 (qS2_win (r := 33) wn_MO_layPush_0 (by decide +kernel))
theorem d_MO_layPush_36 : decode b_MO_layPush 36 = .ok (.iconst 0, 1) := dc_3 (q0_win (r := 36) wn_MO_layPush_0 (by decide +kernel))
theorem d_MO_layPush_37 : decode b_MO_layPush 37 = .ok (.goto 6, 3) := dc_167 (qS2_win (r := 37) wn_MO_layPush_0 (by decide +kernel))
theorem d_MO_layPush_40 : decode b_MO_layPush 40 = .ok (.ldc_w 458, 3) := dc_19 (qU2_win (r := 40) wn_MO_layPush_0 (by decide +kernel))
theorem d_MO_layPush_43 : decode b_MO_layPush 43 = .ok (.iastore, 1) := dc_79 (q0_win (r := 43) wn_MO_layPush_0 (by decide +kernel))
theorem d_MO_layPush_44 : decode b_MO_layPush 44 = .ok (.iinc 2 1, 3) := dc_132 (qI_win (r := 44) wn_MO_layPush_0 (by decide +kernel))
theorem d_MO_layPush_47 : decode b_MO_layPush 47 = .ok (.goto (-45), 3) := dc_167 (qS2_win (r := 47) wn_MO_layPush_0 (by decide +kernel))
theorem d_MO_layPush_50 : decode b_MO_layPush 50 = .ok (.iconst 1, 1) := dc_4 (q0_win (r := 50) wn_MO_layPush_0 (by decide +kernel))
theorem d_MO_layPush_51 : decode b_MO_layPush 51 = .ok (.istore_n 2, 1) := dc_61 (q0_win (r := 51) wn_MO_layPush_0 (by decide +kernel))
theorem d_MO_layPush_52 : decode b_MO_layPush 52 = .ok (.iload_n 2, 1) := dc_28 (q0_win (r := 52) wn_MO_layPush_0 (by decide +kernel))
theorem d_MO_layPush_53 : decode b_MO_layPush 53 = .ok (.ifCond .eq 174, 3) := dc_153 (qS2_win (r := 53) wn_MO_layPush_0 (by decide +kernel))
theorem d_MO_layPush_56 : decode b_MO_layPush 56 = .ok (.iconst 0, 1) := dc_3 (q0_win (r := 56) wn_MO_layPush_0 (by decide +kernel))
theorem d_MO_layPush_57 : decode b_MO_layPush 57 = .ok (.istore_n 2, 1) := dc_61 (q0_win (r := 57) wn_MO_layPush_0 (by decide +kernel))
theorem d_MO_layPush_58 : decode b_MO_layPush 58 = .ok (.iconst 0, 1) := dc_3 (q0_win (r := 58) wn_MO_layPush_0 (by decide +kernel))
theorem d_MO_layPush_59 : decode b_MO_layPush 59 = .ok (.istore_n 3, 1) := dc_62 (q0_win (r := 59) wn_MO_layPush_0 (by decide +kernel))
theorem d_MO_layPush_60 : decode b_MO_layPush 60 = .ok (.iload_n 3, 1) := dc_29 (q0_win (r := 60) wn_MO_layPush_0 (by decide +kernel))
theorem d_MO_layPush_61 : decode b_MO_layPush 61 = .ok (.aload_n 0, 1) := dc_42 (q0_win (r := 61) wn_MO_layPush_0 (by decide +kernel))
theorem d_MO_layPush_62 : decode b_MO_layPush 62 = .ok (.invokevirtual 329, 3) := dc_182 (qU2_win (r := 62) wn_MO_layPush_0 (by decide +kernel))
theorem d_MO_layPush_65 : decode b_MO_layPush 65 = .ok (.if_icmp .ge 159, 3) := dc_162 (qS2_win (r := 65) wn_MO_layPush_0 (by decide +kernel))
theorem d_MO_layPush_68 : decode b_MO_layPush 68 = .ok (.iconst 0, 1) := dc_3 (q0_win (r := 68) wn_MO_layPush_0 (by decide +kernel))
theorem d_MO_layPush_69 : decode b_MO_layPush 69 = .ok (.istore 4, 2) := dc_54 (qU1_win (r := 69) wn_MO_layPush_0 (by decide +kernel))
theorem d_MO_layPush_71 : decode b_MO_layPush 71 = .ok (.iload 4, 2) := dc_21 (qU1_win (r := 71) wn_MO_layPush_0 (by decide +kernel))
theorem d_MO_layPush_73 : decode b_MO_layPush 73 = .ok (.iconst 4, 1) := dc_7 (q0_win (r := 73) wn_MO_layPush_0 (by decide +kernel))
theorem d_MO_layPush_74 : decode b_MO_layPush 74 = .ok (.if_icmp .ge 144, 3) := dc_162 (qS2_win (r := 74) wn_MO_layPush_0 (by decide +kernel))
theorem d_MO_layPush_77 : decode b_MO_layPush 77 = .ok (.aload_n 0, 1) := dc_42 (q0_win (r := 77) wn_MO_layPush_0 (by decide +kernel))
theorem d_MO_layPush_78 : decode b_MO_layPush 78 = .ok (.getfield 28, 3) := dc_180 (qU2_win (r := 78) wn_MO_layPush_0 (by decide +kernel))
theorem d_MO_layPush_81 : decode b_MO_layPush 81 = .ok (.iload_n 3, 1) := dc_29 (q0_win (r := 81) wn_MO_layPush_0 (by decide +kernel))
theorem d_MO_layPush_82 : decode b_MO_layPush 82 = .ok (.baload, 1) := dc_51 (q0_win (r := 82) wn_MO_layPush_0 (by decide +kernel))
theorem d_MO_layPush_83 : decode b_MO_layPush 83 = .ok (.ifCond .ne 135, 3) := dc_154 (qS2_win (r := 83) wn_MO_layPush_0 (by decide +kernel))
theorem d_MO_layPush_86 : decode b_MO_layPush 86 = .ok (.aload_n 0, 1) := dc_42 (q0_win (r := 86) wn_MO_layPush_0 (by decide +kernel))
theorem d_MO_layPush_87 : decode b_MO_layPush 87 = .ok (.iload_n 3, 1) := dc_29 (q0_win (r := 87) wn_MO_layPush_0 (by decide +kernel))
theorem d_MO_layPush_88 : decode b_MO_layPush 88 = .ok (.iload 4, 2) := dc_21 (qU1_win (r := 88) wn_MO_layPush_0 (by decide +kernel))
theorem d_MO_layPush_90 : decode b_MO_layPush 90 = .ok (.invokevirtual 338, 3) := dc_182 (qU2_win (r := 90) wn_MO_layPush_0 (by decide +kernel))
theorem d_MO_layPush_93 : decode b_MO_layPush 93 = .ok (.istore 5, 2) := dc_54 (qU1_win (r := 93) wn_MO_layPush_0 (by decide +kernel))
theorem wn_MO_layPush_95 : ∀ i, i < 96 → bA b_MO_layPush (95 + i) = wB [21, 5, 2, 159, 0, 114, 42, 180, 0, 28, 21, 5, 51, 154, 0, 104, 42, 180, 0, 115, 21, 5, 46, 19, 1, 202, 161, 0, 6, 167, 0, 88, 42, 180, 0, 115, 21, 5, 46, 42, 29, 21, 4, 182, 1, 212, 96, 54, 6, 21, 6, 42, 180, 0, 115, 29, 46, 163, 0, 60, 21, 6, 42, 180, 0, 115, 29, 46, 160, 0, 24, 42, 180, 0, 112, 21, 5, 46, 4, 96, 42, 180, 0, 112, 29, 46, 161, 0, 6, 167, 0, 28, 42, 180, 0, 115] i := wB_of (by decide +kernel)
theorem d_MO_layPush_95 : decode b_MO_layPush 95 = .ok (.iload 5, 2) := dc_21 (qU1_win (r := 0) wn_MO_layPush_95 (by decide +kernel))
theorem d_MO_layPush_97 : decode b_MO_layPush 97 = .ok (.iconst (-1), 1) := dc_2 (q0_win (r := 2) wn_MO_layPush_95 (by decide +kernel))
theorem d_MO_layPush_98 : decode b_MO_layPush 98 = .ok (.if_icmp .eq 114, 3) := dc_159 (qS2_win (r := 3) wn_MO_layPush_95 (by decide +kernel))
theorem d_MO_layPush_101 : decode b_MO_layPush 101 = .ok (.aload_n 0, 1) := dc_42 (q0_win (r := 6) wn_MO_layPush_95 (by decide +kernel))
theorem d_MO_layPush_102 : decode b_MO_layPush 102 = .ok (.getfield 28, 3) := dc_180 (qU2_win (r := 7) wn_MO_layPush_95 (by decide +kernel))
theorem d_MO_layPush_105 : decode b_MO_layPush 105 = .ok (.iload 5, 2) := dc_21 (qU1_win (r := 10) wn_MO_layPush_95 (by decide +kernel))
theorem d_MO_layPush_107 : decode b_MO_layPush 107 = .ok (.baload, 1) := dc_51 (q0_win (r := 12) wn_MO_layPush_95 (by decide +kernel))
theorem d_MO_layPush_108 : decode b_MO_layPush 108 = .ok (.ifCond .ne 104, 3) := dc_154 (qS2_win (r := 13) wn_MO_layPush_95 (by decide +kernel))
theorem d_MO_layPush_111 : decode b_MO_layPush 111 = .ok (.aload_n 0, 1) := dc_42 (q0_win (r := 16) wn_MO_layPush_95 (by decide +kernel))
theorem d_MO_layPush_112 : decode b_MO_layPush 112 = .ok (.getfield 115, 3) := dc_180 (qU2_win (r := 17) wn_MO_layPush_95 (by decide +kernel))
theorem d_MO_layPush_115 : decode b_MO_layPush 115 = .ok (.iload 5, 2) := dc_21 (qU1_win (r := 20) wn_MO_layPush_95 (by decide +kernel))
theorem d_MO_layPush_117 : decode b_MO_layPush 117 = .ok (.iaload, 1) := dc_46 (q0_win (r := 22) wn_MO_layPush_95 (by decide +kernel))
theorem d_MO_layPush_118 : decode b_MO_layPush 118 = .ok (.ldc_w 458, 3) := dc_19 (qU2_win (r := 23) wn_MO_layPush_95 (by decide +kernel))
theorem d_MO_layPush_121 : decode b_MO_layPush 121 = .ok (.if_icmp .lt 6, 3) := dc_161 (qS2_win (r := 26) wn_MO_layPush_95 (by decide +kernel))
theorem d_MO_layPush_124 : decode b_MO_layPush 124 = .ok (.goto 88, 3) := dc_167 (qS2_win (r := 29) wn_MO_layPush_95 (by decide +kernel))
theorem d_MO_layPush_127 : decode b_MO_layPush 127 = .ok (.aload_n 0, 1) := dc_42 (q0_win (r := 32) wn_MO_layPush_95 (by decide +kernel))
theorem d_MO_layPush_128 : decode b_MO_layPush 128 = .ok (.getfield 115, 3) := dc_180 (qU2_win (r := 33) wn_MO_layPush_95 (by decide +kernel))
theorem d_MO_layPush_131 : decode b_MO_layPush 131 = .ok (.iload 5, 2) := dc_21 (qU1_win (r := 36) wn_MO_layPush_95 (by decide +kernel))
theorem d_MO_layPush_133 : decode b_MO_layPush 133 = .ok (.iaload, 1) := dc_46 (q0_win (r := 38) wn_MO_layPush_95 (by decide +kernel))
theorem d_MO_layPush_134 : decode b_MO_layPush 134 = .ok (.aload_n 0, 1) := dc_42 (q0_win (r := 39) wn_MO_layPush_95 (by decide +kernel))
theorem d_MO_layPush_135 : decode b_MO_layPush 135 = .ok (.iload_n 3, 1) := dc_29 (q0_win (r := 40) wn_MO_layPush_95 (by decide +kernel))
theorem d_MO_layPush_136 : decode b_MO_layPush 136 = .ok (.iload 4, 2) := dc_21 (qU1_win (r := 41) wn_MO_layPush_95 (by decide +kernel))
theorem d_MO_layPush_138 : decode b_MO_layPush 138 = .ok (.invokevirtual 468, 3) := dc_182 (qU2_win (r := 43) wn_MO_layPush_95 (by decide +kernel))
theorem d_MO_layPush_141 : decode b_MO_layPush 141 = .ok (.iadd, 1) := dc_96 (q0_win (r := 46) wn_MO_layPush_95 (by decide +kernel))
theorem d_MO_layPush_142 : decode b_MO_layPush 142 = .ok (.istore 6, 2) := dc_54 (qU1_win (r := 47) wn_MO_layPush_95 (by decide +kernel))
theorem d_MO_layPush_144 : decode b_MO_layPush 144 = .ok (.iload 6, 2) := dc_21 (qU1_win (r := 49) wn_MO_layPush_95 (by decide +kernel))
theorem d_MO_layPush_146 : decode b_MO_layPush 146 = .ok (.aload_n 0, 1) := dc_42 (q0_win (r := 51) wn_MO_layPush_95 (by decide +kernel))
theorem d_MO_layPush_147 : decode b_MO_layPush 147 = .ok (.getfield 115, 3) := dc_180 (qU2_win (r := 52) wn_MO_layPush_95 (by decide +kernel))
theorem d_MO_layPush_150 : decode b_MO_layPush 150 = .ok (.iload_n 3, 1) := dc_29 (q0_win (r := 55) wn_MO_layPush_95 (by decide +kernel))
theorem d_MO_layPush_151 : decode b_MO_layPush 151 = .ok (.iaload, 1) := dc_46 (q0_win (r := 56) wn_MO_layPush_95 (by decide +kernel))
theorem d_MO_layPush_152 : decode b_MO_layPush 152 = .ok (.if_icmp .gt 60, 3) := dc_163 (qS2_win (r := 57) wn_MO_layPush_95 (by decide +kernel))
theorem d_MO_layPush_155 : decode b_MO_layPush 155 = .ok (.iload 6, 2) := dc_21 (qU1_win (r := 60) wn_MO_layPush_95 (by decide +kernel))
theorem d_MO_layPush_157 : decode b_MO_layPush 157 = .ok (.aload_n 0, 1) := dc_42 (q0_win (r := 62) wn_MO_layPush_95 (by decide +kernel))
theorem d_MO_layPush_158 : decode b_MO_layPush 158 = .ok (.getfield 115, 3) := dc_180 (qU2_win (r := 63) wn_MO_layPush_95 (by decide +kernel))
theorem d_MO_layPush_161 : decode b_MO_layPush 161 = .ok (.iload_n 3, 1) := dc_29 (q0_win (r := 66) wn_MO_layPush_95 (by decide +kernel))
theorem d_MO_layPush_162 : decode b_MO_layPush 162 = .ok (.iaload, 1) := dc_46 (q0_win (r := 67) wn_MO_layPush_95 (by decide +kernel))
theorem d_MO_layPush_163 : decode b_MO_layPush 163 = .ok (.if_icmp .ne 24, 3) := dc_160 (qS2_win (r := 68) wn_MO_layPush_95 (by decide +kernel))
theorem d_MO_layPush_166 : decode b_MO_layPush 166 = .ok (.aload_n 0, 1) := dc_42 (q0_win (r := 71) wn_MO_layPush_95 (by decide +kernel))
theorem d_MO_layPush_167 : decode b_MO_layPush 167 = .ok (.getfield 112, 3) := dc_180 (qU2_win (r := 72) wn_MO_layPush_95 (by decide +kernel))
theorem d_MO_layPush_170 : decode b_MO_layPush 170 = .ok (.iload 5, 2) := dc_21 (qU1_win (r := 75) wn_MO_layPush_95 (by decide +kernel))
theorem d_MO_layPush_172 : decode b_MO_layPush 172 = .ok (.iaload, 1) := dc_46 (q0_win (r := 77) wn_MO_layPush_95 (by decide +kernel))
theorem d_MO_layPush_173 : decode b_MO_layPush 173 = .ok (.iconst 1, 1) := dc_4 (q0_win (r := 78) wn_MO_layPush_95 (by decide +kernel))
theorem d_MO_layPush_174 : decode b_MO_layPush 174 = .ok (.iadd, 1) := dc_96 (q0_win (r := 79) wn_MO_layPush_95 (by decide +kernel))
theorem d_MO_layPush_175 : decode b_MO_layPush 175 = .ok (.aload_n 0, 1) := dc_42 (q0_win (r := 80) wn_MO_layPush_95 (by decide +kernel))
theorem d_MO_layPush_176 : decode b_MO_layPush 176 = .ok (.getfield 112, 3) := dc_180 (qU2_win (r := 81) wn_MO_layPush_95 (by decide +kernel))
theorem d_MO_layPush_179 : decode b_MO_layPush 179 = .ok (.iload_n 3, 1) := dc_29 (q0_win (r := 84) wn_MO_layPush_95 (by decide +kernel))
theorem d_MO_layPush_180 : decode b_MO_layPush 180 = .ok (.iaload, 1) := dc_46 (q0_win (r := 85) wn_MO_layPush_95 (by decide +kernel))
theorem d_MO_layPush_181 : decode b_MO_layPush 181 = .ok (.if_icmp .lt 6, 3) := dc_161 (qS2_win (r := 86) wn_MO_layPush_95 (by decide +kernel))
theorem d_MO_layPush_184 : decode b_MO_layPush 184 = .ok (.goto 28, 3) := dc_167 (qS2_win (r := 89) wn_MO_layPush_95 (by decide +kernel))
theorem d_MO_layPush_187 : decode b_MO_layPush 187 = .ok (.aload_n 0, 1) := dc_42 (q0_win (r := 92) wn_MO_layPush_95 (by decide +kernel))
theorem d_MO_layPush_188 : decode b_MO_layPush 188 = .ok (.getfield 115, 3) := dc_180 (qU2_win (r := 93) wn_MO_layPush_95 (by decide +kernel))
theorem wn_MO_layPush_191 : ∀ i, i < 37 → bA b_MO_layPush (191 + i) = wB [29, 21, 6, 79, 42, 180, 0, 112, 29, 42, 180, 0, 112, 21, 5, 46, 4, 96, 79, 4, 61, 132, 4, 1, 167, 255, 112, 132, 3, 1, 167, 255, 95, 167, 255, 84, 177] i := wB_of (by decide +kernel)
theorem d_MO_layPush_191 : decode b_MO_layPush 191 = .ok (.iload_n 3, 1) := dc_29 (q0_win (r := 0) wn_MO_layPush_191 (by decide +kernel))
theorem d_MO_layPush_192 : decode b_MO_layPush 192 = .ok (.iload 6, 2) := dc_21 (qU1_win (r := 1) wn_MO_layPush_191 (by decide +kernel))
theorem d_MO_layPush_194 : decode b_MO_layPush 194 = .ok (.iastore, 1) := dc_79 (q0_win (r := 3) wn_MO_layPush_191 (by decide +kernel))
theorem d_MO_layPush_195 : decode b_MO_layPush 195 = .ok (.aload_n 0, 1) := dc_42 (q0_win (r := 4) wn_MO_layPush_191 (by decide +kernel))
theorem d_MO_layPush_196 : decode b_MO_layPush 196 = .ok (.getfield 112, 3) := dc_180 (qU2_win (r := 5) wn_MO_layPush_191 (by decide +kernel))
theorem d_MO_layPush_199 : decode b_MO_layPush 199 = .ok (.iload_n 3, 1) := dc_29 (q0_win (r := 8) wn_MO_layPush_191 (by decide +kernel))
theorem d_MO_layPush_200 : decode b_MO_layPush 200 = .ok (.aload_n 0, 1) := dc_42 (q0_win (r := 9) wn_MO_layPush_191 (by decide +kernel))
theorem d_MO_layPush_201 : decode b_MO_layPush 201 = .ok (.getfield 112, 3) := dc_180 (qU2_win (r := 10) wn_MO_layPush_191 (by decide +kernel))
theorem d_MO_layPush_204 : decode b_MO_layPush 204 = .ok (.iload 5, 2) := dc_21 (qU1_win (r := 13) wn_MO_layPush_191 (by decide +kernel))
theorem d_MO_layPush_206 : decode b_MO_layPush 206 = .ok (.iaload, 1) := dc_46 (q0_win (r := 15) wn_MO_layPush_191 (by decide +kernel))
theorem d_MO_layPush_207 : decode b_MO_layPush 207 = .ok (.iconst 1, 1) := dc_4 (q0_win (r := 16) wn_MO_layPush_191 (by decide +kernel))
theorem d_MO_layPush_208 : decode b_MO_layPush 208 = .ok (.iadd, 1) := dc_96 (q0_win (r := 17) wn_MO_layPush_191 (by decide +kernel))
theorem d_MO_layPush_209 : decode b_MO_layPush 209 = .ok (.iastore, 1) := dc_79 (q0_win (r := 18) wn_MO_layPush_191 (by decide +kernel))
theorem d_MO_layPush_210 : decode b_MO_layPush 210 = .ok (.iconst 1, 1) := dc_4 (q0_win (r := 19) wn_MO_layPush_191 (by decide +kernel))
theorem d_MO_layPush_211 : decode b_MO_layPush 211 = .ok (.istore_n 2, 1) := dc_61 (q0_win (r := 20) wn_MO_layPush_191 (by decide +kernel))
theorem d_MO_layPush_212 : decode b_MO_layPush 212 = .ok (.iinc 4 1, 3) := dc_132 (qI_win (r := 21) wn_MO_layPush_191 (by decide +kernel))
theorem d_MO_layPush_215 : decode b_MO_layPush 215 = .ok (.goto (-144), 3) := dc_167 (qS2_win (r := 24) wn_MO_layPush_191 (by decide +kernel))
theorem d_MO_layPush_218 : decode b_MO_layPush 218 = .ok (.iinc 3 1, 3) := dc_132 (qI_win (r := 27) wn_MO_layPush_191 (by decide +kernel))
theorem d_MO_layPush_221 : decode b_MO_layPush 221 = .ok (.goto (-161), 3) := dc_167 (qS2_win (r := 30) wn_MO_layPush_191 (by decide +kernel))
theorem d_MO_layPush_224 : decode b_MO_layPush 224 = .ok (.goto (-172), 3) := dc_167 (qS2_win (r := 33) wn_MO_layPush_191 (by decide +kernel))
theorem d_MO_layPush_227 : decode b_MO_layPush 227 = .ok (.return_, 1) := dc_177 (q0_win (r := 36) wn_MO_layPush_191 (by decide +kernel))
def t_MO_layPush_L43 (x1 : Int) (bk2 : Mem → Int → Option (Mem)) (M : Mem) (v2_ : Int) (v4_ : Int) (v5_ : Int) : Option (Mem) := (qguard (0 ≤ v4_ ∧ v4_ < 48) (qlet (setI M 222 v4_ v5_) fun M11 => (bk2 M11 (w32 (v2_ + 1)))))
def t_MO_layPush_L25 (x1 : Int) (bk2 : Mem → Int → Option (Mem)) (M : Mem) (v2_ : Int) (v4_ : Int) (v5_ : Int) : Option (Mem) := (qguard (0 ≤ v4_ ∧ v4_ < 48) (qlet (setI M 223 v4_ v5_) fun M5 => (if v2_ = x1 then (t_MO_layPush_L43 x1 bk2 M5 v2_ v2_ 0) else (t_MO_layPush_L43 x1 bk2 M5 v2_ v2_ 1000000))))
def t_MO_layPush_L212 (x1 : Int) (bk52 : Mem → Int → Option (Mem)) (bk60 : Mem → Int → Int → Option (Mem)) (bk71 : Mem → Int → Int → Int → Option (Mem)) (M : Mem) (v1_ : Int) (v2_ : Int) (v3_ : Int) : Option (Mem) := (bk71 M v1_ v2_ (w32 (v3_ + 1)))
def t_MO_layPush_L187 (x1 : Int) (bk52 : Mem → Int → Option (Mem)) (bk60 : Mem → Int → Int → Option (Mem)) (bk71 : Mem → Int → Int → Int → Option (Mem)) (M : Mem) (v1_ : Int) (v2_ : Int) (v3_ : Int) (v4_ : Int) : Option (Mem) := (qguard (0 ≤ v1_ ∧ v1_ < 48) (qlet (setI M 223 v1_ v4_) fun M41 => (qguard (0 ≤ v3_ ∧ v3_ < 48) (qguard (0 ≤ v1_ ∧ v1_ < 48) (qlet (setI M41 222 v1_ (w32 ((M41.1 222 v3_) + 1))) fun M45 => (t_MO_layPush_L212 x1 bk52 bk60 bk71 M45 1 v1_ v2_))))))
def t_MO_layPush_L218 (x1 : Int) (bk52 : Mem → Int → Option (Mem)) (bk60 : Mem → Int → Int → Option (Mem)) (M : Mem) (v1_ : Int) (v2_ : Int) : Option (Mem) := (bk60 M v1_ (w32 (v2_ + 1)))
def t_MO_layPush_L71 (x1 : Int) (bk52 : Mem → Int → Option (Mem)) (bk60 : Mem → Int → Int → Option (Mem)) : Nat → Mem → Int → Int → Int → Option (Mem)
  | 0, _, _, _, _ => none
  | fu + 1, M, v1_, v2_, v3_ => (if 4 ≤ v3_ then (t_MO_layPush_L218 x1 bk52 bk60 M v1_ v2_) else (qguard (0 ≤ v2_ ∧ v2_ < 96) (if (M.1 198 v2_) = 0 then (obind (t_MO_beside M v2_ v3_) fun q16 => (if q16 = (-1) then (t_MO_layPush_L212 x1 bk52 bk60 (fun a0_ a1_ a2_ a3_ => t_MO_layPush_L71 x1 bk52 bk60 fu a0_ a1_ a2_ a3_) M v1_ v2_ v3_) else (qguard (0 ≤ q16 ∧ q16 < 96) (if (M.1 198 q16) = 0 then (qguard (0 ≤ q16 ∧ q16 < 48) (if (M.1 223 q16) < 1000000 then (qguard (0 ≤ q16 ∧ q16 < 48) (obind (t_MO_pushOf M v2_ v3_) fun q27 => (qguard (0 ≤ v2_ ∧ v2_ < 48) (if ((q27.1).1 223 v2_) < (w32 ((M.1 223 q16) + (q27.2))) then (t_MO_layPush_L212 x1 bk52 bk60 (fun a0_ a1_ a2_ a3_ => t_MO_layPush_L71 x1 bk52 bk60 fu a0_ a1_ a2_ a3_) (q27.1) v1_ v2_ v3_) else (qguard (0 ≤ v2_ ∧ v2_ < 48) (if (w32 ((M.1 223 q16) + (q27.2))) = ((q27.1).1 223 v2_) then (qguard (0 ≤ q16 ∧ q16 < 48) (qguard (0 ≤ v2_ ∧ v2_ < 48) (if (w32 (((q27.1).1 222 q16) + 1)) < ((q27.1).1 222 v2_) then (t_MO_layPush_L187 x1 bk52 bk60 (fun a0_ a1_ a2_ a3_ => t_MO_layPush_L71 x1 bk52 bk60 fu a0_ a1_ a2_ a3_) (q27.1) v2_ v3_ q16 (w32 ((M.1 223 q16) + (q27.2)))) else (t_MO_layPush_L212 x1 bk52 bk60 (fun a0_ a1_ a2_ a3_ => t_MO_layPush_L71 x1 bk52 bk60 fu a0_ a1_ a2_ a3_) (q27.1) v1_ v2_ v3_)))) else (t_MO_layPush_L187 x1 bk52 bk60 (fun a0_ a1_ a2_ a3_ => t_MO_layPush_L71 x1 bk52 bk60 fu a0_ a1_ a2_ a3_) (q27.1) v2_ v3_ q16 (w32 ((M.1 223 q16) + (q27.2)))))))))) else (t_MO_layPush_L212 x1 bk52 bk60 (fun a0_ a1_ a2_ a3_ => t_MO_layPush_L71 x1 bk52 bk60 fu a0_ a1_ a2_ a3_) M v1_ v2_ v3_))) else (t_MO_layPush_L212 x1 bk52 bk60 (fun a0_ a1_ a2_ a3_ => t_MO_layPush_L71 x1 bk52 bk60 fu a0_ a1_ a2_ a3_) M v1_ v2_ v3_))))) else (t_MO_layPush_L218 x1 bk52 bk60 M v1_ v2_))))
def t_MO_layPush_L60 (x1 : Int) (bk52 : Mem → Int → Option (Mem)) : Nat → Mem → Int → Int → Option (Mem)
  | 0, _, _, _ => none
  | fu + 1, M, v1_, v2_ => (qlet (t_MO_cells M) fun q7 => (if q7 ≤ v2_ then (bk52 M v1_) else (t_MO_layPush_L71 x1 bk52 (fun a0_ a1_ a2_ => t_MO_layPush_L60 x1 bk52 fu a0_ a1_ a2_) FU M v1_ v2_ 0)))
def t_MO_layPush_L52 (x1 : Int)  : Nat → Mem → Int → Option (Mem)
  | 0, _, _ => none
  | fu + 1, M, v1_ => (if v1_ = 0 then (some M) else (t_MO_layPush_L60 x1 (fun a0_ a1_ => t_MO_layPush_L52 x1 fu a0_ a1_) FU M 0 0))
def t_MO_layPush_L2 (x1 : Int)  : Nat → Mem → Int → Option (Mem)
  | 0, _, _ => none
  | fu + 1, M, v2_ => (if 48 ≤ v2_ then (t_MO_layPush_L52 x1 FU M 1) else (if v2_ = x1 then (t_MO_layPush_L25 x1 (fun a0_ a1_ => t_MO_layPush_L2 x1 fu a0_ a1_) M v2_ v2_ 0) else (t_MO_layPush_L25 x1 (fun a0_ a1_ => t_MO_layPush_L2 x1 fu a0_ a1_) M v2_ v2_ 1000000)))
def t_MO_layPush (M : Mem) (x1 : Int) : Option (Mem) := (t_MO_layPush_L2 x1 FU M 0)
set_option maxHeartbeats 4000000 in
set_option maxRecDepth 100000 in
theorem k_MO_layPush_L43 (l : Launch) {p : Program} {e : Env} {s : State} {m : MethodId} {below : List Frame} {meth : Method} {c : Code} {b n : Nat} {C : CT} (hlo : 231 ≤ n) (x1 : Int) (hx1 : InR x1) (F : Cx b p m c b_MO_layPush 7 s ([.ref (b + 191), vI x1] : List Value).toArray "WardFallsModel" C n 231) (hlk : meth.locks = false) (hr : meth.sig.returnType = none) {res : Mem} (bk2 : Mem → Int → Option (Mem)) (hbk2 : ∀ (M : Mem) (v2_ : Int) (hv2_ : InR v2_) (H : Heap) (locs : List Loc) (ls : Array Slot), St b C n M s H locs → lv_has ls 7 [(0, .ref (b + 191)), (1, vI x1), (2, vI v2_)] → bk2 M v2_ = some res → W p l e (headSpec (wsM y_MO_layPush b_MO_layPush 7 (none)) (rmD 5)).room s m ([.ref (b + 191), vI x1] : List Value).toArray below meth c H locs 0 0 (MQ below (QV b C n res) ([.ref (b + 191), vI x1] : List Value).toArray s 0 0 (frb b)) (F0 m 2 ls [])) (M : Mem) (v2_ : Int) (hv2_ : InR v2_) (v4_ : Int) (hv4_ : InR v4_) (v5_ : Int) (hv5_ : InR v5_) (H : Heap) (locs : List Loc) (ls : Array Slot) (hS : St b C n M s H locs) (hl : lv_has ls 7 [(0, .ref (b + 191)), (1, vI x1), (2, vI v2_)]) (hT : t_MO_layPush_L43 x1 bk2 M v2_ v4_ v5_ = some res) : W p l e (headSpec (wsM y_MO_layPush b_MO_layPush 7 (none)) (rmD 5)).room s m ([.ref (b + 191), vI x1] : List Value).toArray below meth c H locs 0 0 (MQ below (QV b C n res) ([.ref (b + 191), vI x1] : List Value).toArray s 0 0 (frb b)) (F0 m 43 ls [vI v5_, vI v4_, .ref (b + 222)]) := by
  unfold t_MO_layPush_L43 at hT
  obtain ⟨⟨g10a, g10b⟩, hT⟩ := q_guard hT
  refine r_iast F hS (show 222 < 231 by decide) (show shK 222 = 0 from rfl) (show shN 222 = 48 from rfl) hv4_ hv5_ g10a g10b d_MO_layPush_43 (fun H locs hS => ?_)
  obtain ⟨M11, eM11⟩ : ∃ q, q = (setI M 222 v4_ v5_) := ⟨_, rfl⟩
  replace hS : St b C n M11 s H locs := by rw [eM11]; exact hS
  replace hT := qlet_eq hT eM11
  refine lv_iinc (v := Int32.ofInt (w32 (v2_ + 1))) (lv' := [(2, vI (w32 (v2_ + 1))), (0, .ref (b + 191)), (1, vI x1)]) F.hx F.hb d_MO_layPush_44 hl (k := 2) rfl (q_of_add _ _) (Nat.le_of_ble_eq_true rfl) rfl (fun ls hl => ?_)
  refine lv_goto (tgt := 2) F.hx F.hb d_MO_layPush_47 (by decide) ?_
  exact hbk2 M11 (w32 (v2_ + 1)) (inr_w32 _) _ _ _ hS (lv_sub hl [1, 2, 0] rfl) hT
set_option maxHeartbeats 4000000 in
set_option maxRecDepth 100000 in
theorem k_MO_layPush_L25 (l : Launch) {p : Program} {e : Env} {s : State} {m : MethodId} {below : List Frame} {meth : Method} {c : Code} {b n : Nat} {C : CT} (hlo : 231 ≤ n) (x1 : Int) (hx1 : InR x1) (F : Cx b p m c b_MO_layPush 7 s ([.ref (b + 191), vI x1] : List Value).toArray "WardFallsModel" C n 231) (hlk : meth.locks = false) (hr : meth.sig.returnType = none) {res : Mem} (bk2 : Mem → Int → Option (Mem)) (hbk2 : ∀ (M : Mem) (v2_ : Int) (hv2_ : InR v2_) (H : Heap) (locs : List Loc) (ls : Array Slot), St b C n M s H locs → lv_has ls 7 [(0, .ref (b + 191)), (1, vI x1), (2, vI v2_)] → bk2 M v2_ = some res → W p l e (headSpec (wsM y_MO_layPush b_MO_layPush 7 (none)) (rmD 5)).room s m ([.ref (b + 191), vI x1] : List Value).toArray below meth c H locs 0 0 (MQ below (QV b C n res) ([.ref (b + 191), vI x1] : List Value).toArray s 0 0 (frb b)) (F0 m 2 ls [])) (M : Mem) (v2_ : Int) (hv2_ : InR v2_) (v4_ : Int) (hv4_ : InR v4_) (v5_ : Int) (hv5_ : InR v5_) (H : Heap) (locs : List Loc) (ls : Array Slot) (hS : St b C n M s H locs) (hl : lv_has ls 7 [(0, .ref (b + 191)), (1, vI x1), (2, vI v2_)]) (hT : t_MO_layPush_L25 x1 bk2 M v2_ v4_ v5_ = some res) : W p l e (headSpec (wsM y_MO_layPush b_MO_layPush 7 (none)) (rmD 5)).room s m ([.ref (b + 191), vI x1] : List Value).toArray below meth c H locs 0 0 (MQ below (QV b C n res) ([.ref (b + 191), vI x1] : List Value).toArray s 0 0 (frb b)) (F0 m 25 ls [vI v5_, vI v4_, .ref (b + 223)]) := by
  unfold t_MO_layPush_L25 at hT
  obtain ⟨⟨g4a, g4b⟩, hT⟩ := q_guard hT
  refine r_iast F hS (show 223 < 231 by decide) (show shK 223 = 0 from rfl) (show shN 223 = 48 from rfl) hv4_ hv5_ g4a g4b d_MO_layPush_25 (fun H locs hS => ?_)
  obtain ⟨M5, eM5⟩ : ∃ q, q = (setI M 223 v4_ v5_) := ⟨_, rfl⟩
  replace hS : St b C n M5 s H locs := by rw [eM5]; exact hS
  replace hT := qlet_eq hT eM5
  refine lv_aload_n F.hx F.hb d_MO_layPush_26 rfl (lv_at hl 0 rfl) ?_
  refine r_get (v := .ref (b + 222)) (N := 68) (T := T1) (j := 55) F hS (show 191 < 231 by decide) (show shK 191 = 5 from rfl) (show shN 191 = 68 from rfl) rfl (Nat.le_of_ble_eq_true rfl) ing1 mw_1444 (fv_sg rfl rfl rfl) d_MO_layPush_27 ?_
  refine lv_iload_n F.hx F.hb d_MO_layPush_30 rfl (lv_at hl 2 rfl) ?_
  refine lv_iload_n F.hx F.hb d_MO_layPush_31 rfl (lv_at hl 2 rfl) ?_
  refine lv_iload_n F.hx F.hb d_MO_layPush_32 rfl (lv_at hl 1 rfl) ?_
  refine r_icmp_ne (tgt := 40) F.hx F.hb hv2_ hx1 d_MO_layPush_33 (by decide) (fun c6 => ?_) (fun c6 => ?_)
  · replace hT := (if_neg c6).symm.trans hT
    refine lv_ldcw (v := Int32.ofInt 1000000) F.hx F.hb F.hown (F.hts mw_1943) d_MO_layPush_40 ?_
    exact k_MO_layPush_L43 l hlo x1 hx1 F hlk hr bk2 hbk2 M5 v2_ hv2_ v2_ hv2_ 1000000 (inr_c rfl) _ _ _ hS (lv_sub hl [0, 1, 2] rfl) hT
  · replace hT := (if_pos c6).symm.trans hT
    refine r_iconst F.hx F.hb d_MO_layPush_36 ?_
    refine lv_goto (tgt := 43) F.hx F.hb d_MO_layPush_37 (by decide) ?_
    exact k_MO_layPush_L43 l hlo x1 hx1 F hlk hr bk2 hbk2 M5 v2_ hv2_ v2_ hv2_ 0 (inr_c rfl) _ _ _ hS (lv_sub hl [0, 1, 2] rfl) hT
set_option maxHeartbeats 4000000 in
set_option maxRecDepth 100000 in
theorem k_MO_layPush_L212 (l : Launch) {p : Program} {e : Env} {s : State} {m : MethodId} {below : List Frame} {meth : Method} {c : Code} {b n : Nat} {C : CT} (hlo : 231 ≤ n) (x1 : Int) (hx1 : InR x1) (F : Cx b p m c b_MO_layPush 7 s ([.ref (b + 191), vI x1] : List Value).toArray "WardFallsModel" C n 231) (hlk : meth.locks = false) (hr : meth.sig.returnType = none) {res : Mem} (bk52 : Mem → Int → Option (Mem)) (hbk52 : ∀ (M : Mem) (v1_ : Int) (hv1_ : v1_ = 0 ∨ v1_ = 1) (H : Heap) (locs : List Loc) (ls : Array Slot), St b C n M s H locs → lv_has ls 7 [(0, .ref (b + 191)), (2, vI v1_)] → bk52 M v1_ = some res → W p l e (headSpec (wsM y_MO_layPush b_MO_layPush 7 (none)) (rmD 5)).room s m ([.ref (b + 191), vI x1] : List Value).toArray below meth c H locs 0 0 (MQ below (QV b C n res) ([.ref (b + 191), vI x1] : List Value).toArray s 0 0 (frb b)) (F0 m 52 ls [])) (bk60 : Mem → Int → Int → Option (Mem)) (hbk60 : ∀ (M : Mem) (v1_ : Int) (hv1_ : v1_ = 0 ∨ v1_ = 1) (v2_ : Int) (hv2_ : InR v2_) (H : Heap) (locs : List Loc) (ls : Array Slot), St b C n M s H locs → lv_has ls 7 [(0, .ref (b + 191)), (2, vI v1_), (3, vI v2_)] → bk60 M v1_ v2_ = some res → W p l e (headSpec (wsM y_MO_layPush b_MO_layPush 7 (none)) (rmD 5)).room s m ([.ref (b + 191), vI x1] : List Value).toArray below meth c H locs 0 0 (MQ below (QV b C n res) ([.ref (b + 191), vI x1] : List Value).toArray s 0 0 (frb b)) (F0 m 60 ls [])) (bk71 : Mem → Int → Int → Int → Option (Mem)) (hbk71 : ∀ (M : Mem) (v1_ : Int) (hv1_ : v1_ = 0 ∨ v1_ = 1) (v2_ : Int) (hv2_ : InR v2_) (v3_ : Int) (hv3_ : InR v3_) (H : Heap) (locs : List Loc) (ls : Array Slot), St b C n M s H locs → lv_has ls 7 [(0, .ref (b + 191)), (2, vI v1_), (3, vI v2_), (4, vI v3_)] → bk71 M v1_ v2_ v3_ = some res → W p l e (headSpec (wsM y_MO_layPush b_MO_layPush 7 (none)) (rmD 5)).room s m ([.ref (b + 191), vI x1] : List Value).toArray below meth c H locs 0 0 (MQ below (QV b C n res) ([.ref (b + 191), vI x1] : List Value).toArray s 0 0 (frb b)) (F0 m 71 ls [])) (M : Mem) (v1_ : Int) (hv1_ : v1_ = 0 ∨ v1_ = 1) (v2_ : Int) (hv2_ : InR v2_) (v3_ : Int) (hv3_ : InR v3_) (H : Heap) (locs : List Loc) (ls : Array Slot) (hS : St b C n M s H locs) (hl : lv_has ls 7 [(0, .ref (b + 191)), (2, vI v1_), (3, vI v2_), (4, vI v3_)]) (hT : t_MO_layPush_L212 x1 bk52 bk60 bk71 M v1_ v2_ v3_ = some res) : W p l e (headSpec (wsM y_MO_layPush b_MO_layPush 7 (none)) (rmD 5)).room s m ([.ref (b + 191), vI x1] : List Value).toArray below meth c H locs 0 0 (MQ below (QV b C n res) ([.ref (b + 191), vI x1] : List Value).toArray s 0 0 (frb b)) (F0 m 212 ls []) := by
  unfold t_MO_layPush_L212 at hT
  refine lv_iinc (v := Int32.ofInt (w32 (v3_ + 1))) (lv' := [(4, vI (w32 (v3_ + 1))), (0, .ref (b + 191)), (2, vI v1_), (3, vI v2_)]) F.hx F.hb d_MO_layPush_212 hl (k := 3) rfl (q_of_add _ _) (Nat.le_of_ble_eq_true rfl) rfl (fun ls hl => ?_)
  refine lv_goto (tgt := 71) F.hx F.hb d_MO_layPush_215 (by decide) ?_
  exact hbk71 M v1_ hv1_ v2_ hv2_ (w32 (v3_ + 1)) (inr_w32 _) _ _ _ hS (lv_sub hl [1, 2, 3, 0] rfl) hT
set_option maxHeartbeats 4000000 in
set_option maxRecDepth 100000 in
theorem k_MO_layPush_L187 (l : Launch) {p : Program} {e : Env} {s : State} {m : MethodId} {below : List Frame} {meth : Method} {c : Code} {b n : Nat} {C : CT} (hlo : 231 ≤ n) (x1 : Int) (hx1 : InR x1) (F : Cx b p m c b_MO_layPush 7 s ([.ref (b + 191), vI x1] : List Value).toArray "WardFallsModel" C n 231) (hlk : meth.locks = false) (hr : meth.sig.returnType = none) {res : Mem} (bk52 : Mem → Int → Option (Mem)) (hbk52 : ∀ (M : Mem) (v1_ : Int) (hv1_ : v1_ = 0 ∨ v1_ = 1) (H : Heap) (locs : List Loc) (ls : Array Slot), St b C n M s H locs → lv_has ls 7 [(0, .ref (b + 191)), (2, vI v1_)] → bk52 M v1_ = some res → W p l e (headSpec (wsM y_MO_layPush b_MO_layPush 7 (none)) (rmD 5)).room s m ([.ref (b + 191), vI x1] : List Value).toArray below meth c H locs 0 0 (MQ below (QV b C n res) ([.ref (b + 191), vI x1] : List Value).toArray s 0 0 (frb b)) (F0 m 52 ls [])) (bk60 : Mem → Int → Int → Option (Mem)) (hbk60 : ∀ (M : Mem) (v1_ : Int) (hv1_ : v1_ = 0 ∨ v1_ = 1) (v2_ : Int) (hv2_ : InR v2_) (H : Heap) (locs : List Loc) (ls : Array Slot), St b C n M s H locs → lv_has ls 7 [(0, .ref (b + 191)), (2, vI v1_), (3, vI v2_)] → bk60 M v1_ v2_ = some res → W p l e (headSpec (wsM y_MO_layPush b_MO_layPush 7 (none)) (rmD 5)).room s m ([.ref (b + 191), vI x1] : List Value).toArray below meth c H locs 0 0 (MQ below (QV b C n res) ([.ref (b + 191), vI x1] : List Value).toArray s 0 0 (frb b)) (F0 m 60 ls [])) (bk71 : Mem → Int → Int → Int → Option (Mem)) (hbk71 : ∀ (M : Mem) (v1_ : Int) (hv1_ : v1_ = 0 ∨ v1_ = 1) (v2_ : Int) (hv2_ : InR v2_) (v3_ : Int) (hv3_ : InR v3_) (H : Heap) (locs : List Loc) (ls : Array Slot), St b C n M s H locs → lv_has ls 7 [(0, .ref (b + 191)), (2, vI v1_), (3, vI v2_), (4, vI v3_)] → bk71 M v1_ v2_ v3_ = some res → W p l e (headSpec (wsM y_MO_layPush b_MO_layPush 7 (none)) (rmD 5)).room s m ([.ref (b + 191), vI x1] : List Value).toArray below meth c H locs 0 0 (MQ below (QV b C n res) ([.ref (b + 191), vI x1] : List Value).toArray s 0 0 (frb b)) (F0 m 71 ls [])) (M : Mem) (v1_ : Int) (hv1_ : InR v1_) (v2_ : Int) (hv2_ : InR v2_) (v3_ : Int) (hv3_ : InR v3_) (v4_ : Int) (hv4_ : InR v4_) (H : Heap) (locs : List Loc) (ls : Array Slot) (hS : St b C n M s H locs) (hl : lv_has ls 7 [(0, .ref (b + 191)), (3, vI v1_), (4, vI v2_), (5, vI v3_), (6, vI v4_)]) (hT : t_MO_layPush_L187 x1 bk52 bk60 bk71 M v1_ v2_ v3_ v4_ = some res) : W p l e (headSpec (wsM y_MO_layPush b_MO_layPush 7 (none)) (rmD 5)).room s m ([.ref (b + 191), vI x1] : List Value).toArray below meth c H locs 0 0 (MQ below (QV b C n res) ([.ref (b + 191), vI x1] : List Value).toArray s 0 0 (frb b)) (F0 m 187 ls []) := by
  unfold t_MO_layPush_L187 at hT
  refine lv_aload_n F.hx F.hb d_MO_layPush_187 rfl (lv_at hl 0 rfl) ?_
  refine r_get (v := .ref (b + 223)) (N := 68) (T := T1) (j := 56) F hS (show 191 < 231 by decide) (show shK 191 = 5 from rfl) (show shN 191 = 68 from rfl) rfl (Nat.le_of_ble_eq_true rfl) ing1 mw_1445 (fv_sg rfl rfl rfl) d_MO_layPush_188 ?_
  refine lv_iload_n F.hx F.hb d_MO_layPush_191 rfl (lv_at hl 1 rfl) ?_
  refine lv_iload F.hx F.hb d_MO_layPush_192 (lv_at hl 4 rfl) ?_
  obtain ⟨⟨g40a, g40b⟩, hT⟩ := q_guard hT
  refine r_iast F hS (show 223 < 231 by decide) (show shK 223 = 0 from rfl) (show shN 223 = 48 from rfl) hv1_ hv4_ g40a g40b d_MO_layPush_194 (fun H locs hS => ?_)
  obtain ⟨M41, eM41⟩ : ∃ q, q = (setI M 223 v1_ v4_) := ⟨_, rfl⟩
  replace hS : St b C n M41 s H locs := by rw [eM41]; exact hS
  replace hT := qlet_eq hT eM41
  refine lv_aload_n F.hx F.hb d_MO_layPush_195 rfl (lv_at hl 0 rfl) ?_
  refine r_get (v := .ref (b + 222)) (N := 68) (T := T1) (j := 55) F hS (show 191 < 231 by decide) (show shK 191 = 5 from rfl) (show shN 191 = 68 from rfl) rfl (Nat.le_of_ble_eq_true rfl) ing1 mw_1444 (fv_sg rfl rfl rfl) d_MO_layPush_196 ?_
  refine lv_iload_n F.hx F.hb d_MO_layPush_199 rfl (lv_at hl 1 rfl) ?_
  refine lv_aload_n F.hx F.hb d_MO_layPush_200 rfl (lv_at hl 0 rfl) ?_
  refine r_get (v := .ref (b + 222)) (N := 68) (T := T1) (j := 55) F hS (show 191 < 231 by decide) (show shK 191 = 5 from rfl) (show shN 191 = 68 from rfl) rfl (Nat.le_of_ble_eq_true rfl) ing1 mw_1444 (fv_sg rfl rfl rfl) d_MO_layPush_201 ?_
  refine lv_iload F.hx F.hb d_MO_layPush_204 (lv_at hl 3 rfl) ?_
  obtain ⟨⟨g42a, g42b⟩, hT⟩ := q_guard hT
  refine r_iald F hS (show 222 < 231 by decide) (show shK 222 = 0 from rfl) (show shN 222 = 48 from rfl) hv3_ g42a g42b d_MO_layPush_206 ?_
  have i43 := hS.rng 222 v3_
  refine r_iconst F.hx F.hb d_MO_layPush_207 ?_
  refine r_iadd F.hx F.hb d_MO_layPush_208 ?_
  obtain ⟨⟨g44a, g44b⟩, hT⟩ := q_guard hT
  refine r_iast F hS (show 222 < 231 by decide) (show shK 222 = 0 from rfl) (show shN 222 = 48 from rfl) hv1_ (inr_w32 _) g44a g44b d_MO_layPush_209 (fun H locs hS => ?_)
  obtain ⟨M45, eM45⟩ : ∃ q, q = (setI M41 222 v1_ (w32 ((M41.1 222 v3_) + 1))) := ⟨_, rfl⟩
  replace hS : St b C n M45 s H locs := by rw [eM45]; exact hS
  replace hT := qlet_eq hT eM45
  refine r_iconst F.hx F.hb d_MO_layPush_210 ?_
  refine lv_istore_n (lv' := [(2, vI 1), (0, .ref (b + 191)), (3, vI v1_), (4, vI v2_), (5, vI v3_), (6, vI v4_)]) F.hx F.hb d_MO_layPush_211 rfl hl (Nat.le_of_ble_eq_true rfl) rfl (fun ls hl => ?_)
  exact k_MO_layPush_L212 l hlo x1 hx1 F hlk hr bk52 hbk52 bk60 hbk60 bk71 hbk71 M45 1 (Or.inr rfl) v1_ hv1_ v2_ hv2_ _ _ _ hS (lv_sub hl [1, 0, 2, 3] rfl) hT
set_option maxHeartbeats 4000000 in
set_option maxRecDepth 100000 in
theorem k_MO_layPush_L218 (l : Launch) {p : Program} {e : Env} {s : State} {m : MethodId} {below : List Frame} {meth : Method} {c : Code} {b n : Nat} {C : CT} (hlo : 231 ≤ n) (x1 : Int) (hx1 : InR x1) (F : Cx b p m c b_MO_layPush 7 s ([.ref (b + 191), vI x1] : List Value).toArray "WardFallsModel" C n 231) (hlk : meth.locks = false) (hr : meth.sig.returnType = none) {res : Mem} (bk52 : Mem → Int → Option (Mem)) (hbk52 : ∀ (M : Mem) (v1_ : Int) (hv1_ : v1_ = 0 ∨ v1_ = 1) (H : Heap) (locs : List Loc) (ls : Array Slot), St b C n M s H locs → lv_has ls 7 [(0, .ref (b + 191)), (2, vI v1_)] → bk52 M v1_ = some res → W p l e (headSpec (wsM y_MO_layPush b_MO_layPush 7 (none)) (rmD 5)).room s m ([.ref (b + 191), vI x1] : List Value).toArray below meth c H locs 0 0 (MQ below (QV b C n res) ([.ref (b + 191), vI x1] : List Value).toArray s 0 0 (frb b)) (F0 m 52 ls [])) (bk60 : Mem → Int → Int → Option (Mem)) (hbk60 : ∀ (M : Mem) (v1_ : Int) (hv1_ : v1_ = 0 ∨ v1_ = 1) (v2_ : Int) (hv2_ : InR v2_) (H : Heap) (locs : List Loc) (ls : Array Slot), St b C n M s H locs → lv_has ls 7 [(0, .ref (b + 191)), (2, vI v1_), (3, vI v2_)] → bk60 M v1_ v2_ = some res → W p l e (headSpec (wsM y_MO_layPush b_MO_layPush 7 (none)) (rmD 5)).room s m ([.ref (b + 191), vI x1] : List Value).toArray below meth c H locs 0 0 (MQ below (QV b C n res) ([.ref (b + 191), vI x1] : List Value).toArray s 0 0 (frb b)) (F0 m 60 ls [])) (M : Mem) (v1_ : Int) (hv1_ : v1_ = 0 ∨ v1_ = 1) (v2_ : Int) (hv2_ : InR v2_) (H : Heap) (locs : List Loc) (ls : Array Slot) (hS : St b C n M s H locs) (hl : lv_has ls 7 [(0, .ref (b + 191)), (2, vI v1_), (3, vI v2_)]) (hT : t_MO_layPush_L218 x1 bk52 bk60 M v1_ v2_ = some res) : W p l e (headSpec (wsM y_MO_layPush b_MO_layPush 7 (none)) (rmD 5)).room s m ([.ref (b + 191), vI x1] : List Value).toArray below meth c H locs 0 0 (MQ below (QV b C n res) ([.ref (b + 191), vI x1] : List Value).toArray s 0 0 (frb b)) (F0 m 218 ls []) := by
  unfold t_MO_layPush_L218 at hT
  refine lv_iinc (v := Int32.ofInt (w32 (v2_ + 1))) (lv' := [(3, vI (w32 (v2_ + 1))), (0, .ref (b + 191)), (2, vI v1_)]) F.hx F.hb d_MO_layPush_218 hl (k := 2) rfl (q_of_add _ _) (Nat.le_of_ble_eq_true rfl) rfl (fun ls hl => ?_)
  refine lv_goto (tgt := 60) F.hx F.hb d_MO_layPush_221 (by decide) ?_
  exact hbk60 M v1_ hv1_ (w32 (v2_ + 1)) (inr_w32 _) _ _ _ hS (lv_sub hl [1, 2, 0] rfl) hT
set_option maxHeartbeats 4000000 in
set_option maxRecDepth 100000 in
theorem k_MO_layPush_L71 (l : Launch) {p : Program} {e : Env} {s : State} {m : MethodId} {below : List Frame} {meth : Method} {c : Code} {b n : Nat} {C : CT} (hlo : 231 ≤ n) (x1 : Int) (hx1 : InR x1) (F : Cx b p m c b_MO_layPush 7 s ([.ref (b + 191), vI x1] : List Value).toArray "WardFallsModel" C n 231) (hlk : meth.locks = false) (hr : meth.sig.returnType = none) {res : Mem} (bk52 : Mem → Int → Option (Mem)) (hbk52 : ∀ (M : Mem) (v1_ : Int) (hv1_ : v1_ = 0 ∨ v1_ = 1) (H : Heap) (locs : List Loc) (ls : Array Slot), St b C n M s H locs → lv_has ls 7 [(0, .ref (b + 191)), (2, vI v1_)] → bk52 M v1_ = some res → W p l e (headSpec (wsM y_MO_layPush b_MO_layPush 7 (none)) (rmD 5)).room s m ([.ref (b + 191), vI x1] : List Value).toArray below meth c H locs 0 0 (MQ below (QV b C n res) ([.ref (b + 191), vI x1] : List Value).toArray s 0 0 (frb b)) (F0 m 52 ls [])) (bk60 : Mem → Int → Int → Option (Mem)) (hbk60 : ∀ (M : Mem) (v1_ : Int) (hv1_ : v1_ = 0 ∨ v1_ = 1) (v2_ : Int) (hv2_ : InR v2_) (H : Heap) (locs : List Loc) (ls : Array Slot), St b C n M s H locs → lv_has ls 7 [(0, .ref (b + 191)), (2, vI v1_), (3, vI v2_)] → bk60 M v1_ v2_ = some res → W p l e (headSpec (wsM y_MO_layPush b_MO_layPush 7 (none)) (rmD 5)).room s m ([.ref (b + 191), vI x1] : List Value).toArray below meth c H locs 0 0 (MQ below (QV b C n res) ([.ref (b + 191), vI x1] : List Value).toArray s 0 0 (frb b)) (F0 m 60 ls [])) : ∀ (fu : Nat) (M : Mem) (v1_ : Int) (hv1_ : v1_ = 0 ∨ v1_ = 1) (v2_ : Int) (hv2_ : InR v2_) (v3_ : Int) (hv3_ : InR v3_) (H : Heap) (locs : List Loc) (ls : Array Slot), St b C n M s H locs → lv_has ls 7 [(0, .ref (b + 191)), (2, vI v1_), (3, vI v2_), (4, vI v3_)] → t_MO_layPush_L71 x1 bk52 bk60 fu M v1_ v2_ v3_ = some res → W p l e (headSpec (wsM y_MO_layPush b_MO_layPush 7 (none)) (rmD 5)).room s m ([.ref (b + 191), vI x1] : List Value).toArray below meth c H locs 0 0 (MQ below (QV b C n res) ([.ref (b + 191), vI x1] : List Value).toArray s 0 0 (frb b)) (F0 m 71 ls []) := by
  intro fu
  induction fu with
  | zero => intro M v1_ hv1_ v2_ hv2_ v3_ hv3_ H locs ls hS hl hT; exact absurd hT (by simp [t_MO_layPush_L71])
  | succ fu ih =>
    intro M v1_ hv1_ v2_ hv2_ v3_ hv3_ H locs ls hS hl hT
    rw [t_MO_layPush_L71] at hT
    refine lv_iload F.hx F.hb d_MO_layPush_71 (lv_at hl 3 rfl) ?_
    refine r_iconst F.hx F.hb d_MO_layPush_73 ?_
    refine r_icmp_ge (tgt := 218) F.hx F.hb hv3_ (inr_c rfl) d_MO_layPush_74 (by decide) (fun c12 => ?_) (fun c12 => ?_)
    · replace hT := (if_pos c12).symm.trans hT
      exact k_MO_layPush_L218 l hlo x1 hx1 F hlk hr bk52 hbk52 bk60 hbk60 M v1_ hv1_ v2_ hv2_ _ _ _ hS (lv_sub hl [0, 1, 2] rfl) hT
    · replace hT := (if_neg c12).symm.trans hT
      refine lv_aload_n F.hx F.hb d_MO_layPush_77 rfl (lv_at hl 0 rfl) ?_
      refine r_get (v := .ref (b + 198)) (N := 68) (T := T1) (j := 8) F hS (show 191 < 231 by decide) (show shK 191 = 5 from rfl) (show shN 191 = 68 from rfl) rfl (Nat.le_of_ble_eq_true rfl) ing1 mw_1397 (fv_sg rfl rfl rfl) d_MO_layPush_78 ?_
      refine lv_iload_n F.hx F.hb d_MO_layPush_81 rfl (lv_at hl 2 rfl) ?_
      obtain ⟨⟨g13a, g13b⟩, hT⟩ := q_guard hT
      have z14 := hS.bool (show shK 198 = 1 from rfl) v2_
      refine r_zald F hS (show 198 < 231 by decide) (show shK 198 = 1 from rfl) (show shN 198 = 96 from rfl) hv2_ g13a g13b d_MO_layPush_82 ?_
      refine r_if_ne (tgt := 218) F.hx F.hb (inr_z z14) d_MO_layPush_83 (by decide) (fun c15 => ?_) (fun c15 => ?_)
      · replace hT := (if_neg c15).symm.trans hT
        exact k_MO_layPush_L218 l hlo x1 hx1 F hlk hr bk52 hbk52 bk60 hbk60 M v1_ hv1_ v2_ hv2_ _ _ _ hS (lv_sub hl [0, 1, 2] rfl) hT
      · replace hT := (if_pos c15).symm.trans hT
        refine lv_aload_n F.hx F.hb d_MO_layPush_86 rfl (lv_at hl 0 rfl) ?_
        refine lv_iload_n F.hx F.hb d_MO_layPush_87 rfl (lv_at hl 2 rfl) ?_
        refine lv_iload F.hx F.hb d_MO_layPush_88 (lv_at hl 3 rfl) ?_
        obtain ⟨q16, hq16, hT⟩ := q_obind hT
        refine r_backI F hS (r_runV (k := 191) (N := 68) (T := T1) (As := [vI v2_, vI v3_]) F hS (show 191 < 231 by decide) (show shK 191 = 5 from rfl) rfl (c_MO_beside l F.2.2.1 M v2_ v3_ hv2_ hv3_ _ hq16) gs_MO_338 hd_MO_beside ⟨Nat.le_of_ble_eq_true rfl, Nat.le_of_ble_eq_true rfl⟩ rfl hl.1 (Nat.le_of_ble_eq_true rfl) ⟨Nat.zero_le _, Nat.zero_le _⟩ rfl d_MO_layPush_90) (fun H locs hS h17 => ?_)
        refine lv_istore (lv' := [(5, vI q16), (0, .ref (b + 191)), (2, vI v1_), (3, vI v2_), (4, vI v3_)]) F.hx F.hb d_MO_layPush_93 hl (Nat.le_of_ble_eq_true rfl) rfl (fun ls hl => ?_)
        refine lv_iload F.hx F.hb d_MO_layPush_95 (lv_at hl 0 rfl) ?_
        refine r_iconst F.hx F.hb d_MO_layPush_97 ?_
        refine r_icmp_eq (tgt := 212) F.hx F.hb h17 (inr_c rfl) d_MO_layPush_98 (by decide) (fun c18 => ?_) (fun c18 => ?_)
        · replace hT := (if_pos c18).symm.trans hT
          exact k_MO_layPush_L212 l hlo x1 hx1 F hlk hr bk52 hbk52 bk60 hbk60 (fun a0_ a1_ a2_ a3_ => t_MO_layPush_L71 x1 bk52 bk60 fu a0_ a1_ a2_ a3_) ih M v1_ hv1_ v2_ hv2_ v3_ hv3_ _ _ _ hS (lv_sub hl [1, 2, 3, 4] rfl) hT
        · replace hT := (if_neg c18).symm.trans hT
          refine lv_aload_n F.hx F.hb d_MO_layPush_101 rfl (lv_at hl 1 rfl) ?_
          refine r_get (v := .ref (b + 198)) (N := 68) (T := T1) (j := 8) F hS (show 191 < 231 by decide) (show shK 191 = 5 from rfl) (show shN 191 = 68 from rfl) rfl (Nat.le_of_ble_eq_true rfl) ing1 mw_1397 (fv_sg rfl rfl rfl) d_MO_layPush_102 ?_
          refine lv_iload F.hx F.hb d_MO_layPush_105 (lv_at hl 0 rfl) ?_
          obtain ⟨⟨g19a, g19b⟩, hT⟩ := q_guard hT
          have z20 := hS.bool (show shK 198 = 1 from rfl) q16
          refine r_zald F hS (show 198 < 231 by decide) (show shK 198 = 1 from rfl) (show shN 198 = 96 from rfl) h17 g19a g19b d_MO_layPush_107 ?_
          refine r_if_ne (tgt := 212) F.hx F.hb (inr_z z20) d_MO_layPush_108 (by decide) (fun c21 => ?_) (fun c21 => ?_)
          · replace hT := (if_neg c21).symm.trans hT
            exact k_MO_layPush_L212 l hlo x1 hx1 F hlk hr bk52 hbk52 bk60 hbk60 (fun a0_ a1_ a2_ a3_ => t_MO_layPush_L71 x1 bk52 bk60 fu a0_ a1_ a2_ a3_) ih M v1_ hv1_ v2_ hv2_ v3_ hv3_ _ _ _ hS (lv_sub hl [1, 2, 3, 4] rfl) hT
          · replace hT := (if_pos c21).symm.trans hT
            refine lv_aload_n F.hx F.hb d_MO_layPush_111 rfl (lv_at hl 1 rfl) ?_
            refine r_get (v := .ref (b + 223)) (N := 68) (T := T1) (j := 56) F hS (show 191 < 231 by decide) (show shK 191 = 5 from rfl) (show shN 191 = 68 from rfl) rfl (Nat.le_of_ble_eq_true rfl) ing1 mw_1445 (fv_sg rfl rfl rfl) d_MO_layPush_112 ?_
            refine lv_iload F.hx F.hb d_MO_layPush_115 (lv_at hl 0 rfl) ?_
            obtain ⟨⟨g22a, g22b⟩, hT⟩ := q_guard hT
            refine r_iald F hS (show 223 < 231 by decide) (show shK 223 = 0 from rfl) (show shN 223 = 48 from rfl) h17 g22a g22b d_MO_layPush_117 ?_
            have i23 := hS.rng 223 q16
            refine lv_ldcw (v := Int32.ofInt 1000000) F.hx F.hb F.hown (F.hts mw_1943) d_MO_layPush_118 ?_
            refine r_icmp_lt (tgt := 127) F.hx F.hb i23 (inr_c rfl) d_MO_layPush_121 (by decide) (fun c24 => ?_) (fun c24 => ?_)
            · replace hT := (if_pos c24).symm.trans hT
              refine lv_aload_n F.hx F.hb d_MO_layPush_127 rfl (lv_at hl 1 rfl) ?_
              refine r_get (v := .ref (b + 223)) (N := 68) (T := T1) (j := 56) F hS (show 191 < 231 by decide) (show shK 191 = 5 from rfl) (show shN 191 = 68 from rfl) rfl (Nat.le_of_ble_eq_true rfl) ing1 mw_1445 (fv_sg rfl rfl rfl) d_MO_layPush_128 ?_
              refine lv_iload F.hx F.hb d_MO_layPush_131 (lv_at hl 0 rfl) ?_
              obtain ⟨⟨g25a, g25b⟩, hT⟩ := q_guard hT
              refine r_iald F hS (show 223 < 231 by decide) (show shK 223 = 0 from rfl) (show shN 223 = 48 from rfl) h17 g25a g25b d_MO_layPush_133 ?_
              have i26 := hS.rng 223 q16
              refine lv_aload_n F.hx F.hb d_MO_layPush_134 rfl (lv_at hl 1 rfl) ?_
              refine lv_iload_n F.hx F.hb d_MO_layPush_135 rfl (lv_at hl 3 rfl) ?_
              refine lv_iload F.hx F.hb d_MO_layPush_136 (lv_at hl 4 rfl) ?_
              obtain ⟨q27, hq27, hT⟩ := q_obind hT
              refine r_backI F hS (r_runV (k := 191) (N := 68) (T := T1) (As := [vI v2_, vI v3_]) F hS (show 191 < 231 by decide) (show shK 191 = 5 from rfl) rfl (c_MO_pushOf l F.2.2.1 M v2_ v3_ hv2_ hv3_ _ hq27) gs_MO_468 hd_MO_pushOf ⟨Nat.le_of_ble_eq_true rfl, Nat.le_of_ble_eq_true rfl⟩ rfl hl.1 (Nat.le_of_ble_eq_true rfl) ⟨Nat.zero_le _, Nat.zero_le _⟩ rfl d_MO_layPush_138) (fun H locs hS h28 => ?_)
              refine r_iadd F.hx F.hb d_MO_layPush_141 ?_
              refine lv_istore (lv' := [(6, vI (w32 ((M.1 223 q16) + (q27.2)))), (5, vI q16), (0, .ref (b + 191)), (2, vI v1_), (3, vI v2_), (4, vI v3_)]) F.hx F.hb d_MO_layPush_142 hl (Nat.le_of_ble_eq_true rfl) rfl (fun ls hl => ?_)
              refine lv_iload F.hx F.hb d_MO_layPush_144 (lv_at hl 0 rfl) ?_
              refine lv_aload_n F.hx F.hb d_MO_layPush_146 rfl (lv_at hl 2 rfl) ?_
              refine r_get (v := .ref (b + 223)) (N := 68) (T := T1) (j := 56) F hS (show 191 < 231 by decide) (show shK 191 = 5 from rfl) (show shN 191 = 68 from rfl) rfl (Nat.le_of_ble_eq_true rfl) ing1 mw_1445 (fv_sg rfl rfl rfl) d_MO_layPush_147 ?_
              refine lv_iload_n F.hx F.hb d_MO_layPush_150 rfl (lv_at hl 4 rfl) ?_
              obtain ⟨⟨g29a, g29b⟩, hT⟩ := q_guard hT
              refine r_iald F hS (show 223 < 231 by decide) (show shK 223 = 0 from rfl) (show shN 223 = 48 from rfl) hv2_ g29a g29b d_MO_layPush_151 ?_
              have i30 := hS.rng 223 v2_
              refine r_icmp_gt (tgt := 212) F.hx F.hb (inr_w32 _) i30 d_MO_layPush_152 (by decide) (fun c31 => ?_) (fun c31 => ?_)
              · replace hT := (if_pos c31).symm.trans hT
                exact k_MO_layPush_L212 l hlo x1 hx1 F hlk hr bk52 hbk52 bk60 hbk60 (fun a0_ a1_ a2_ a3_ => t_MO_layPush_L71 x1 bk52 bk60 fu a0_ a1_ a2_ a3_) ih (q27.1) v1_ hv1_ v2_ hv2_ v3_ hv3_ _ _ _ hS (lv_sub hl [2, 3, 4, 5] rfl) hT
              · replace hT := (if_neg c31).symm.trans hT
                refine lv_iload F.hx F.hb d_MO_layPush_155 (lv_at hl 0 rfl) ?_
                refine lv_aload_n F.hx F.hb d_MO_layPush_157 rfl (lv_at hl 2 rfl) ?_
                refine r_get (v := .ref (b + 223)) (N := 68) (T := T1) (j := 56) F hS (show 191 < 231 by decide) (show shK 191 = 5 from rfl) (show shN 191 = 68 from rfl) rfl (Nat.le_of_ble_eq_true rfl) ing1 mw_1445 (fv_sg rfl rfl rfl) d_MO_layPush_158 ?_
                refine lv_iload_n F.hx F.hb d_MO_layPush_161 rfl (lv_at hl 4 rfl) ?_
                obtain ⟨⟨g32a, g32b⟩, hT⟩ := q_guard hT
                refine r_iald F hS (show 223 < 231 by decide) (show shK 223 = 0 from rfl) (show shN 223 = 48 from rfl) hv2_ g32a g32b d_MO_layPush_162 ?_
                have i33 := hS.rng 223 v2_
                refine r_icmp_ne (tgt := 187) F.hx F.hb (inr_w32 _) i33 d_MO_layPush_163 (by decide) (fun c34 => ?_) (fun c34 => ?_)
                · replace hT := (if_neg c34).symm.trans hT
                  exact k_MO_layPush_L187 l hlo x1 hx1 F hlk hr bk52 hbk52 bk60 hbk60 (fun a0_ a1_ a2_ a3_ => t_MO_layPush_L71 x1 bk52 bk60 fu a0_ a1_ a2_ a3_) ih (q27.1) v2_ hv2_ v3_ hv3_ q16 h17 (w32 ((M.1 223 q16) + (q27.2))) (inr_w32 _) _ _ _ hS (lv_sub hl [2, 4, 5, 1, 0] rfl) hT
                · replace hT := (if_pos c34).symm.trans hT
                  refine lv_aload_n F.hx F.hb d_MO_layPush_166 rfl (lv_at hl 2 rfl) ?_
                  refine r_get (v := .ref (b + 222)) (N := 68) (T := T1) (j := 55) F hS (show 191 < 231 by decide) (show shK 191 = 5 from rfl) (show shN 191 = 68 from rfl) rfl (Nat.le_of_ble_eq_true rfl) ing1 mw_1444 (fv_sg rfl rfl rfl) d_MO_layPush_167 ?_
                  refine lv_iload F.hx F.hb d_MO_layPush_170 (lv_at hl 1 rfl) ?_
                  obtain ⟨⟨g35a, g35b⟩, hT⟩ := q_guard hT
                  refine r_iald F hS (show 222 < 231 by decide) (show shK 222 = 0 from rfl) (show shN 222 = 48 from rfl) h17 g35a g35b d_MO_layPush_172 ?_
                  have i36 := hS.rng 222 q16
                  refine r_iconst F.hx F.hb d_MO_layPush_173 ?_
                  refine r_iadd F.hx F.hb d_MO_layPush_174 ?_
                  refine lv_aload_n F.hx F.hb d_MO_layPush_175 rfl (lv_at hl 2 rfl) ?_
                  refine r_get (v := .ref (b + 222)) (N := 68) (T := T1) (j := 55) F hS (show 191 < 231 by decide) (show shK 191 = 5 from rfl) (show shN 191 = 68 from rfl) rfl (Nat.le_of_ble_eq_true rfl) ing1 mw_1444 (fv_sg rfl rfl rfl) d_MO_layPush_176 ?_
                  refine lv_iload_n F.hx F.hb d_MO_layPush_179 rfl (lv_at hl 4 rfl) ?_
                  obtain ⟨⟨g37a, g37b⟩, hT⟩ := q_guard hT
                  refine r_iald F hS (show 222 < 231 by decide) (show shK 222 = 0 from rfl) (show shN 222 = 48 from rfl) hv2_ g37a g37b d_MO_layPush_180 ?_
                  have i38 := hS.rng 222 v2_
                  refine r_icmp_lt (tgt := 187) F.hx F.hb (inr_w32 _) i38 d_MO_layPush_181 (by decide) (fun c39 => ?_) (fun c39 => ?_)
                  · replace hT := (if_pos c39).symm.trans hT
                    exact k_MO_layPush_L187 l hlo x1 hx1 F hlk hr bk52 hbk52 bk60 hbk60 (fun a0_ a1_ a2_ a3_ => t_MO_layPush_L71 x1 bk52 bk60 fu a0_ a1_ a2_ a3_) ih (q27.1) v2_ hv2_ v3_ hv3_ q16 h17 (w32 ((M.1 223 q16) + (q27.2))) (inr_w32 _) _ _ _ hS (lv_sub hl [2, 4, 5, 1, 0] rfl) hT
                  · replace hT := (if_neg c39).symm.trans hT
                    refine lv_goto (tgt := 212) F.hx F.hb d_MO_layPush_184 (by decide) ?_
                    exact k_MO_layPush_L212 l hlo x1 hx1 F hlk hr bk52 hbk52 bk60 hbk60 (fun a0_ a1_ a2_ a3_ => t_MO_layPush_L71 x1 bk52 bk60 fu a0_ a1_ a2_ a3_) ih (q27.1) v1_ hv1_ v2_ hv2_ v3_ hv3_ _ _ _ hS (lv_sub hl [2, 3, 4, 5] rfl) hT
            · replace hT := (if_neg c24).symm.trans hT
              refine lv_goto (tgt := 212) F.hx F.hb d_MO_layPush_124 (by decide) ?_
              exact k_MO_layPush_L212 l hlo x1 hx1 F hlk hr bk52 hbk52 bk60 hbk60 (fun a0_ a1_ a2_ a3_ => t_MO_layPush_L71 x1 bk52 bk60 fu a0_ a1_ a2_ a3_) ih M v1_ hv1_ v2_ hv2_ v3_ hv3_ _ _ _ hS (lv_sub hl [1, 2, 3, 4] rfl) hT
set_option maxHeartbeats 4000000 in
set_option maxRecDepth 100000 in
theorem k_MO_layPush_L60 (l : Launch) {p : Program} {e : Env} {s : State} {m : MethodId} {below : List Frame} {meth : Method} {c : Code} {b n : Nat} {C : CT} (hlo : 231 ≤ n) (x1 : Int) (hx1 : InR x1) (F : Cx b p m c b_MO_layPush 7 s ([.ref (b + 191), vI x1] : List Value).toArray "WardFallsModel" C n 231) (hlk : meth.locks = false) (hr : meth.sig.returnType = none) {res : Mem} (bk52 : Mem → Int → Option (Mem)) (hbk52 : ∀ (M : Mem) (v1_ : Int) (hv1_ : v1_ = 0 ∨ v1_ = 1) (H : Heap) (locs : List Loc) (ls : Array Slot), St b C n M s H locs → lv_has ls 7 [(0, .ref (b + 191)), (2, vI v1_)] → bk52 M v1_ = some res → W p l e (headSpec (wsM y_MO_layPush b_MO_layPush 7 (none)) (rmD 5)).room s m ([.ref (b + 191), vI x1] : List Value).toArray below meth c H locs 0 0 (MQ below (QV b C n res) ([.ref (b + 191), vI x1] : List Value).toArray s 0 0 (frb b)) (F0 m 52 ls [])) : ∀ (fu : Nat) (M : Mem) (v1_ : Int) (hv1_ : v1_ = 0 ∨ v1_ = 1) (v2_ : Int) (hv2_ : InR v2_) (H : Heap) (locs : List Loc) (ls : Array Slot), St b C n M s H locs → lv_has ls 7 [(0, .ref (b + 191)), (2, vI v1_), (3, vI v2_)] → t_MO_layPush_L60 x1 bk52 fu M v1_ v2_ = some res → W p l e (headSpec (wsM y_MO_layPush b_MO_layPush 7 (none)) (rmD 5)).room s m ([.ref (b + 191), vI x1] : List Value).toArray below meth c H locs 0 0 (MQ below (QV b C n res) ([.ref (b + 191), vI x1] : List Value).toArray s 0 0 (frb b)) (F0 m 60 ls []) := by
  intro fu
  induction fu with
  | zero => intro M v1_ hv1_ v2_ hv2_ H locs ls hS hl hT; exact absurd hT (by simp [t_MO_layPush_L60])
  | succ fu ih =>
    intro M v1_ hv1_ v2_ hv2_ H locs ls hS hl hT
    rw [t_MO_layPush_L60] at hT
    refine lv_iload_n F.hx F.hb d_MO_layPush_60 rfl (lv_at hl 2 rfl) ?_
    refine lv_aload_n F.hx F.hb d_MO_layPush_61 rfl (lv_at hl 0 rfl) ?_
    obtain ⟨q7, hq7⟩ : ∃ q, q = (t_MO_cells M) := ⟨_, rfl⟩
    replace hT := qlet_eq hT hq7
    refine r_backI F hS (r_runV (k := 191) (N := 68) (T := T1) (As := []) F hS (show 191 < 231 by decide) (show shK 191 = 5 from rfl) rfl (c_MO_cells l F.2.2.1 M _ hq7.symm) gs_MO_329 hd_MO_cells ⟨Nat.le_of_ble_eq_true rfl, Nat.le_of_ble_eq_true rfl⟩ rfl hl.1 (Nat.le_of_ble_eq_true rfl) ⟨Nat.zero_le _, Nat.zero_le _⟩ rfl d_MO_layPush_62) (fun H locs hS h8 => ?_)
    refine r_icmp_ge (tgt := 224) F.hx F.hb hv2_ h8 d_MO_layPush_65 (by decide) (fun c9 => ?_) (fun c9 => ?_)
    · replace hT := (if_pos c9).symm.trans hT
      refine lv_goto (tgt := 52) F.hx F.hb d_MO_layPush_224 (by decide) ?_
      exact hbk52 M v1_ hv1_ _ _ _ hS (lv_sub hl [0, 1] rfl) hT
    · replace hT := (if_neg c9).symm.trans hT
      refine r_iconst F.hx F.hb d_MO_layPush_68 ?_
      refine lv_istore (lv' := [(4, vI 0), (0, .ref (b + 191)), (2, vI v1_), (3, vI v2_)]) F.hx F.hb d_MO_layPush_69 hl (Nat.le_of_ble_eq_true rfl) rfl (fun ls hl => ?_)
      exact k_MO_layPush_L71 l hlo x1 hx1 F hlk hr bk52 hbk52 (fun a0_ a1_ a2_ => t_MO_layPush_L60 x1 bk52 fu a0_ a1_ a2_) ih FU M v1_ hv1_ v2_ hv2_ 0 (inr_c rfl) _ _ _ hS (lv_sub hl [1, 2, 3, 0] rfl) hT
set_option maxHeartbeats 4000000 in
set_option maxRecDepth 100000 in
theorem k_MO_layPush_L52 (l : Launch) {p : Program} {e : Env} {s : State} {m : MethodId} {below : List Frame} {meth : Method} {c : Code} {b n : Nat} {C : CT} (hlo : 231 ≤ n) (x1 : Int) (hx1 : InR x1) (F : Cx b p m c b_MO_layPush 7 s ([.ref (b + 191), vI x1] : List Value).toArray "WardFallsModel" C n 231) (hlk : meth.locks = false) (hr : meth.sig.returnType = none) {res : Mem} : ∀ (fu : Nat) (M : Mem) (v1_ : Int) (hv1_ : v1_ = 0 ∨ v1_ = 1) (H : Heap) (locs : List Loc) (ls : Array Slot), St b C n M s H locs → lv_has ls 7 [(0, .ref (b + 191)), (2, vI v1_)] → t_MO_layPush_L52 x1 fu M v1_ = some res → W p l e (headSpec (wsM y_MO_layPush b_MO_layPush 7 (none)) (rmD 5)).room s m ([.ref (b + 191), vI x1] : List Value).toArray below meth c H locs 0 0 (MQ below (QV b C n res) ([.ref (b + 191), vI x1] : List Value).toArray s 0 0 (frb b)) (F0 m 52 ls []) := by
  intro fu
  induction fu with
  | zero => intro M v1_ hv1_ H locs ls hS hl hT; exact absurd hT (by simp [t_MO_layPush_L52])
  | succ fu ih =>
    intro M v1_ hv1_ H locs ls hS hl hT
    rw [t_MO_layPush_L52] at hT
    refine lv_iload_n F.hx F.hb d_MO_layPush_52 rfl (lv_at hl 1 rfl) ?_
    refine r_if_eq (tgt := 227) F.hx F.hb (inr_z hv1_) d_MO_layPush_53 (by decide) (fun c3 => ?_) (fun c3 => ?_)
    · replace hT := (if_pos c3).symm.trans hT
      cases hT
      exact r_vret F hlk hr hS d_MO_layPush_227
    · replace hT := (if_neg c3).symm.trans hT
      refine r_iconst F.hx F.hb d_MO_layPush_56 ?_
      refine lv_istore_n (lv' := [(2, vI 0), (0, .ref (b + 191))]) F.hx F.hb d_MO_layPush_57 rfl hl (Nat.le_of_ble_eq_true rfl) rfl (fun ls hl => ?_)
      refine r_iconst F.hx F.hb d_MO_layPush_58 ?_
      refine lv_istore_n (lv' := [(3, vI 0), (2, vI 0), (0, .ref (b + 191))]) F.hx F.hb d_MO_layPush_59 rfl hl (Nat.le_of_ble_eq_true rfl) rfl (fun ls hl => ?_)
      exact k_MO_layPush_L60 l hlo x1 hx1 F hlk hr (fun a0_ a1_ => t_MO_layPush_L52 x1 fu a0_ a1_) ih FU M 0 (Or.inl rfl) 0 (inr_c rfl) _ _ _ hS (lv_sub hl [2, 1, 0] rfl) hT
set_option maxHeartbeats 4000000 in
set_option maxRecDepth 100000 in
theorem k_MO_layPush_L2 (l : Launch) {p : Program} {e : Env} {s : State} {m : MethodId} {below : List Frame} {meth : Method} {c : Code} {b n : Nat} {C : CT} (hlo : 231 ≤ n) (x1 : Int) (hx1 : InR x1) (F : Cx b p m c b_MO_layPush 7 s ([.ref (b + 191), vI x1] : List Value).toArray "WardFallsModel" C n 231) (hlk : meth.locks = false) (hr : meth.sig.returnType = none) {res : Mem} : ∀ (fu : Nat) (M : Mem) (v2_ : Int) (hv2_ : InR v2_) (H : Heap) (locs : List Loc) (ls : Array Slot), St b C n M s H locs → lv_has ls 7 [(0, .ref (b + 191)), (1, vI x1), (2, vI v2_)] → t_MO_layPush_L2 x1 fu M v2_ = some res → W p l e (headSpec (wsM y_MO_layPush b_MO_layPush 7 (none)) (rmD 5)).room s m ([.ref (b + 191), vI x1] : List Value).toArray below meth c H locs 0 0 (MQ below (QV b C n res) ([.ref (b + 191), vI x1] : List Value).toArray s 0 0 (frb b)) (F0 m 2 ls []) := by
  intro fu
  induction fu with
  | zero => intro M v2_ hv2_ H locs ls hS hl hT; exact absurd hT (by simp [t_MO_layPush_L2])
  | succ fu ih =>
    intro M v2_ hv2_ H locs ls hS hl hT
    rw [t_MO_layPush_L2] at hT
    refine lv_iload_n F.hx F.hb d_MO_layPush_2 rfl (lv_at hl 2 rfl) ?_
    refine r_bipush F.hx F.hb d_MO_layPush_3 rfl ?_
    refine r_icmp_ge (tgt := 50) F.hx F.hb hv2_ (inr_c rfl) d_MO_layPush_5 (by decide) (fun c1 => ?_) (fun c1 => ?_)
    · replace hT := (if_pos c1).symm.trans hT
      refine r_iconst F.hx F.hb d_MO_layPush_50 ?_
      refine lv_istore_n (lv' := [(2, vI 1), (0, .ref (b + 191)), (1, vI x1)]) F.hx F.hb d_MO_layPush_51 rfl hl (Nat.le_of_ble_eq_true rfl) rfl (fun ls hl => ?_)
      exact k_MO_layPush_L52 l hlo x1 hx1 F hlk hr FU M 1 (Or.inr rfl) _ _ _ hS (lv_sub hl [1, 0] rfl) hT
    · replace hT := (if_neg c1).symm.trans hT
      refine lv_aload_n F.hx F.hb d_MO_layPush_8 rfl (lv_at hl 0 rfl) ?_
      refine r_get (v := .ref (b + 223)) (N := 68) (T := T1) (j := 56) F hS (show 191 < 231 by decide) (show shK 191 = 5 from rfl) (show shN 191 = 68 from rfl) rfl (Nat.le_of_ble_eq_true rfl) ing1 mw_1445 (fv_sg rfl rfl rfl) d_MO_layPush_9 ?_
      refine lv_iload_n F.hx F.hb d_MO_layPush_12 rfl (lv_at hl 2 rfl) ?_
      refine lv_iload_n F.hx F.hb d_MO_layPush_13 rfl (lv_at hl 2 rfl) ?_
      refine lv_iload_n F.hx F.hb d_MO_layPush_14 rfl (lv_at hl 1 rfl) ?_
      refine r_icmp_ne (tgt := 22) F.hx F.hb hv2_ hx1 d_MO_layPush_15 (by decide) (fun c2 => ?_) (fun c2 => ?_)
      · replace hT := (if_neg c2).symm.trans hT
        refine lv_ldcw (v := Int32.ofInt 1000000) F.hx F.hb F.hown (F.hts mw_1943) d_MO_layPush_22 ?_
        exact k_MO_layPush_L25 l hlo x1 hx1 F hlk hr (fun a0_ a1_ => t_MO_layPush_L2 x1 fu a0_ a1_) ih M v2_ hv2_ v2_ hv2_ 1000000 (inr_c rfl) _ _ _ hS (lv_sub hl [0, 1, 2] rfl) hT
      · replace hT := (if_pos c2).symm.trans hT
        refine r_iconst F.hx F.hb d_MO_layPush_18 ?_
        refine lv_goto (tgt := 25) F.hx F.hb d_MO_layPush_19 (by decide) ?_
        exact k_MO_layPush_L25 l hlo x1 hx1 F hlk hr (fun a0_ a1_ => t_MO_layPush_L2 x1 fu a0_ a1_) ih M v2_ hv2_ v2_ hv2_ 0 (inr_c rfl) _ _ _ hS (lv_sub hl [0, 1, 2] rfl) hT
set_option maxHeartbeats 4000000 in
set_option maxRecDepth 100000 in
theorem c_MO_layPush (l : Launch) {b n : Nat} {C : CT} (hlo : 231 ≤ n) (M : Mem) (x1 : Int) (hx1 : InR x1) (res : Mem) (hT : t_MO_layPush M x1 = some res) : CM l b C n 5 y_MO_layPush b_MO_layPush 7 (none) [.ref (b + 191), vI x1] M (QV b C n res) := by
  refine CM.of (lo := 231) (ow := "WardFallsModel") (by decide) rfl (Nat.le_of_ble_eq_true rfl) hlo (fun p e s m below meth c F hlk hr hS ls hl => ?_)
  have hl : lv_has ls 7 [(0, .ref (b + 191)), (1, vI x1)] := hl
  unfold t_MO_layPush at hT
  refine r_iconst F.hx F.hb d_MO_layPush_0 ?_
  refine lv_istore_n (lv' := [(2, vI 0), (0, .ref (b + 191)), (1, vI x1)]) F.hx F.hb d_MO_layPush_1 rfl hl (Nat.le_of_ble_eq_true rfl) rfl (fun ls hl => ?_)
  exact k_MO_layPush_L2 l hlo x1 hx1 F hlk hr FU M 0 (inr_c rfl) _ _ _ hS (lv_sub hl [1, 2, 0] rfl) hT
theorem d_MO_push_0 : decode b_MO_push 0 = .ok (.aload_n 0, 1) := dc_42 (by decide +kernel)
theorem d_MO_push_1 : decode b_MO_push 1 = .ok (.iconst 0, 1) := dc_3 (by decide +kernel)
theorem d_MO_push_2 : decode b_MO_push 2 = .ok (.putfield 145, 3) := dc_181 (by decide +kernel)
theorem d_MO_push_5 : decode b_MO_push 5 = .ok (.aload_n 0, 1) := dc_42 (by decide +kernel)
theorem d_MO_push_6 : decode b_MO_push 6 = .ok (.iload_n 1, 1) := dc_27 (by decide +kernel)
theorem d_MO_push_7 : decode b_MO_push 7 = .ok (.invokevirtual 428, 3) := dc_182 (by decide +kernel)
theorem d_MO_push_10 : decode b_MO_push 10 = .ok (.ifCond .eq 20, 3) := dc_153 (by decide +kernel)
theorem d_MO_push_13 : decode b_MO_push 13 = .ok (.aload_n 0, 1) := dc_42 (by decide +kernel)
theorem d_MO_push_14 : decode b_MO_push 14 = .ok (.iload_n 2, 1) := dc_28 (by decide +kernel)
theorem d_MO_push_15 : decode b_MO_push 15 = .ok (.invokevirtual 428, 3) := dc_182 (by decide +kernel)
theorem d_MO_push_18 : decode b_MO_push 18 = .ok (.ifCond .eq 12, 3) := dc_153 (by decide +kernel)
theorem d_MO_push_21 : decode b_MO_push 21 = .ok (.iload_n 3, 1) := dc_29 (by decide +kernel)
theorem d_MO_push_22 : decode b_MO_push 22 = .ok (.ifCond .lt 8, 3) := dc_155 (by decide +kernel)
theorem d_MO_push_25 : decode b_MO_push 25 = .ok (.iload_n 3, 1) := dc_29 (by decide +kernel)
theorem d_MO_push_26 : decode b_MO_push 26 = .ok (.iconst 1, 1) := dc_4 (by decide +kernel)
theorem d_MO_push_27 : decode b_MO_push 27 = .ok (.if_icmp .le 5, 3) := dc_164 (by decide +kernel)
theorem d_MO_push_30 : decode b_MO_push 30 = .ok (.iconst (-1), 1) := dc_2 (by decide +kernel)
theorem d_MO_push_31 : decode b_MO_push 31 = .ok (.ireturn, 1) := dc_172 (by decide +kernel)
theorem d_MO_push_32 : decode b_MO_push 32 = .ok (.aload_n 0, 1) := dc_42 (by decide +kernel)
theorem d_MO_push_33 : decode b_MO_push 33 = .ok (.iload_n 2, 1) := dc_28 (by decide +kernel)
theorem d_MO_push_34 : decode b_MO_push 34 = .ok (.invokevirtual 471, 3) := dc_182 (by decide +kernel)
theorem d_MO_push_37 : decode b_MO_push 37 = .ok (.aload_n 0, 1) := dc_42 (by decide +kernel)
theorem d_MO_push_38 : decode b_MO_push 38 = .ok (.getfield 115, 3) := dc_180 (by decide +kernel)
theorem d_MO_push_41 : decode b_MO_push 41 = .ok (.iload_n 1, 1) := dc_27 (by decide +kernel)
theorem d_MO_push_42 : decode b_MO_push 42 = .ok (.iaload, 1) := dc_46 (by decide +kernel)
theorem d_MO_push_43 : decode b_MO_push 43 = .ok (.ldc_w 458, 3) := dc_19 (by decide +kernel)
theorem d_MO_push_46 : decode b_MO_push 46 = .ok (.if_icmp .lt 8, 3) := dc_161 (by decide +kernel)
theorem d_MO_push_49 : decode b_MO_push 49 = .ok (.bipush (-2), 2) := dc_16 (by decide +kernel)
theorem d_MO_push_51 : decode b_MO_push 51 = .ok (.goto 22, 3) := dc_167 (by decide +kernel)
theorem d_MO_push_54 : decode b_MO_push 54 = .ok (.iload_n 3, 1) := dc_29 (by decide +kernel)
theorem d_MO_push_55 : decode b_MO_push 55 = .ok (.ifCond .ne 12, 3) := dc_154 (by decide +kernel)
theorem d_MO_push_58 : decode b_MO_push 58 = .ok (.aload_n 0, 1) := dc_42 (by decide +kernel)
theorem d_MO_push_59 : decode b_MO_push 59 = .ok (.getfield 115, 3) := dc_180 (by decide +kernel)
theorem d_MO_push_62 : decode b_MO_push 62 = .ok (.iload_n 1, 1) := dc_27 (by decide +kernel)
theorem d_MO_push_63 : decode b_MO_push 63 = .ok (.iaload, 1) := dc_46 (by decide +kernel)
theorem d_MO_push_64 : decode b_MO_push 64 = .ok (.goto 9, 3) := dc_167 (by decide +kernel)
theorem d_MO_push_67 : decode b_MO_push 67 = .ok (.aload_n 0, 1) := dc_42 (by decide +kernel)
theorem d_MO_push_68 : decode b_MO_push 68 = .ok (.getfield 112, 3) := dc_180 (by decide +kernel)
theorem d_MO_push_71 : decode b_MO_push 71 = .ok (.iload_n 1, 1) := dc_27 (by decide +kernel)
theorem d_MO_push_72 : decode b_MO_push 72 = .ok (.iaload, 1) := dc_46 (by decide +kernel)
theorem d_MO_push_73 : decode b_MO_push 73 = .ok (.ireturn, 1) := dc_172 (by decide +kernel)
def t_MO_push (M : Mem) (x1 : Int) (x2 : Int) (x3 : Int) : Option (Mem × Int) := (qlet (setI M 191 0 0) fun M1 => (obind (t_MO_isOpen M1 x1) fun q2 => (if q2 = 0 then (some (M1, (-1))) else (obind (t_MO_isOpen M1 x2) fun q5 => (if q5 = 0 then (some (M1, (-1))) else (if x3 < 0 then (some (M1, (-1))) else (if x3 ≤ 1 then (obind (t_MO_layPush M1 x2) fun q10 => (qguard (0 ≤ x1 ∧ x1 < 48) (if (q10.1 223 x1) < 1000000 then (if x3 = 0 then (qguard (0 ≤ x1 ∧ x1 < 48) (some (q10, (q10.1 223 x1)))) else (qguard (0 ≤ x1 ∧ x1 < 48) (some (q10, (q10.1 222 x1))))) else (some (q10, (-2)))))) else (some (M1, (-1))))))))))
set_option maxHeartbeats 4000000 in
set_option maxRecDepth 100000 in
theorem c_MO_push (l : Launch) {b n : Nat} {C : CT} (hlo : 231 ≤ n) (M : Mem) (x1 : Int) (x2 : Int) (x3 : Int) (hx1 : InR x1) (hx2 : InR x2) (hx3 : InR x3) (res : Mem × Int) (hT : t_MO_push M x1 x2 x3 = some res) : CM l b C n 6 y_MO_push b_MO_push 4 (some .int) [.ref (b + 191), vI x1, vI x2, vI x3] M (QI b C n res.1 res.2) := by
  refine CM.of (lo := 231) (ow := "WardFallsModel") (by decide) rfl (Nat.le_of_ble_eq_true rfl) hlo (fun p e s m below meth c F hlk hr hS ls hl => ?_)
  have hl : lv_has ls 4 [(0, .ref (b + 191)), (1, vI x1), (2, vI x2), (3, vI x3)] := hl
  unfold t_MO_push at hT
  refine lv_aload_n F.hx F.hb d_MO_push_0 rfl (lv_at hl 0 rfl) ?_
  refine r_iconst F.hx F.hb d_MO_push_1 ?_
  refine r_putI (N := 68) (T := T1) (j := 0) F hS (show 191 < 231 by decide) (show shK 191 = 5 from rfl) (show shN 191 = 68 from rfl) rfl (Nat.le_of_ble_eq_true rfl) ing1 tyok1 nm1 rfl rfl rfl rfl rfl rfl mw_1389 (inr_c rfl) d_MO_push_2 (fun H locs hS => ?_)
  obtain ⟨M1, eM1⟩ : ∃ q, q = (setI M 191 0 0) := ⟨_, rfl⟩
  replace hS : St b C n M1 s H locs := by rw [eM1]; exact hS
  replace hT := qlet_eq hT eM1
  refine lv_aload_n F.hx F.hb d_MO_push_5 rfl (lv_at hl 0 rfl) ?_
  refine lv_iload_n F.hx F.hb d_MO_push_6 rfl (lv_at hl 1 rfl) ?_
  obtain ⟨q2, hq2, hT⟩ := q_obind hT
  refine r_backZ F hS (r_runV (k := 191) (N := 68) (T := T1) (As := [vI x1]) F hS (show 191 < 231 by decide) (show shK 191 = 5 from rfl) rfl (c_MO_isOpen l F.2.2.1 M1 x1 hx1 _ hq2) gs_MO_428 hd_MO_isOpen ⟨Nat.le_of_ble_eq_true rfl, Nat.le_of_ble_eq_true rfl⟩ rfl hl.1 (Nat.le_of_ble_eq_true rfl) ⟨Nat.zero_le _, Nat.zero_le _⟩ rfl d_MO_push_7) (fun H locs hS h3 => ?_)
  refine r_if_eq (tgt := 30) F.hx F.hb (inr_z h3) d_MO_push_10 (by decide) (fun c4 => ?_) (fun c4 => ?_)
  · replace hT := (if_pos c4).symm.trans hT
    refine r_iconst F.hx F.hb d_MO_push_30 ?_
    cases hT
    exact r_iret F hlk hr rfl hS (inr_c rfl) d_MO_push_31
  · replace hT := (if_neg c4).symm.trans hT
    refine lv_aload_n F.hx F.hb d_MO_push_13 rfl (lv_at hl 0 rfl) ?_
    refine lv_iload_n F.hx F.hb d_MO_push_14 rfl (lv_at hl 2 rfl) ?_
    obtain ⟨q5, hq5, hT⟩ := q_obind hT
    refine r_backZ F hS (r_runV (k := 191) (N := 68) (T := T1) (As := [vI x2]) F hS (show 191 < 231 by decide) (show shK 191 = 5 from rfl) rfl (c_MO_isOpen l F.2.2.1 M1 x2 hx2 _ hq5) gs_MO_428 hd_MO_isOpen ⟨Nat.le_of_ble_eq_true rfl, Nat.le_of_ble_eq_true rfl⟩ rfl hl.1 (Nat.le_of_ble_eq_true rfl) ⟨Nat.zero_le _, Nat.zero_le _⟩ rfl d_MO_push_15) (fun H locs hS h6 => ?_)
    refine r_if_eq (tgt := 30) F.hx F.hb (inr_z h6) d_MO_push_18 (by decide) (fun c7 => ?_) (fun c7 => ?_)
    · replace hT := (if_pos c7).symm.trans hT
      refine r_iconst F.hx F.hb d_MO_push_30 ?_
      cases hT
      exact r_iret F hlk hr rfl hS (inr_c rfl) d_MO_push_31
    · replace hT := (if_neg c7).symm.trans hT
      refine lv_iload_n F.hx F.hb d_MO_push_21 rfl (lv_at hl 3 rfl) ?_
      refine r_if_lt (tgt := 30) F.hx F.hb hx3 d_MO_push_22 (by decide) (fun c8 => ?_) (fun c8 => ?_)
      · replace hT := (if_pos c8).symm.trans hT
        refine r_iconst F.hx F.hb d_MO_push_30 ?_
        cases hT
        exact r_iret F hlk hr rfl hS (inr_c rfl) d_MO_push_31
      · replace hT := (if_neg c8).symm.trans hT
        refine lv_iload_n F.hx F.hb d_MO_push_25 rfl (lv_at hl 3 rfl) ?_
        refine r_iconst F.hx F.hb d_MO_push_26 ?_
        refine r_icmp_le (tgt := 32) F.hx F.hb hx3 (inr_c rfl) d_MO_push_27 (by decide) (fun c9 => ?_) (fun c9 => ?_)
        · replace hT := (if_pos c9).symm.trans hT
          refine lv_aload_n F.hx F.hb d_MO_push_32 rfl (lv_at hl 0 rfl) ?_
          refine lv_iload_n F.hx F.hb d_MO_push_33 rfl (lv_at hl 2 rfl) ?_
          obtain ⟨q10, hq10, hT⟩ := q_obind hT
          refine r_backV F hS (r_runV (k := 191) (N := 68) (T := T1) (As := [vI x2]) F hS (show 191 < 231 by decide) (show shK 191 = 5 from rfl) rfl (c_MO_layPush l F.2.2.1 M1 x2 hx2 _ hq10) gs_MO_471 hd_MO_layPush ⟨Nat.le_of_ble_eq_true rfl, Nat.le_of_ble_eq_true rfl⟩ rfl hl.1 (Nat.le_of_ble_eq_true rfl) ⟨Nat.zero_le _, Nat.zero_le _⟩ rfl d_MO_push_34) (fun H locs hS => ?_)
          refine lv_aload_n F.hx F.hb d_MO_push_37 rfl (lv_at hl 0 rfl) ?_
          refine r_get (v := .ref (b + 223)) (N := 68) (T := T1) (j := 56) F hS (show 191 < 231 by decide) (show shK 191 = 5 from rfl) (show shN 191 = 68 from rfl) rfl (Nat.le_of_ble_eq_true rfl) ing1 mw_1445 (fv_sg rfl rfl rfl) d_MO_push_38 ?_
          refine lv_iload_n F.hx F.hb d_MO_push_41 rfl (lv_at hl 1 rfl) ?_
          obtain ⟨⟨g12a, g12b⟩, hT⟩ := q_guard hT
          refine r_iald F hS (show 223 < 231 by decide) (show shK 223 = 0 from rfl) (show shN 223 = 48 from rfl) hx1 g12a g12b d_MO_push_42 ?_
          have i13 := hS.rng 223 x1
          refine lv_ldcw (v := Int32.ofInt 1000000) F.hx F.hb F.hown (F.hts mw_1943) d_MO_push_43 ?_
          refine r_icmp_lt (tgt := 54) F.hx F.hb i13 (inr_c rfl) d_MO_push_46 (by decide) (fun c14 => ?_) (fun c14 => ?_)
          · replace hT := (if_pos c14).symm.trans hT
            refine lv_iload_n F.hx F.hb d_MO_push_54 rfl (lv_at hl 3 rfl) ?_
            refine r_if_ne (tgt := 67) F.hx F.hb hx3 d_MO_push_55 (by decide) (fun c15 => ?_) (fun c15 => ?_)
            · replace hT := (if_neg c15).symm.trans hT
              refine lv_aload_n F.hx F.hb d_MO_push_67 rfl (lv_at hl 0 rfl) ?_
              refine r_get (v := .ref (b + 222)) (N := 68) (T := T1) (j := 55) F hS (show 191 < 231 by decide) (show shK 191 = 5 from rfl) (show shN 191 = 68 from rfl) rfl (Nat.le_of_ble_eq_true rfl) ing1 mw_1444 (fv_sg rfl rfl rfl) d_MO_push_68 ?_
              refine lv_iload_n F.hx F.hb d_MO_push_71 rfl (lv_at hl 1 rfl) ?_
              obtain ⟨⟨g16a, g16b⟩, hT⟩ := q_guard hT
              refine r_iald F hS (show 222 < 231 by decide) (show shK 222 = 0 from rfl) (show shN 222 = 48 from rfl) hx1 g16a g16b d_MO_push_72 ?_
              have i17 := hS.rng 222 x1
              cases hT
              exact r_iret F hlk hr rfl hS i17 d_MO_push_73
            · replace hT := (if_pos c15).symm.trans hT
              refine lv_aload_n F.hx F.hb d_MO_push_58 rfl (lv_at hl 0 rfl) ?_
              refine r_get (v := .ref (b + 223)) (N := 68) (T := T1) (j := 56) F hS (show 191 < 231 by decide) (show shK 191 = 5 from rfl) (show shN 191 = 68 from rfl) rfl (Nat.le_of_ble_eq_true rfl) ing1 mw_1445 (fv_sg rfl rfl rfl) d_MO_push_59 ?_
              refine lv_iload_n F.hx F.hb d_MO_push_62 rfl (lv_at hl 1 rfl) ?_
              obtain ⟨⟨g18a, g18b⟩, hT⟩ := q_guard hT
              refine r_iald F hS (show 223 < 231 by decide) (show shK 223 = 0 from rfl) (show shN 223 = 48 from rfl) hx1 g18a g18b d_MO_push_63 ?_
              have i19 := hS.rng 223 x1
              refine lv_goto (tgt := 73) F.hx F.hb d_MO_push_64 (by decide) ?_
              cases hT
              exact r_iret F hlk hr rfl hS i19 d_MO_push_73
          · replace hT := (if_neg c14).symm.trans hT
            refine r_bipush F.hx F.hb d_MO_push_49 rfl ?_
            refine lv_goto (tgt := 73) F.hx F.hb d_MO_push_51 (by decide) ?_
            cases hT
            exact r_iret F hlk hr rfl hS (inr_c rfl) d_MO_push_73
        · replace hT := (if_neg c9).symm.trans hT
          refine r_iconst F.hx F.hb d_MO_push_30 ?_
          cases hT
          exact r_iret F hlk hr rfl hS (inr_c rfl) d_MO_push_31
end
section
theorem d_MO_isPushed_0 : decode b_MO_isPushed 0 = .ok (.aload_n 0, 1) := dc_42 (by decide +kernel)
theorem d_MO_isPushed_1 : decode b_MO_isPushed 1 = .ok (.iload_n 1, 1) := dc_27 (by decide +kernel)
theorem d_MO_isPushed_2 : decode b_MO_isPushed 2 = .ok (.iload_n 2, 1) := dc_28 (by decide +kernel)
theorem d_MO_isPushed_3 : decode b_MO_isPushed 3 = .ok (.invokevirtual 338, 3) := dc_182 (by decide +kernel)
theorem d_MO_isPushed_6 : decode b_MO_isPushed 6 = .ok (.istore_n 3, 1) := dc_62 (by decide +kernel)
theorem d_MO_isPushed_7 : decode b_MO_isPushed 7 = .ok (.iload_n 3, 1) := dc_29 (by decide +kernel)
theorem d_MO_isPushed_8 : decode b_MO_isPushed 8 = .ok (.iconst (-1), 1) := dc_2 (by decide +kernel)
theorem d_MO_isPushed_9 : decode b_MO_isPushed 9 = .ok (.if_icmp .eq 55, 3) := dc_159 (by decide +kernel)
theorem d_MO_isPushed_12 : decode b_MO_isPushed 12 = .ok (.aload_n 0, 1) := dc_42 (by decide +kernel)
theorem d_MO_isPushed_13 : decode b_MO_isPushed 13 = .ok (.getfield 28, 3) := dc_180 (by decide +kernel)
theorem d_MO_isPushed_16 : decode b_MO_isPushed 16 = .ok (.iload_n 3, 1) := dc_29 (by decide +kernel)
theorem d_MO_isPushed_17 : decode b_MO_isPushed 17 = .ok (.baload, 1) := dc_51 (by decide +kernel)
theorem d_MO_isPushed_18 : decode b_MO_isPushed 18 = .ok (.ifCond .ne 46, 3) := dc_154 (by decide +kernel)
theorem d_MO_isPushed_21 : decode b_MO_isPushed 21 = .ok (.aload_n 0, 1) := dc_42 (by decide +kernel)
theorem d_MO_isPushed_22 : decode b_MO_isPushed 22 = .ok (.getfield 112, 3) := dc_180 (by decide +kernel)
theorem d_MO_isPushed_25 : decode b_MO_isPushed 25 = .ok (.iload_n 3, 1) := dc_29 (by decide +kernel)
theorem d_MO_isPushed_26 : decode b_MO_isPushed 26 = .ok (.iaload, 1) := dc_46 (by decide +kernel)
theorem d_MO_isPushed_27 : decode b_MO_isPushed 27 = .ok (.aload_n 0, 1) := dc_42 (by decide +kernel)
theorem d_MO_isPushed_28 : decode b_MO_isPushed 28 = .ok (.getfield 112, 3) := dc_180 (by decide +kernel)
theorem d_MO_isPushed_31 : decode b_MO_isPushed 31 = .ok (.iload_n 1, 1) := dc_27 (by decide +kernel)
theorem d_MO_isPushed_32 : decode b_MO_isPushed 32 = .ok (.iaload, 1) := dc_46 (by decide +kernel)
theorem d_MO_isPushed_33 : decode b_MO_isPushed 33 = .ok (.iconst 1, 1) := dc_4 (by decide +kernel)
theorem d_MO_isPushed_34 : decode b_MO_isPushed 34 = .ok (.isub, 1) := dc_100 (by decide +kernel)
theorem d_MO_isPushed_35 : decode b_MO_isPushed 35 = .ok (.if_icmp .ne 29, 3) := dc_160 (by decide +kernel)
theorem d_MO_isPushed_38 : decode b_MO_isPushed 38 = .ok (.aload_n 0, 1) := dc_42 (by decide +kernel)
theorem d_MO_isPushed_39 : decode b_MO_isPushed 39 = .ok (.getfield 115, 3) := dc_180 (by decide +kernel)
theorem d_MO_isPushed_42 : decode b_MO_isPushed 42 = .ok (.iload_n 3, 1) := dc_29 (by decide +kernel)
theorem d_MO_isPushed_43 : decode b_MO_isPushed 43 = .ok (.iaload, 1) := dc_46 (by decide +kernel)
theorem d_MO_isPushed_44 : decode b_MO_isPushed 44 = .ok (.aload_n 0, 1) := dc_42 (by decide +kernel)
theorem d_MO_isPushed_45 : decode b_MO_isPushed 45 = .ok (.iload_n 1, 1) := dc_27 (by decide +kernel)
theorem d_MO_isPushed_46 : decode b_MO_isPushed 46 = .ok (.iload_n 2, 1) := dc_28 (by decide +kernel)
theorem d_MO_isPushed_47 : decode b_MO_isPushed 47 = .ok (.invokevirtual 468, 3) := dc_182 (by decide +kernel)
theorem d_MO_isPushed_50 : decode b_MO_isPushed 50 = .ok (.iadd, 1) := dc_96 (by decide +kernel)
theorem d_MO_isPushed_51 : decode b_MO_isPushed 51 = .ok (.aload_n 0, 1) := dc_42 (by decide +kernel)
theorem d_MO_isPushed_52 : decode b_MO_isPushed 52 = .ok (.getfield 115, 3) := dc_180 (by decide +kernel)
theorem d_MO_isPushed_55 : decode b_MO_isPushed 55 = .ok (.iload_n 1, 1) := dc_27 (by decide +kernel)
theorem d_MO_isPushed_56 : decode b_MO_isPushed 56 = .ok (.iaload, 1) := dc_46 (by decide +kernel)
theorem d_MO_isPushed_57 : decode b_MO_isPushed 57 = .ok (.if_icmp .ne 7, 3) := dc_160 (by decide +kernel)
theorem d_MO_isPushed_60 : decode b_MO_isPushed 60 = .ok (.iconst 1, 1) := dc_4 (by decide +kernel)
theorem d_MO_isPushed_61 : decode b_MO_isPushed 61 = .ok (.goto 4, 3) := dc_167 (by decide +kernel)
theorem d_MO_isPushed_64 : decode b_MO_isPushed 64 = .ok (.iconst 0, 1) := dc_3 (by decide +kernel)
theorem d_MO_isPushed_65 : decode b_MO_isPushed 65 = .ok (.ireturn, 1) := dc_172 (by decide +kernel)
def t_MO_isPushed (M : Mem) (x1 : Int) (x2 : Int) : Option (Mem × Int) := (obind (t_MO_beside M x1 x2) fun q1 => (if q1 = (-1) then (some (M, 0)) else (qguard (0 ≤ q1 ∧ q1 < 96) (if (M.1 198 q1) = 0 then (qguard (0 ≤ q1 ∧ q1 < 48) (qguard (0 ≤ x1 ∧ x1 < 48) (if (M.1 222 q1) = (w32 ((M.1 222 x1) - 1)) then (qguard (0 ≤ q1 ∧ q1 < 48) (obind (t_MO_pushOf M x1 x2) fun q14 => (qguard (0 ≤ x1 ∧ x1 < 48) (if (w32 ((M.1 223 q1) + (q14.2))) = ((q14.1).1 223 x1) then (some ((q14.1), 1)) else (some ((q14.1), 0)))))) else (some (M, 0))))) else (some (M, 0))))))
set_option maxHeartbeats 4000000 in
set_option maxRecDepth 100000 in
theorem c_MO_isPushed (l : Launch) {b n : Nat} {C : CT} (hlo : 231 ≤ n) (M : Mem) (x1 : Int) (x2 : Int) (hx1 : InR x1) (hx2 : InR x2) (res : Mem × Int) (hT : t_MO_isPushed M x1 x2 = some res) : CM l b C n 5 y_MO_isPushed b_MO_isPushed 4 (some .boolean) [.ref (b + 191), vI x1, vI x2] M (QZ b C n res.1 res.2) := by
  refine CM.of (lo := 231) (ow := "WardFallsModel") (by decide) rfl (Nat.le_of_ble_eq_true rfl) hlo (fun p e s m below meth c F hlk hr hS ls hl => ?_)
  have hl : lv_has ls 4 [(0, .ref (b + 191)), (1, vI x1), (2, vI x2)] := hl
  unfold t_MO_isPushed at hT
  refine lv_aload_n F.hx F.hb d_MO_isPushed_0 rfl (lv_at hl 0 rfl) ?_
  refine lv_iload_n F.hx F.hb d_MO_isPushed_1 rfl (lv_at hl 1 rfl) ?_
  refine lv_iload_n F.hx F.hb d_MO_isPushed_2 rfl (lv_at hl 2 rfl) ?_
  obtain ⟨q1, hq1, hT⟩ := q_obind hT
  refine r_backI F hS (r_runV (k := 191) (N := 68) (T := T1) (As := [vI x1, vI x2]) F hS (show 191 < 231 by decide) (show shK 191 = 5 from rfl) rfl (c_MO_beside l F.2.2.1 M x1 x2 hx1 hx2 _ hq1) gs_MO_338 hd_MO_beside ⟨Nat.le_of_ble_eq_true rfl, Nat.le_of_ble_eq_true rfl⟩ rfl hl.1 (Nat.le_of_ble_eq_true rfl) ⟨Nat.zero_le _, Nat.zero_le _⟩ rfl d_MO_isPushed_3) (fun H locs hS h2 => ?_)
  refine lv_istore_n (lv' := [(3, vI q1), (0, .ref (b + 191)), (1, vI x1), (2, vI x2)]) F.hx F.hb d_MO_isPushed_6 rfl hl (Nat.le_of_ble_eq_true rfl) rfl (fun ls hl => ?_)
  refine lv_iload_n F.hx F.hb d_MO_isPushed_7 rfl (lv_at hl 0 rfl) ?_
  refine r_iconst F.hx F.hb d_MO_isPushed_8 ?_
  refine r_icmp_eq (tgt := 64) F.hx F.hb h2 (inr_c rfl) d_MO_isPushed_9 (by decide) (fun c3 => ?_) (fun c3 => ?_)
  · replace hT := (if_pos c3).symm.trans hT
    refine r_iconst F.hx F.hb d_MO_isPushed_64 ?_
    cases hT
    exact r_zret F hlk hr hS (Or.inl rfl) d_MO_isPushed_65
  · replace hT := (if_neg c3).symm.trans hT
    refine lv_aload_n F.hx F.hb d_MO_isPushed_12 rfl (lv_at hl 1 rfl) ?_
    refine r_get (v := .ref (b + 198)) (N := 68) (T := T1) (j := 8) F hS (show 191 < 231 by decide) (show shK 191 = 5 from rfl) (show shN 191 = 68 from rfl) rfl (Nat.le_of_ble_eq_true rfl) ing1 mw_1397 (fv_sg rfl rfl rfl) d_MO_isPushed_13 ?_
    refine lv_iload_n F.hx F.hb d_MO_isPushed_16 rfl (lv_at hl 0 rfl) ?_
    obtain ⟨⟨g4a, g4b⟩, hT⟩ := q_guard hT
    have z5 := hS.bool (show shK 198 = 1 from rfl) q1
    refine r_zald F hS (show 198 < 231 by decide) (show shK 198 = 1 from rfl) (show shN 198 = 96 from rfl) h2 g4a g4b d_MO_isPushed_17 ?_
    refine r_if_ne (tgt := 64) F.hx F.hb (inr_z z5) d_MO_isPushed_18 (by decide) (fun c6 => ?_) (fun c6 => ?_)
    · replace hT := (if_neg c6).symm.trans hT
      refine r_iconst F.hx F.hb d_MO_isPushed_64 ?_
      cases hT
      exact r_zret F hlk hr hS (Or.inl rfl) d_MO_isPushed_65
    · replace hT := (if_pos c6).symm.trans hT
      refine lv_aload_n F.hx F.hb d_MO_isPushed_21 rfl (lv_at hl 1 rfl) ?_
      refine r_get (v := .ref (b + 222)) (N := 68) (T := T1) (j := 55) F hS (show 191 < 231 by decide) (show shK 191 = 5 from rfl) (show shN 191 = 68 from rfl) rfl (Nat.le_of_ble_eq_true rfl) ing1 mw_1444 (fv_sg rfl rfl rfl) d_MO_isPushed_22 ?_
      refine lv_iload_n F.hx F.hb d_MO_isPushed_25 rfl (lv_at hl 0 rfl) ?_
      obtain ⟨⟨g7a, g7b⟩, hT⟩ := q_guard hT
      refine r_iald F hS (show 222 < 231 by decide) (show shK 222 = 0 from rfl) (show shN 222 = 48 from rfl) h2 g7a g7b d_MO_isPushed_26 ?_
      have i8 := hS.rng 222 q1
      refine lv_aload_n F.hx F.hb d_MO_isPushed_27 rfl (lv_at hl 1 rfl) ?_
      refine r_get (v := .ref (b + 222)) (N := 68) (T := T1) (j := 55) F hS (show 191 < 231 by decide) (show shK 191 = 5 from rfl) (show shN 191 = 68 from rfl) rfl (Nat.le_of_ble_eq_true rfl) ing1 mw_1444 (fv_sg rfl rfl rfl) d_MO_isPushed_28 ?_
      refine lv_iload_n F.hx F.hb d_MO_isPushed_31 rfl (lv_at hl 2 rfl) ?_
      obtain ⟨⟨g9a, g9b⟩, hT⟩ := q_guard hT
      refine r_iald F hS (show 222 < 231 by decide) (show shK 222 = 0 from rfl) (show shN 222 = 48 from rfl) hx1 g9a g9b d_MO_isPushed_32 ?_
      have i10 := hS.rng 222 x1
      refine r_iconst F.hx F.hb d_MO_isPushed_33 ?_
      refine r_isub F.hx F.hb d_MO_isPushed_34 ?_
      refine r_icmp_ne (tgt := 64) F.hx F.hb i8 (inr_w32 _) d_MO_isPushed_35 (by decide) (fun c11 => ?_) (fun c11 => ?_)
      · replace hT := (if_neg c11).symm.trans hT
        refine r_iconst F.hx F.hb d_MO_isPushed_64 ?_
        cases hT
        exact r_zret F hlk hr hS (Or.inl rfl) d_MO_isPushed_65
      · replace hT := (if_pos c11).symm.trans hT
        refine lv_aload_n F.hx F.hb d_MO_isPushed_38 rfl (lv_at hl 1 rfl) ?_
        refine r_get (v := .ref (b + 223)) (N := 68) (T := T1) (j := 56) F hS (show 191 < 231 by decide) (show shK 191 = 5 from rfl) (show shN 191 = 68 from rfl) rfl (Nat.le_of_ble_eq_true rfl) ing1 mw_1445 (fv_sg rfl rfl rfl) d_MO_isPushed_39 ?_
        refine lv_iload_n F.hx F.hb d_MO_isPushed_42 rfl (lv_at hl 0 rfl) ?_
        obtain ⟨⟨g12a, g12b⟩, hT⟩ := q_guard hT
        refine r_iald F hS (show 223 < 231 by decide) (show shK 223 = 0 from rfl) (show shN 223 = 48 from rfl) h2 g12a g12b d_MO_isPushed_43 ?_
        have i13 := hS.rng 223 q1
        refine lv_aload_n F.hx F.hb d_MO_isPushed_44 rfl (lv_at hl 1 rfl) ?_
        refine lv_iload_n F.hx F.hb d_MO_isPushed_45 rfl (lv_at hl 2 rfl) ?_
        refine lv_iload_n F.hx F.hb d_MO_isPushed_46 rfl (lv_at hl 3 rfl) ?_
        obtain ⟨q14, hq14, hT⟩ := q_obind hT
        refine r_backI F hS (r_runV (k := 191) (N := 68) (T := T1) (As := [vI x1, vI x2]) F hS (show 191 < 231 by decide) (show shK 191 = 5 from rfl) rfl (c_MO_pushOf l F.2.2.1 M x1 x2 hx1 hx2 _ hq14) gs_MO_468 hd_MO_pushOf ⟨Nat.le_of_ble_eq_true rfl, Nat.le_of_ble_eq_true rfl⟩ rfl hl.1 (Nat.le_of_ble_eq_true rfl) ⟨Nat.zero_le _, Nat.zero_le _⟩ rfl d_MO_isPushed_47) (fun H locs hS h15 => ?_)
        refine r_iadd F.hx F.hb d_MO_isPushed_50 ?_
        refine lv_aload_n F.hx F.hb d_MO_isPushed_51 rfl (lv_at hl 1 rfl) ?_
        refine r_get (v := .ref (b + 223)) (N := 68) (T := T1) (j := 56) F hS (show 191 < 231 by decide) (show shK 191 = 5 from rfl) (show shN 191 = 68 from rfl) rfl (Nat.le_of_ble_eq_true rfl) ing1 mw_1445 (fv_sg rfl rfl rfl) d_MO_isPushed_52 ?_
        refine lv_iload_n F.hx F.hb d_MO_isPushed_55 rfl (lv_at hl 2 rfl) ?_
        obtain ⟨⟨g16a, g16b⟩, hT⟩ := q_guard hT
        refine r_iald F hS (show 223 < 231 by decide) (show shK 223 = 0 from rfl) (show shN 223 = 48 from rfl) hx1 g16a g16b d_MO_isPushed_56 ?_
        have i17 := hS.rng 223 x1
        refine r_icmp_ne (tgt := 64) F.hx F.hb (inr_w32 _) i17 d_MO_isPushed_57 (by decide) (fun c18 => ?_) (fun c18 => ?_)
        · replace hT := (if_neg c18).symm.trans hT
          refine r_iconst F.hx F.hb d_MO_isPushed_64 ?_
          cases hT
          exact r_zret F hlk hr hS (Or.inl rfl) d_MO_isPushed_65
        · replace hT := (if_pos c18).symm.trans hT
          refine r_iconst F.hx F.hb d_MO_isPushed_60 ?_
          refine lv_goto (tgt := 65) F.hx F.hb d_MO_isPushed_61 (by decide) ?_
          cases hT
          exact r_zret F hlk hr hS (Or.inr rfl) d_MO_isPushed_65
theorem d_MO_pushed_0 : decode b_MO_pushed 0 = .ok (.aload_n 0, 1) := dc_42 (by decide +kernel)
theorem d_MO_pushed_1 : decode b_MO_pushed 1 = .ok (.iconst 0, 1) := dc_3 (by decide +kernel)
theorem d_MO_pushed_2 : decode b_MO_pushed 2 = .ok (.putfield 145, 3) := dc_181 (by decide +kernel)
theorem d_MO_pushed_5 : decode b_MO_pushed 5 = .ok (.aload_n 0, 1) := dc_42 (by decide +kernel)
theorem d_MO_pushed_6 : decode b_MO_pushed 6 = .ok (.iload_n 1, 1) := dc_27 (by decide +kernel)
theorem d_MO_pushed_7 : decode b_MO_pushed 7 = .ok (.invokevirtual 428, 3) := dc_182 (by decide +kernel)
theorem d_MO_pushed_10 : decode b_MO_pushed 10 = .ok (.ifCond .eq 15, 3) := dc_153 (by decide +kernel)
theorem d_MO_pushed_13 : decode b_MO_pushed 13 = .ok (.aload_n 0, 1) := dc_42 (by decide +kernel)
theorem d_MO_pushed_14 : decode b_MO_pushed 14 = .ok (.iload_n 2, 1) := dc_28 (by decide +kernel)
theorem d_MO_pushed_15 : decode b_MO_pushed 15 = .ok (.invokevirtual 428, 3) := dc_182 (by decide +kernel)
theorem d_MO_pushed_18 : decode b_MO_pushed 18 = .ok (.ifCond .eq 7, 3) := dc_153 (by decide +kernel)
theorem d_MO_pushed_21 : decode b_MO_pushed 21 = .ok (.iload_n 3, 1) := dc_29 (by decide +kernel)
theorem d_MO_pushed_22 : decode b_MO_pushed 22 = .ok (.ifCond .ge 5, 3) := dc_156 (by decide +kernel)
theorem d_MO_pushed_25 : decode b_MO_pushed 25 = .ok (.iconst (-1), 1) := dc_2 (by decide +kernel)
theorem d_MO_pushed_26 : decode b_MO_pushed 26 = .ok (.ireturn, 1) := dc_172 (by decide +kernel)
theorem d_MO_pushed_27 : decode b_MO_pushed 27 = .ok (.aload_n 0, 1) := dc_42 (by decide +kernel)
theorem d_MO_pushed_28 : decode b_MO_pushed 28 = .ok (.iload_n 2, 1) := dc_28 (by decide +kernel)
theorem d_MO_pushed_29 : decode b_MO_pushed 29 = .ok (.invokevirtual 471, 3) := dc_182 (by decide +kernel)
theorem d_MO_pushed_32 : decode b_MO_pushed 32 = .ok (.aload_n 0, 1) := dc_42 (by decide +kernel)
theorem d_MO_pushed_33 : decode b_MO_pushed 33 = .ok (.getfield 115, 3) := dc_180 (by decide +kernel)
theorem d_MO_pushed_36 : decode b_MO_pushed 36 = .ok (.iload_n 1, 1) := dc_27 (by decide +kernel)
theorem d_MO_pushed_37 : decode b_MO_pushed 37 = .ok (.iaload, 1) := dc_46 (by decide +kernel)
theorem d_MO_pushed_38 : decode b_MO_pushed 38 = .ok (.ldc_w 458, 3) := dc_19 (by decide +kernel)
theorem d_MO_pushed_41 : decode b_MO_pushed 41 = .ok (.if_icmp .ge 13, 3) := dc_162 (by decide +kernel)
theorem d_MO_pushed_44 : decode b_MO_pushed 44 = .ok (.iload_n 3, 1) := dc_29 (by decide +kernel)
theorem d_MO_pushed_45 : decode b_MO_pushed 45 = .ok (.aload_n 0, 1) := dc_42 (by decide +kernel)
theorem d_MO_pushed_46 : decode b_MO_pushed 46 = .ok (.getfield 112, 3) := dc_180 (by decide +kernel)
theorem d_MO_pushed_49 : decode b_MO_pushed 49 = .ok (.iload_n 1, 1) := dc_27 (by decide +kernel)
theorem d_MO_pushed_50 : decode b_MO_pushed 50 = .ok (.iaload, 1) := dc_46 (by decide +kernel)
theorem d_MO_pushed_51 : decode b_MO_pushed 51 = .ok (.if_icmp .le 6, 3) := dc_164 (by decide +kernel)
theorem d_MO_pushed_54 : decode b_MO_pushed 54 = .ok (.bipush (-2), 2) := dc_16 (by decide +kernel)
theorem d_MO_pushed_56 : decode b_MO_pushed 56 = .ok (.ireturn, 1) := dc_172 (by decide +kernel)
theorem d_MO_pushed_57 : decode b_MO_pushed 57 = .ok (.iload_n 1, 1) := dc_27 (by decide +kernel)
theorem d_MO_pushed_58 : decode b_MO_pushed 58 = .ok (.istore 4, 2) := dc_54 (by decide +kernel)
theorem d_MO_pushed_60 : decode b_MO_pushed 60 = .ok (.iconst 0, 1) := dc_3 (by decide +kernel)
theorem d_MO_pushed_61 : decode b_MO_pushed 61 = .ok (.istore 5, 2) := dc_54 (by decide +kernel)
theorem d_MO_pushed_63 : decode b_MO_pushed 63 = .ok (.iload 5, 2) := dc_21 (by decide +kernel)
theorem d_MO_pushed_65 : decode b_MO_pushed 65 = .ok (.iload_n 3, 1) := dc_29 (by decide +kernel)
theorem d_MO_pushed_66 : decode b_MO_pushed 66 = .ok (.if_icmp .ge 39, 3) := dc_162 (by decide +kernel)
theorem d_MO_pushed_69 : decode b_MO_pushed 69 = .ok (.iconst 0, 1) := dc_3 (by decide +kernel)
theorem d_MO_pushed_70 : decode b_MO_pushed 70 = .ok (.istore 6, 2) := dc_54 (by decide +kernel)
theorem d_MO_pushed_72 : decode b_MO_pushed 72 = .ok (.aload_n 0, 1) := dc_42 (by decide +kernel)
theorem d_MO_pushed_73 : decode b_MO_pushed 73 = .ok (.iload 4, 2) := dc_21 (by decide +kernel)
theorem d_MO_pushed_75 : decode b_MO_pushed 75 = .ok (.iload 6, 2) := dc_21 (by decide +kernel)
theorem d_MO_pushed_77 : decode b_MO_pushed 77 = .ok (.invokevirtual 474, 3) := dc_182 (by decide +kernel)
theorem d_MO_pushed_80 : decode b_MO_pushed 80 = .ok (.ifCond .ne 9, 3) := dc_154 (by decide +kernel)
theorem d_MO_pushed_83 : decode b_MO_pushed 83 = .ok (.iinc 6 1, 3) := dc_132 (by decide +kernel)
theorem d_MO_pushed_86 : decode b_MO_pushed 86 = .ok (.goto (-14), 3) := dc_167 (by decide +kernel)
theorem d_MO_pushed_89 : decode b_MO_pushed 89 = .ok (.aload_n 0, 1) := dc_42 (by decide +kernel)
theorem d_MO_pushed_90 : decode b_MO_pushed 90 = .ok (.iload 4, 2) := dc_21 (by decide +kernel)
theorem d_MO_pushed_92 : decode b_MO_pushed 92 = .ok (.iload 6, 2) := dc_21 (by decide +kernel)
theorem d_MO_pushed_94 : decode b_MO_pushed 94 = .ok (.invokevirtual 338, 3) := dc_182 (by decide +kernel)
theorem d_MO_pushed_97 : decode b_MO_pushed 97 = .ok (.istore 4, 2) := dc_54 (by decide +kernel)
theorem d_MO_pushed_99 : decode b_MO_pushed 99 = .ok (.iinc 5 1, 3) := dc_132 (by decide +kernel)
theorem d_MO_pushed_102 : decode b_MO_pushed 102 = .ok (.goto (-39), 3) := dc_167 (by decide +kernel)
theorem d_MO_pushed_105 : decode b_MO_pushed 105 = .ok (.iload 4, 2) := dc_21 (by decide +kernel)
theorem d_MO_pushed_107 : decode b_MO_pushed 107 = .ok (.ireturn, 1) := dc_172 (by decide +kernel)
def t_MO_pushed_L72 (x1 : Int) (x2 : Int) (x3 : Int) (bk63 : Mem → Int → Int → Option (Mem × Int)) : Nat → Mem → Int → Int → Int → Option (Mem × Int)
  | 0, _, _, _, _ => none
  | fu + 1, M, v2_, v3_, v4_ => (obind (t_MO_isPushed M v2_ v4_) fun q18 => (if (q18.2) = 0 then (t_MO_pushed_L72 x1 x2 x3 bk63 fu (q18.1) v2_ v3_ (w32 (v4_ + 1))) else (obind (t_MO_beside (q18.1) v2_ v4_) fun q21 => (bk63 (q18.1) q21 (w32 (v3_ + 1))))))
def t_MO_pushed_L63 (x1 : Int) (x2 : Int) (x3 : Int)  : Nat → Mem → Int → Int → Option (Mem × Int)
  | 0, _, _, _ => none
  | fu + 1, M, v2_, v3_ => (if x3 ≤ v3_ then (some (M, v2_)) else (t_MO_pushed_L72 x1 x2 x3 (fun a0_ a1_ a2_ => t_MO_pushed_L63 x1 x2 x3 fu a0_ a1_ a2_) FU M v2_ v3_ 0))
def t_MO_pushed (M : Mem) (x1 : Int) (x2 : Int) (x3 : Int) : Option (Mem × Int) := (qlet (setI M 191 0 0) fun M1 => (obind (t_MO_isOpen M1 x1) fun q2 => (if q2 = 0 then (some (M1, (-1))) else (obind (t_MO_isOpen M1 x2) fun q5 => (if q5 = 0 then (some (M1, (-1))) else (if 0 ≤ x3 then (obind (t_MO_layPush M1 x2) fun q9 => (qguard (0 ≤ x1 ∧ x1 < 48) (if 1000000 ≤ (q9.1 223 x1) then (some (q9, (-2))) else (qguard (0 ≤ x1 ∧ x1 < 48) (if x3 ≤ (q9.1 222 x1) then (t_MO_pushed_L63 x1 x2 x3 FU q9 x1 0) else (some (q9, (-2)))))))) else (some (M1, (-1)))))))))
set_option maxHeartbeats 4000000 in
set_option maxRecDepth 100000 in
theorem k_MO_pushed_L72 (l : Launch) {p : Program} {e : Env} {s : State} {m : MethodId} {below : List Frame} {meth : Method} {c : Code} {b n : Nat} {C : CT} (hlo : 231 ≤ n) (x1 : Int) (x2 : Int) (x3 : Int) (hx1 : InR x1) (hx2 : InR x2) (hx3 : InR x3) (F : Cx b p m c b_MO_pushed 7 s ([.ref (b + 191), vI x1, vI x2, vI x3] : List Value).toArray "WardFallsModel" C n 231) (hlk : meth.locks = false) (hr : meth.sig.returnType = some .int) {res : Mem × Int} (bk63 : Mem → Int → Int → Option (Mem × Int)) (hbk63 : ∀ (M : Mem) (v2_ : Int) (hv2_ : InR v2_) (v3_ : Int) (hv3_ : InR v3_) (H : Heap) (locs : List Loc) (ls : Array Slot), St b C n M s H locs → lv_has ls 7 [(0, .ref (b + 191)), (3, vI x3), (4, vI v2_), (5, vI v3_)] → bk63 M v2_ v3_ = some res → W p l e (headSpec (wsM y_MO_pushed b_MO_pushed 7 (some .int)) (rmD 6)).room s m ([.ref (b + 191), vI x1, vI x2, vI x3] : List Value).toArray below meth c H locs 0 0 (MQ below (QI b C n res.1 res.2) ([.ref (b + 191), vI x1, vI x2, vI x3] : List Value).toArray s 0 0 (frb b)) (F0 m 63 ls [])) : ∀ (fu : Nat) (M : Mem) (v2_ : Int) (hv2_ : InR v2_) (v3_ : Int) (hv3_ : InR v3_) (v4_ : Int) (hv4_ : InR v4_) (H : Heap) (locs : List Loc) (ls : Array Slot), St b C n M s H locs → lv_has ls 7 [(0, .ref (b + 191)), (3, vI x3), (4, vI v2_), (5, vI v3_), (6, vI v4_)] → t_MO_pushed_L72 x1 x2 x3 bk63 fu M v2_ v3_ v4_ = some res → W p l e (headSpec (wsM y_MO_pushed b_MO_pushed 7 (some .int)) (rmD 6)).room s m ([.ref (b + 191), vI x1, vI x2, vI x3] : List Value).toArray below meth c H locs 0 0 (MQ below (QI b C n res.1 res.2) ([.ref (b + 191), vI x1, vI x2, vI x3] : List Value).toArray s 0 0 (frb b)) (F0 m 72 ls []) := by
  intro fu
  induction fu with
  | zero => intro M v2_ hv2_ v3_ hv3_ v4_ hv4_ H locs ls hS hl hT; exact absurd hT (by simp [t_MO_pushed_L72])
  | succ fu ih =>
    intro M v2_ hv2_ v3_ hv3_ v4_ hv4_ H locs ls hS hl hT
    rw [t_MO_pushed_L72] at hT
    refine lv_aload_n F.hx F.hb d_MO_pushed_72 rfl (lv_at hl 0 rfl) ?_
    refine lv_iload F.hx F.hb d_MO_pushed_73 (lv_at hl 2 rfl) ?_
    refine lv_iload F.hx F.hb d_MO_pushed_75 (lv_at hl 4 rfl) ?_
    obtain ⟨q18, hq18, hT⟩ := q_obind hT
    refine r_backZ F hS (r_runV (k := 191) (N := 68) (T := T1) (As := [vI v2_, vI v4_]) F hS (show 191 < 231 by decide) (show shK 191 = 5 from rfl) rfl (c_MO_isPushed l F.2.2.1 M v2_ v4_ hv2_ hv4_ _ hq18) gs_MO_474 hd_MO_isPushed ⟨Nat.le_of_ble_eq_true rfl, Nat.le_of_ble_eq_true rfl⟩ rfl hl.1 (Nat.le_of_ble_eq_true rfl) ⟨Nat.zero_le _, Nat.zero_le _⟩ rfl d_MO_pushed_77) (fun H locs hS h19 => ?_)
    refine r_if_ne (tgt := 89) F.hx F.hb (inr_z h19) d_MO_pushed_80 (by decide) (fun c20 => ?_) (fun c20 => ?_)
    · replace hT := (if_neg c20).symm.trans hT
      refine lv_aload_n F.hx F.hb d_MO_pushed_89 rfl (lv_at hl 0 rfl) ?_
      refine lv_iload F.hx F.hb d_MO_pushed_90 (lv_at hl 2 rfl) ?_
      refine lv_iload F.hx F.hb d_MO_pushed_92 (lv_at hl 4 rfl) ?_
      obtain ⟨q21, hq21, hT⟩ := q_obind hT
      refine r_backI F hS (r_runV (k := 191) (N := 68) (T := T1) (As := [vI v2_, vI v4_]) F hS (show 191 < 231 by decide) (show shK 191 = 5 from rfl) rfl (c_MO_beside l F.2.2.1 (q18.1) v2_ v4_ hv2_ hv4_ _ hq21) gs_MO_338 hd_MO_beside ⟨Nat.le_of_ble_eq_true rfl, Nat.le_of_ble_eq_true rfl⟩ rfl hl.1 (Nat.le_of_ble_eq_true rfl) ⟨Nat.zero_le _, Nat.zero_le _⟩ rfl d_MO_pushed_94) (fun H locs hS h22 => ?_)
      refine lv_istore (lv' := [(4, vI q21), (0, .ref (b + 191)), (3, vI x3), (5, vI v3_), (6, vI v4_)]) F.hx F.hb d_MO_pushed_97 hl (Nat.le_of_ble_eq_true rfl) rfl (fun ls hl => ?_)
      refine lv_iinc (v := Int32.ofInt (w32 (v3_ + 1))) (lv' := [(5, vI (w32 (v3_ + 1))), (4, vI q21), (0, .ref (b + 191)), (3, vI x3), (6, vI v4_)]) F.hx F.hb d_MO_pushed_99 hl (k := 3) rfl (q_of_add _ _) (Nat.le_of_ble_eq_true rfl) rfl (fun ls hl => ?_)
      refine lv_goto (tgt := 63) F.hx F.hb d_MO_pushed_102 (by decide) ?_
      exact hbk63 (q18.1) q21 h22 (w32 (v3_ + 1)) (inr_w32 _) _ _ _ hS (lv_sub hl [2, 3, 1, 0] rfl) hT
    · replace hT := (if_pos c20).symm.trans hT
      refine lv_iinc (v := Int32.ofInt (w32 (v4_ + 1))) (lv' := [(6, vI (w32 (v4_ + 1))), (0, .ref (b + 191)), (3, vI x3), (4, vI v2_), (5, vI v3_)]) F.hx F.hb d_MO_pushed_83 hl (k := 4) rfl (q_of_add _ _) (Nat.le_of_ble_eq_true rfl) rfl (fun ls hl => ?_)
      refine lv_goto (tgt := 72) F.hx F.hb d_MO_pushed_86 (by decide) ?_
      exact ih (q18.1) v2_ hv2_ v3_ hv3_ (w32 (v4_ + 1)) (inr_w32 _) _ _ _ hS (lv_sub hl [1, 2, 3, 4, 0] rfl) hT
set_option maxHeartbeats 4000000 in
set_option maxRecDepth 100000 in
theorem k_MO_pushed_L63 (l : Launch) {p : Program} {e : Env} {s : State} {m : MethodId} {below : List Frame} {meth : Method} {c : Code} {b n : Nat} {C : CT} (hlo : 231 ≤ n) (x1 : Int) (x2 : Int) (x3 : Int) (hx1 : InR x1) (hx2 : InR x2) (hx3 : InR x3) (F : Cx b p m c b_MO_pushed 7 s ([.ref (b + 191), vI x1, vI x2, vI x3] : List Value).toArray "WardFallsModel" C n 231) (hlk : meth.locks = false) (hr : meth.sig.returnType = some .int) {res : Mem × Int} : ∀ (fu : Nat) (M : Mem) (v2_ : Int) (hv2_ : InR v2_) (v3_ : Int) (hv3_ : InR v3_) (H : Heap) (locs : List Loc) (ls : Array Slot), St b C n M s H locs → lv_has ls 7 [(0, .ref (b + 191)), (3, vI x3), (4, vI v2_), (5, vI v3_)] → t_MO_pushed_L63 x1 x2 x3 fu M v2_ v3_ = some res → W p l e (headSpec (wsM y_MO_pushed b_MO_pushed 7 (some .int)) (rmD 6)).room s m ([.ref (b + 191), vI x1, vI x2, vI x3] : List Value).toArray below meth c H locs 0 0 (MQ below (QI b C n res.1 res.2) ([.ref (b + 191), vI x1, vI x2, vI x3] : List Value).toArray s 0 0 (frb b)) (F0 m 63 ls []) := by
  intro fu
  induction fu with
  | zero => intro M v2_ hv2_ v3_ hv3_ H locs ls hS hl hT; exact absurd hT (by simp [t_MO_pushed_L63])
  | succ fu ih =>
    intro M v2_ hv2_ v3_ hv3_ H locs ls hS hl hT
    rw [t_MO_pushed_L63] at hT
    refine lv_iload F.hx F.hb d_MO_pushed_63 (lv_at hl 3 rfl) ?_
    refine lv_iload_n F.hx F.hb d_MO_pushed_65 rfl (lv_at hl 1 rfl) ?_
    refine r_icmp_ge (tgt := 105) F.hx F.hb hv3_ hx3 d_MO_pushed_66 (by decide) (fun c17 => ?_) (fun c17 => ?_)
    · replace hT := (if_pos c17).symm.trans hT
      refine lv_iload F.hx F.hb d_MO_pushed_105 (lv_at hl 2 rfl) ?_
      cases hT
      exact r_iret F hlk hr rfl hS hv2_ d_MO_pushed_107
    · replace hT := (if_neg c17).symm.trans hT
      refine r_iconst F.hx F.hb d_MO_pushed_69 ?_
      refine lv_istore (lv' := [(6, vI 0), (0, .ref (b + 191)), (3, vI x3), (4, vI v2_), (5, vI v3_)]) F.hx F.hb d_MO_pushed_70 hl (Nat.le_of_ble_eq_true rfl) rfl (fun ls hl => ?_)
      exact k_MO_pushed_L72 l hlo x1 x2 x3 hx1 hx2 hx3 F hlk hr (fun a0_ a1_ a2_ => t_MO_pushed_L63 x1 x2 x3 fu a0_ a1_ a2_) ih FU M v2_ hv2_ v3_ hv3_ 0 (inr_c rfl) _ _ _ hS (lv_sub hl [1, 2, 3, 4, 0] rfl) hT
set_option maxHeartbeats 4000000 in
set_option maxRecDepth 100000 in
theorem c_MO_pushed (l : Launch) {b n : Nat} {C : CT} (hlo : 231 ≤ n) (M : Mem) (x1 : Int) (x2 : Int) (x3 : Int) (hx1 : InR x1) (hx2 : InR x2) (hx3 : InR x3) (res : Mem × Int) (hT : t_MO_pushed M x1 x2 x3 = some res) : CM l b C n 6 y_MO_pushed b_MO_pushed 7 (some .int) [.ref (b + 191), vI x1, vI x2, vI x3] M (QI b C n res.1 res.2) := by
  refine CM.of (lo := 231) (ow := "WardFallsModel") (by decide) rfl (Nat.le_of_ble_eq_true rfl) hlo (fun p e s m below meth c F hlk hr hS ls hl => ?_)
  have hl : lv_has ls 7 [(0, .ref (b + 191)), (1, vI x1), (2, vI x2), (3, vI x3)] := hl
  unfold t_MO_pushed at hT
  refine lv_aload_n F.hx F.hb d_MO_pushed_0 rfl (lv_at hl 0 rfl) ?_
  refine r_iconst F.hx F.hb d_MO_pushed_1 ?_
  refine r_putI (N := 68) (T := T1) (j := 0) F hS (show 191 < 231 by decide) (show shK 191 = 5 from rfl) (show shN 191 = 68 from rfl) rfl (Nat.le_of_ble_eq_true rfl) ing1 tyok1 nm1 rfl rfl rfl rfl rfl rfl mw_1389 (inr_c rfl) d_MO_pushed_2 (fun H locs hS => ?_)
  obtain ⟨M1, eM1⟩ : ∃ q, q = (setI M 191 0 0) := ⟨_, rfl⟩
  replace hS : St b C n M1 s H locs := by rw [eM1]; exact hS
  replace hT := qlet_eq hT eM1
  refine lv_aload_n F.hx F.hb d_MO_pushed_5 rfl (lv_at hl 0 rfl) ?_
  refine lv_iload_n F.hx F.hb d_MO_pushed_6 rfl (lv_at hl 1 rfl) ?_
  obtain ⟨q2, hq2, hT⟩ := q_obind hT
  refine r_backZ F hS (r_runV (k := 191) (N := 68) (T := T1) (As := [vI x1]) F hS (show 191 < 231 by decide) (show shK 191 = 5 from rfl) rfl (c_MO_isOpen l F.2.2.1 M1 x1 hx1 _ hq2) gs_MO_428 hd_MO_isOpen ⟨Nat.le_of_ble_eq_true rfl, Nat.le_of_ble_eq_true rfl⟩ rfl hl.1 (Nat.le_of_ble_eq_true rfl) ⟨Nat.zero_le _, Nat.zero_le _⟩ rfl d_MO_pushed_7) (fun H locs hS h3 => ?_)
  refine r_if_eq (tgt := 25) F.hx F.hb (inr_z h3) d_MO_pushed_10 (by decide) (fun c4 => ?_) (fun c4 => ?_)
  · replace hT := (if_pos c4).symm.trans hT
    refine r_iconst F.hx F.hb d_MO_pushed_25 ?_
    cases hT
    exact r_iret F hlk hr rfl hS (inr_c rfl) d_MO_pushed_26
  · replace hT := (if_neg c4).symm.trans hT
    refine lv_aload_n F.hx F.hb d_MO_pushed_13 rfl (lv_at hl 0 rfl) ?_
    refine lv_iload_n F.hx F.hb d_MO_pushed_14 rfl (lv_at hl 2 rfl) ?_
    obtain ⟨q5, hq5, hT⟩ := q_obind hT
    refine r_backZ F hS (r_runV (k := 191) (N := 68) (T := T1) (As := [vI x2]) F hS (show 191 < 231 by decide) (show shK 191 = 5 from rfl) rfl (c_MO_isOpen l F.2.2.1 M1 x2 hx2 _ hq5) gs_MO_428 hd_MO_isOpen ⟨Nat.le_of_ble_eq_true rfl, Nat.le_of_ble_eq_true rfl⟩ rfl hl.1 (Nat.le_of_ble_eq_true rfl) ⟨Nat.zero_le _, Nat.zero_le _⟩ rfl d_MO_pushed_15) (fun H locs hS h6 => ?_)
    refine r_if_eq (tgt := 25) F.hx F.hb (inr_z h6) d_MO_pushed_18 (by decide) (fun c7 => ?_) (fun c7 => ?_)
    · replace hT := (if_pos c7).symm.trans hT
      refine r_iconst F.hx F.hb d_MO_pushed_25 ?_
      cases hT
      exact r_iret F hlk hr rfl hS (inr_c rfl) d_MO_pushed_26
    · replace hT := (if_neg c7).symm.trans hT
      refine lv_iload_n F.hx F.hb d_MO_pushed_21 rfl (lv_at hl 3 rfl) ?_
      refine r_if_ge (tgt := 27) F.hx F.hb hx3 d_MO_pushed_22 (by decide) (fun c8 => ?_) (fun c8 => ?_)
      · replace hT := (if_pos c8).symm.trans hT
        refine lv_aload_n F.hx F.hb d_MO_pushed_27 rfl (lv_at hl 0 rfl) ?_
        refine lv_iload_n F.hx F.hb d_MO_pushed_28 rfl (lv_at hl 2 rfl) ?_
        obtain ⟨q9, hq9, hT⟩ := q_obind hT
        refine r_backV F hS (r_runV (k := 191) (N := 68) (T := T1) (As := [vI x2]) F hS (show 191 < 231 by decide) (show shK 191 = 5 from rfl) rfl (c_MO_layPush l F.2.2.1 M1 x2 hx2 _ hq9) gs_MO_471 hd_MO_layPush ⟨Nat.le_of_ble_eq_true rfl, Nat.le_of_ble_eq_true rfl⟩ rfl hl.1 (Nat.le_of_ble_eq_true rfl) ⟨Nat.zero_le _, Nat.zero_le _⟩ rfl d_MO_pushed_29) (fun H locs hS => ?_)
        refine lv_aload_n F.hx F.hb d_MO_pushed_32 rfl (lv_at hl 0 rfl) ?_
        refine r_get (v := .ref (b + 223)) (N := 68) (T := T1) (j := 56) F hS (show 191 < 231 by decide) (show shK 191 = 5 from rfl) (show shN 191 = 68 from rfl) rfl (Nat.le_of_ble_eq_true rfl) ing1 mw_1445 (fv_sg rfl rfl rfl) d_MO_pushed_33 ?_
        refine lv_iload_n F.hx F.hb d_MO_pushed_36 rfl (lv_at hl 1 rfl) ?_
        obtain ⟨⟨g11a, g11b⟩, hT⟩ := q_guard hT
        refine r_iald F hS (show 223 < 231 by decide) (show shK 223 = 0 from rfl) (show shN 223 = 48 from rfl) hx1 g11a g11b d_MO_pushed_37 ?_
        have i12 := hS.rng 223 x1
        refine lv_ldcw (v := Int32.ofInt 1000000) F.hx F.hb F.hown (F.hts mw_1943) d_MO_pushed_38 ?_
        refine r_icmp_ge (tgt := 54) F.hx F.hb i12 (inr_c rfl) d_MO_pushed_41 (by decide) (fun c13 => ?_) (fun c13 => ?_)
        · replace hT := (if_pos c13).symm.trans hT
          refine r_bipush F.hx F.hb d_MO_pushed_54 rfl ?_
          cases hT
          exact r_iret F hlk hr rfl hS (inr_c rfl) d_MO_pushed_56
        · replace hT := (if_neg c13).symm.trans hT
          refine lv_iload_n F.hx F.hb d_MO_pushed_44 rfl (lv_at hl 3 rfl) ?_
          refine lv_aload_n F.hx F.hb d_MO_pushed_45 rfl (lv_at hl 0 rfl) ?_
          refine r_get (v := .ref (b + 222)) (N := 68) (T := T1) (j := 55) F hS (show 191 < 231 by decide) (show shK 191 = 5 from rfl) (show shN 191 = 68 from rfl) rfl (Nat.le_of_ble_eq_true rfl) ing1 mw_1444 (fv_sg rfl rfl rfl) d_MO_pushed_46 ?_
          refine lv_iload_n F.hx F.hb d_MO_pushed_49 rfl (lv_at hl 1 rfl) ?_
          obtain ⟨⟨g14a, g14b⟩, hT⟩ := q_guard hT
          refine r_iald F hS (show 222 < 231 by decide) (show shK 222 = 0 from rfl) (show shN 222 = 48 from rfl) hx1 g14a g14b d_MO_pushed_50 ?_
          have i15 := hS.rng 222 x1
          refine r_icmp_le (tgt := 57) F.hx F.hb hx3 i15 d_MO_pushed_51 (by decide) (fun c16 => ?_) (fun c16 => ?_)
          · replace hT := (if_pos c16).symm.trans hT
            refine lv_iload_n F.hx F.hb d_MO_pushed_57 rfl (lv_at hl 1 rfl) ?_
            refine lv_istore (lv' := [(4, vI x1), (0, .ref (b + 191)), (1, vI x1), (2, vI x2), (3, vI x3)]) F.hx F.hb d_MO_pushed_58 hl (Nat.le_of_ble_eq_true rfl) rfl (fun ls hl => ?_)
            refine r_iconst F.hx F.hb d_MO_pushed_60 ?_
            refine lv_istore (lv' := [(5, vI 0), (4, vI x1), (0, .ref (b + 191)), (1, vI x1), (2, vI x2), (3, vI x3)]) F.hx F.hb d_MO_pushed_61 hl (Nat.le_of_ble_eq_true rfl) rfl (fun ls hl => ?_)
            exact k_MO_pushed_L63 l hlo x1 x2 x3 hx1 hx2 hx3 F hlk hr FU q9 x1 hx1 0 (inr_c rfl) _ _ _ hS (lv_sub hl [2, 5, 1, 0] rfl) hT
          · replace hT := (if_neg c16).symm.trans hT
            refine r_bipush F.hx F.hb d_MO_pushed_54 rfl ?_
            cases hT
            exact r_iret F hlk hr rfl hS (inr_c rfl) d_MO_pushed_56
      · replace hT := (if_neg c8).symm.trans hT
        refine r_iconst F.hx F.hb d_MO_pushed_25 ?_
        cases hT
        exact r_iret F hlk hr rfl hS (inr_c rfl) d_MO_pushed_26
theorem d_MO_war_0 : decode b_MO_war 0 = .ok (.aload_n 0, 1) := dc_42 (by decide +kernel)
theorem d_MO_war_1 : decode b_MO_war 1 = .ok (.iconst 0, 1) := dc_3 (by decide +kernel)
theorem d_MO_war_2 : decode b_MO_war 2 = .ok (.putfield 145, 3) := dc_181 (by decide +kernel)
theorem d_MO_war_5 : decode b_MO_war 5 = .ok (.aload_n 0, 1) := dc_42 (by decide +kernel)
theorem d_MO_war_6 : decode b_MO_war 6 = .ok (.iload_n 1, 1) := dc_27 (by decide +kernel)
theorem d_MO_war_7 : decode b_MO_war 7 = .ok (.invokevirtual 369, 3) := dc_182 (by decide +kernel)
theorem d_MO_war_10 : decode b_MO_war 10 = .ok (.ifCond .eq 16, 3) := dc_153 (by decide +kernel)
theorem d_MO_war_13 : decode b_MO_war 13 = .ok (.aload_n 0, 1) := dc_42 (by decide +kernel)
theorem d_MO_war_14 : decode b_MO_war 14 = .ok (.iload_n 2, 1) := dc_28 (by decide +kernel)
theorem d_MO_war_15 : decode b_MO_war 15 = .ok (.invokevirtual 369, 3) := dc_182 (by decide +kernel)
theorem d_MO_war_18 : decode b_MO_war 18 = .ok (.ifCond .eq 8, 3) := dc_153 (by decide +kernel)
theorem d_MO_war_21 : decode b_MO_war 21 = .ok (.iload_n 1, 1) := dc_27 (by decide +kernel)
theorem d_MO_war_22 : decode b_MO_war 22 = .ok (.iload_n 2, 1) := dc_28 (by decide +kernel)
theorem d_MO_war_23 : decode b_MO_war 23 = .ok (.if_icmp .ne 5, 3) := dc_160 (by decide +kernel)
theorem d_MO_war_26 : decode b_MO_war 26 = .ok (.iconst (-1), 1) := dc_2 (by decide +kernel)
theorem d_MO_war_27 : decode b_MO_war 27 = .ok (.ireturn, 1) := dc_172 (by decide +kernel)
theorem d_MO_war_28 : decode b_MO_war 28 = .ok (.iconst 0, 1) := dc_3 (by decide +kernel)
theorem d_MO_war_29 : decode b_MO_war 29 = .ok (.istore_n 3, 1) := dc_62 (by decide +kernel)
theorem d_MO_war_30 : decode b_MO_war 30 = .ok (.iconst 0, 1) := dc_3 (by decide +kernel)
theorem d_MO_war_31 : decode b_MO_war 31 = .ok (.istore 4, 2) := dc_54 (by decide +kernel)
theorem d_MO_war_33 : decode b_MO_war 33 = .ok (.iload 4, 2) := dc_21 (by decide +kernel)
theorem d_MO_war_35 : decode b_MO_war 35 = .ok (.aload_n 0, 1) := dc_42 (by decide +kernel)
theorem d_MO_war_36 : decode b_MO_war 36 = .ok (.invokevirtual 329, 3) := dc_182 (by decide +kernel)
theorem d_MO_war_39 : decode b_MO_war 39 = .ok (.if_icmp .ge 67, 3) := dc_162 (by decide +kernel)
theorem d_MO_war_42 : decode b_MO_war 42 = .ok (.aload_n 0, 1) := dc_42 (by decide +kernel)
theorem d_MO_war_43 : decode b_MO_war 43 = .ok (.getfield 28, 3) := dc_180 (by decide +kernel)
theorem d_MO_war_46 : decode b_MO_war 46 = .ok (.iload 4, 2) := dc_21 (by decide +kernel)
theorem d_MO_war_48 : decode b_MO_war 48 = .ok (.baload, 1) := dc_51 (by decide +kernel)
theorem d_MO_war_49 : decode b_MO_war 49 = .ok (.ifCond .ne 51, 3) := dc_154 (by decide +kernel)
theorem d_MO_war_52 : decode b_MO_war 52 = .ok (.aload_n 0, 1) := dc_42 (by decide +kernel)
theorem d_MO_war_53 : decode b_MO_war 53 = .ok (.getfield 25, 3) := dc_180 (by decide +kernel)
theorem d_MO_war_56 : decode b_MO_war 56 = .ok (.iload 4, 2) := dc_21 (by decide +kernel)
theorem d_MO_war_58 : decode b_MO_war 58 = .ok (.iaload, 1) := dc_46 (by decide +kernel)
theorem d_MO_war_59 : decode b_MO_war 59 = .ok (.iload_n 1, 1) := dc_27 (by decide +kernel)
theorem d_MO_war_60 : decode b_MO_war 60 = .ok (.iconst 1, 1) := dc_4 (by decide +kernel)
theorem d_MO_war_61 : decode b_MO_war 61 = .ok (.iadd, 1) := dc_96 (by decide +kernel)
theorem d_MO_war_62 : decode b_MO_war 62 = .ok (.if_icmp .eq 6, 3) := dc_159 (by decide +kernel)
theorem d_MO_war_65 : decode b_MO_war 65 = .ok (.goto 35, 3) := dc_167 (by decide +kernel)
theorem d_MO_war_68 : decode b_MO_war 68 = .ok (.aload_n 0, 1) := dc_42 (by decide +kernel)
theorem d_MO_war_69 : decode b_MO_war 69 = .ok (.iconst 0, 1) := dc_3 (by decide +kernel)
theorem d_MO_war_70 : decode b_MO_war 70 = .ok (.iload 4, 2) := dc_21 (by decide +kernel)
theorem d_MO_war_72 : decode b_MO_war 72 = .ok (.invokevirtual 414, 3) := dc_182 (by decide +kernel)
theorem d_MO_war_75 : decode b_MO_war 75 = .ok (.iload_n 3, 1) := dc_29 (by decide +kernel)
theorem d_MO_war_76 : decode b_MO_war 76 = .ok (.aload_n 0, 1) := dc_42 (by decide +kernel)
theorem d_MO_war_77 : decode b_MO_war 77 = .ok (.getfield 341, 3) := dc_180 (by decide +kernel)
theorem d_MO_war_80 : decode b_MO_war 80 = .ok (.ifCond .le 17, 3) := dc_158 (by decide +kernel)
theorem d_MO_war_83 : decode b_MO_war 83 = .ok (.aload_n 0, 1) := dc_42 (by decide +kernel)
theorem d_MO_war_84 : decode b_MO_war 84 = .ok (.getfield 344, 3) := dc_180 (by decide +kernel)
theorem d_MO_war_87 : decode b_MO_war 87 = .ok (.iload_n 2, 1) := dc_28 (by decide +kernel)
theorem d_MO_war_88 : decode b_MO_war 88 = .ok (.iconst 1, 1) := dc_4 (by decide +kernel)
theorem d_MO_war_89 : decode b_MO_war 89 = .ok (.iadd, 1) := dc_96 (by decide +kernel)
theorem d_MO_war_90 : decode b_MO_war 90 = .ok (.if_icmp .ne 7, 3) := dc_160 (by decide +kernel)
theorem d_MO_war_93 : decode b_MO_war 93 = .ok (.iconst 1, 1) := dc_4 (by decide +kernel)
theorem d_MO_war_94 : decode b_MO_war 94 = .ok (.goto 4, 3) := dc_167 (by decide +kernel)
theorem d_MO_war_97 : decode b_MO_war 97 = .ok (.iconst 0, 1) := dc_3 (by decide +kernel)
theorem d_MO_war_98 : decode b_MO_war 98 = .ok (.iadd, 1) := dc_96 (by decide +kernel)
theorem d_MO_war_99 : decode b_MO_war 99 = .ok (.istore_n 3, 1) := dc_62 (by decide +kernel)
theorem d_MO_war_100 : decode b_MO_war 100 = .ok (.iinc 4 1, 3) := dc_132 (by decide +kernel)
theorem d_MO_war_103 : decode b_MO_war 103 = .ok (.goto (-70), 3) := dc_167 (by decide +kernel)
theorem d_MO_war_106 : decode b_MO_war 106 = .ok (.iload_n 3, 1) := dc_29 (by decide +kernel)
theorem d_MO_war_107 : decode b_MO_war 107 = .ok (.ireturn, 1) := dc_172 (by decide +kernel)
def t_MO_war_L100 (x1 : Int) (x2 : Int) (bk33 : Mem → Int → Int → Option (Mem × Int)) (M : Mem) (v3_ : Int) (v4_ : Int) : Option (Mem × Int) := (bk33 M v3_ (w32 (v4_ + 1)))
def t_MO_war_L98 (x1 : Int) (x2 : Int) (bk33 : Mem → Int → Int → Option (Mem × Int)) (M : Mem) (v3_ : Int) (v4_ : Int) (v5_ : Int) : Option (Mem × Int) := (t_MO_war_L100 x1 x2 bk33 M (w32 (v4_ + v5_)) v3_)
def t_MO_war_L97 (x1 : Int) (x2 : Int) (bk33 : Mem → Int → Int → Option (Mem × Int)) (M : Mem) (v3_ : Int) (v4_ : Int) : Option (Mem × Int) := (t_MO_war_L98 x1 x2 bk33 M v3_ v4_ 0)
def t_MO_war_L33 (x1 : Int) (x2 : Int)  : Nat → Mem → Int → Int → Option (Mem × Int)
  | 0, _, _, _ => none
  | fu + 1, M, v3_, v4_ => (qlet (t_MO_cells M) fun q9 => (if q9 ≤ v4_ then (some (M, v3_)) else (qguard (0 ≤ v4_ ∧ v4_ < 96) (if (M.1 198 v4_) = 0 then (qguard (0 ≤ v4_ ∧ v4_ < 96) (if (M.1 197 v4_) = (w32 (x1 + 1)) then (obind (t_MO_goesFrom M 0 v4_) fun q18 => (if (q18.1 191 49) ≤ 0 then (t_MO_war_L97 x1 x2 (fun a0_ a1_ a2_ => t_MO_war_L33 x1 x2 fu a0_ a1_ a2_) q18 v4_ v3_) else (if (q18.1 191 50) = (w32 (x2 + 1)) then (t_MO_war_L98 x1 x2 (fun a0_ a1_ a2_ => t_MO_war_L33 x1 x2 fu a0_ a1_ a2_) q18 v4_ v3_ 1) else (t_MO_war_L97 x1 x2 (fun a0_ a1_ a2_ => t_MO_war_L33 x1 x2 fu a0_ a1_ a2_) q18 v4_ v3_)))) else (t_MO_war_L100 x1 x2 (fun a0_ a1_ a2_ => t_MO_war_L33 x1 x2 fu a0_ a1_ a2_) M v3_ v4_))) else (t_MO_war_L100 x1 x2 (fun a0_ a1_ a2_ => t_MO_war_L33 x1 x2 fu a0_ a1_ a2_) M v3_ v4_)))))
def t_MO_war (M : Mem) (x1 : Int) (x2 : Int) : Option (Mem × Int) := (qlet (setI M 191 0 0) fun M1 => (qlet (t_MO_isWard M1 x1) fun q2 => (if q2 = 0 then (some (M1, (-1))) else (qlet (t_MO_isWard M1 x2) fun q5 => (if q5 = 0 then (some (M1, (-1))) else (if x1 = x2 then (some (M1, (-1))) else (t_MO_war_L33 x1 x2 FU M1 0 0)))))))
set_option maxHeartbeats 4000000 in
set_option maxRecDepth 100000 in
theorem k_MO_war_L100 (l : Launch) {p : Program} {e : Env} {s : State} {m : MethodId} {below : List Frame} {meth : Method} {c : Code} {b n : Nat} {C : CT} (hlo : 231 ≤ n) (x1 : Int) (x2 : Int) (hx1 : InR x1) (hx2 : InR x2) (F : Cx b p m c b_MO_war 5 s ([.ref (b + 191), vI x1, vI x2] : List Value).toArray "WardFallsModel" C n 231) (hlk : meth.locks = false) (hr : meth.sig.returnType = some .int) {res : Mem × Int} (bk33 : Mem → Int → Int → Option (Mem × Int)) (hbk33 : ∀ (M : Mem) (v3_ : Int) (hv3_ : InR v3_) (v4_ : Int) (hv4_ : InR v4_) (H : Heap) (locs : List Loc) (ls : Array Slot), St b C n M s H locs → lv_has ls 5 [(0, .ref (b + 191)), (1, vI x1), (2, vI x2), (3, vI v3_), (4, vI v4_)] → bk33 M v3_ v4_ = some res → W p l e (headSpec (wsM y_MO_war b_MO_war 5 (some .int)) (rmD 3)).room s m ([.ref (b + 191), vI x1, vI x2] : List Value).toArray below meth c H locs 0 0 (MQ below (QI b C n res.1 res.2) ([.ref (b + 191), vI x1, vI x2] : List Value).toArray s 0 0 (frb b)) (F0 m 33 ls [])) (M : Mem) (v3_ : Int) (hv3_ : InR v3_) (v4_ : Int) (hv4_ : InR v4_) (H : Heap) (locs : List Loc) (ls : Array Slot) (hS : St b C n M s H locs) (hl : lv_has ls 5 [(0, .ref (b + 191)), (1, vI x1), (2, vI x2), (3, vI v3_), (4, vI v4_)]) (hT : t_MO_war_L100 x1 x2 bk33 M v3_ v4_ = some res) : W p l e (headSpec (wsM y_MO_war b_MO_war 5 (some .int)) (rmD 3)).room s m ([.ref (b + 191), vI x1, vI x2] : List Value).toArray below meth c H locs 0 0 (MQ below (QI b C n res.1 res.2) ([.ref (b + 191), vI x1, vI x2] : List Value).toArray s 0 0 (frb b)) (F0 m 100 ls []) := by
  unfold t_MO_war_L100 at hT
  refine lv_iinc (v := Int32.ofInt (w32 (v4_ + 1))) (lv' := [(4, vI (w32 (v4_ + 1))), (0, .ref (b + 191)), (1, vI x1), (2, vI x2), (3, vI v3_)]) F.hx F.hb d_MO_war_100 hl (k := 4) rfl (q_of_add _ _) (Nat.le_of_ble_eq_true rfl) rfl (fun ls hl => ?_)
  refine lv_goto (tgt := 33) F.hx F.hb d_MO_war_103 (by decide) ?_
  exact hbk33 M v3_ hv3_ (w32 (v4_ + 1)) (inr_w32 _) _ _ _ hS (lv_sub hl [1, 2, 3, 4, 0] rfl) hT
set_option maxHeartbeats 4000000 in
set_option maxRecDepth 100000 in
theorem k_MO_war_L98 (l : Launch) {p : Program} {e : Env} {s : State} {m : MethodId} {below : List Frame} {meth : Method} {c : Code} {b n : Nat} {C : CT} (hlo : 231 ≤ n) (x1 : Int) (x2 : Int) (hx1 : InR x1) (hx2 : InR x2) (F : Cx b p m c b_MO_war 5 s ([.ref (b + 191), vI x1, vI x2] : List Value).toArray "WardFallsModel" C n 231) (hlk : meth.locks = false) (hr : meth.sig.returnType = some .int) {res : Mem × Int} (bk33 : Mem → Int → Int → Option (Mem × Int)) (hbk33 : ∀ (M : Mem) (v3_ : Int) (hv3_ : InR v3_) (v4_ : Int) (hv4_ : InR v4_) (H : Heap) (locs : List Loc) (ls : Array Slot), St b C n M s H locs → lv_has ls 5 [(0, .ref (b + 191)), (1, vI x1), (2, vI x2), (3, vI v3_), (4, vI v4_)] → bk33 M v3_ v4_ = some res → W p l e (headSpec (wsM y_MO_war b_MO_war 5 (some .int)) (rmD 3)).room s m ([.ref (b + 191), vI x1, vI x2] : List Value).toArray below meth c H locs 0 0 (MQ below (QI b C n res.1 res.2) ([.ref (b + 191), vI x1, vI x2] : List Value).toArray s 0 0 (frb b)) (F0 m 33 ls [])) (M : Mem) (v3_ : Int) (hv3_ : InR v3_) (v4_ : Int) (hv4_ : InR v4_) (v5_ : Int) (hv5_ : v5_ = 0 ∨ v5_ = 1) (H : Heap) (locs : List Loc) (ls : Array Slot) (hS : St b C n M s H locs) (hl : lv_has ls 5 [(0, .ref (b + 191)), (1, vI x1), (2, vI x2), (4, vI v3_)]) (hT : t_MO_war_L98 x1 x2 bk33 M v3_ v4_ v5_ = some res) : W p l e (headSpec (wsM y_MO_war b_MO_war 5 (some .int)) (rmD 3)).room s m ([.ref (b + 191), vI x1, vI x2] : List Value).toArray below meth c H locs 0 0 (MQ below (QI b C n res.1 res.2) ([.ref (b + 191), vI x1, vI x2] : List Value).toArray s 0 0 (frb b)) (F0 m 98 ls [vI v5_, vI v4_]) := by
  unfold t_MO_war_L98 at hT
  refine r_iadd F.hx F.hb d_MO_war_98 ?_
  refine lv_istore_n (lv' := [(3, vI (w32 (v4_ + v5_))), (0, .ref (b + 191)), (1, vI x1), (2, vI x2), (4, vI v3_)]) F.hx F.hb d_MO_war_99 rfl hl (Nat.le_of_ble_eq_true rfl) rfl (fun ls hl => ?_)
  exact k_MO_war_L100 l hlo x1 x2 hx1 hx2 F hlk hr bk33 hbk33 M (w32 (v4_ + v5_)) (inr_w32 _) v3_ hv3_ _ _ _ hS (lv_sub hl [1, 2, 3, 0, 4] rfl) hT
set_option maxHeartbeats 4000000 in
set_option maxRecDepth 100000 in
theorem k_MO_war_L97 (l : Launch) {p : Program} {e : Env} {s : State} {m : MethodId} {below : List Frame} {meth : Method} {c : Code} {b n : Nat} {C : CT} (hlo : 231 ≤ n) (x1 : Int) (x2 : Int) (hx1 : InR x1) (hx2 : InR x2) (F : Cx b p m c b_MO_war 5 s ([.ref (b + 191), vI x1, vI x2] : List Value).toArray "WardFallsModel" C n 231) (hlk : meth.locks = false) (hr : meth.sig.returnType = some .int) {res : Mem × Int} (bk33 : Mem → Int → Int → Option (Mem × Int)) (hbk33 : ∀ (M : Mem) (v3_ : Int) (hv3_ : InR v3_) (v4_ : Int) (hv4_ : InR v4_) (H : Heap) (locs : List Loc) (ls : Array Slot), St b C n M s H locs → lv_has ls 5 [(0, .ref (b + 191)), (1, vI x1), (2, vI x2), (3, vI v3_), (4, vI v4_)] → bk33 M v3_ v4_ = some res → W p l e (headSpec (wsM y_MO_war b_MO_war 5 (some .int)) (rmD 3)).room s m ([.ref (b + 191), vI x1, vI x2] : List Value).toArray below meth c H locs 0 0 (MQ below (QI b C n res.1 res.2) ([.ref (b + 191), vI x1, vI x2] : List Value).toArray s 0 0 (frb b)) (F0 m 33 ls [])) (M : Mem) (v3_ : Int) (hv3_ : InR v3_) (v4_ : Int) (hv4_ : InR v4_) (H : Heap) (locs : List Loc) (ls : Array Slot) (hS : St b C n M s H locs) (hl : lv_has ls 5 [(0, .ref (b + 191)), (1, vI x1), (2, vI x2), (4, vI v3_)]) (hT : t_MO_war_L97 x1 x2 bk33 M v3_ v4_ = some res) : W p l e (headSpec (wsM y_MO_war b_MO_war 5 (some .int)) (rmD 3)).room s m ([.ref (b + 191), vI x1, vI x2] : List Value).toArray below meth c H locs 0 0 (MQ below (QI b C n res.1 res.2) ([.ref (b + 191), vI x1, vI x2] : List Value).toArray s 0 0 (frb b)) (F0 m 97 ls [vI v4_]) := by
  unfold t_MO_war_L97 at hT
  refine r_iconst F.hx F.hb d_MO_war_97 ?_
  exact k_MO_war_L98 l hlo x1 x2 hx1 hx2 F hlk hr bk33 hbk33 M v3_ hv3_ v4_ hv4_ 0 (Or.inl rfl) _ _ _ hS (lv_sub hl [0, 1, 2, 3] rfl) hT
set_option maxHeartbeats 4000000 in
set_option maxRecDepth 100000 in
theorem k_MO_war_L33 (l : Launch) {p : Program} {e : Env} {s : State} {m : MethodId} {below : List Frame} {meth : Method} {c : Code} {b n : Nat} {C : CT} (hlo : 231 ≤ n) (x1 : Int) (x2 : Int) (hx1 : InR x1) (hx2 : InR x2) (F : Cx b p m c b_MO_war 5 s ([.ref (b + 191), vI x1, vI x2] : List Value).toArray "WardFallsModel" C n 231) (hlk : meth.locks = false) (hr : meth.sig.returnType = some .int) {res : Mem × Int} : ∀ (fu : Nat) (M : Mem) (v3_ : Int) (hv3_ : InR v3_) (v4_ : Int) (hv4_ : InR v4_) (H : Heap) (locs : List Loc) (ls : Array Slot), St b C n M s H locs → lv_has ls 5 [(0, .ref (b + 191)), (1, vI x1), (2, vI x2), (3, vI v3_), (4, vI v4_)] → t_MO_war_L33 x1 x2 fu M v3_ v4_ = some res → W p l e (headSpec (wsM y_MO_war b_MO_war 5 (some .int)) (rmD 3)).room s m ([.ref (b + 191), vI x1, vI x2] : List Value).toArray below meth c H locs 0 0 (MQ below (QI b C n res.1 res.2) ([.ref (b + 191), vI x1, vI x2] : List Value).toArray s 0 0 (frb b)) (F0 m 33 ls []) := by
  intro fu
  induction fu with
  | zero => intro M v3_ hv3_ v4_ hv4_ H locs ls hS hl hT; exact absurd hT (by simp [t_MO_war_L33])
  | succ fu ih =>
    intro M v3_ hv3_ v4_ hv4_ H locs ls hS hl hT
    rw [t_MO_war_L33] at hT
    refine lv_iload F.hx F.hb d_MO_war_33 (lv_at hl 4 rfl) ?_
    refine lv_aload_n F.hx F.hb d_MO_war_35 rfl (lv_at hl 0 rfl) ?_
    obtain ⟨q9, hq9⟩ : ∃ q, q = (t_MO_cells M) := ⟨_, rfl⟩
    replace hT := qlet_eq hT hq9
    refine r_backI F hS (r_runV (k := 191) (N := 68) (T := T1) (As := []) F hS (show 191 < 231 by decide) (show shK 191 = 5 from rfl) rfl (c_MO_cells l F.2.2.1 M _ hq9.symm) gs_MO_329 hd_MO_cells ⟨Nat.le_of_ble_eq_true rfl, Nat.le_of_ble_eq_true rfl⟩ rfl hl.1 (Nat.le_of_ble_eq_true rfl) ⟨Nat.zero_le _, Nat.zero_le _⟩ rfl d_MO_war_36) (fun H locs hS h10 => ?_)
    refine r_icmp_ge (tgt := 106) F.hx F.hb hv4_ h10 d_MO_war_39 (by decide) (fun c11 => ?_) (fun c11 => ?_)
    · replace hT := (if_pos c11).symm.trans hT
      refine lv_iload_n F.hx F.hb d_MO_war_106 rfl (lv_at hl 3 rfl) ?_
      cases hT
      exact r_iret F hlk hr rfl hS hv3_ d_MO_war_107
    · replace hT := (if_neg c11).symm.trans hT
      refine lv_aload_n F.hx F.hb d_MO_war_42 rfl (lv_at hl 0 rfl) ?_
      refine r_get (v := .ref (b + 198)) (N := 68) (T := T1) (j := 8) F hS (show 191 < 231 by decide) (show shK 191 = 5 from rfl) (show shN 191 = 68 from rfl) rfl (Nat.le_of_ble_eq_true rfl) ing1 mw_1397 (fv_sg rfl rfl rfl) d_MO_war_43 ?_
      refine lv_iload F.hx F.hb d_MO_war_46 (lv_at hl 4 rfl) ?_
      obtain ⟨⟨g12a, g12b⟩, hT⟩ := q_guard hT
      have z13 := hS.bool (show shK 198 = 1 from rfl) v4_
      refine r_zald F hS (show 198 < 231 by decide) (show shK 198 = 1 from rfl) (show shN 198 = 96 from rfl) hv4_ g12a g12b d_MO_war_48 ?_
      refine r_if_ne (tgt := 100) F.hx F.hb (inr_z z13) d_MO_war_49 (by decide) (fun c14 => ?_) (fun c14 => ?_)
      · replace hT := (if_neg c14).symm.trans hT
        exact k_MO_war_L100 l hlo x1 x2 hx1 hx2 F hlk hr (fun a0_ a1_ a2_ => t_MO_war_L33 x1 x2 fu a0_ a1_ a2_) ih M v3_ hv3_ v4_ hv4_ _ _ _ hS (lv_sub hl [0, 1, 2, 3, 4] rfl) hT
      · replace hT := (if_pos c14).symm.trans hT
        refine lv_aload_n F.hx F.hb d_MO_war_52 rfl (lv_at hl 0 rfl) ?_
        refine r_get (v := .ref (b + 197)) (N := 68) (T := T1) (j := 7) F hS (show 191 < 231 by decide) (show shK 191 = 5 from rfl) (show shN 191 = 68 from rfl) rfl (Nat.le_of_ble_eq_true rfl) ing1 mw_1396 (fv_sg rfl rfl rfl) d_MO_war_53 ?_
        refine lv_iload F.hx F.hb d_MO_war_56 (lv_at hl 4 rfl) ?_
        obtain ⟨⟨g15a, g15b⟩, hT⟩ := q_guard hT
        refine r_iald F hS (show 197 < 231 by decide) (show shK 197 = 0 from rfl) (show shN 197 = 96 from rfl) hv4_ g15a g15b d_MO_war_58 ?_
        have i16 := hS.rng 197 v4_
        refine lv_iload_n F.hx F.hb d_MO_war_59 rfl (lv_at hl 1 rfl) ?_
        refine r_iconst F.hx F.hb d_MO_war_60 ?_
        refine r_iadd F.hx F.hb d_MO_war_61 ?_
        refine r_icmp_eq (tgt := 68) F.hx F.hb i16 (inr_w32 _) d_MO_war_62 (by decide) (fun c17 => ?_) (fun c17 => ?_)
        · replace hT := (if_pos c17).symm.trans hT
          refine lv_aload_n F.hx F.hb d_MO_war_68 rfl (lv_at hl 0 rfl) ?_
          refine r_iconst F.hx F.hb d_MO_war_69 ?_
          refine lv_iload F.hx F.hb d_MO_war_70 (lv_at hl 4 rfl) ?_
          obtain ⟨q18, hq18, hT⟩ := q_obind hT
          refine r_backV F hS (r_runV (k := 191) (N := 68) (T := T1) (As := [vI 0, vI v4_]) F hS (show 191 < 231 by decide) (show shK 191 = 5 from rfl) rfl (c_MO_goesFrom l F.2.2.1 M 0 v4_ (inr_c rfl) hv4_ _ hq18) gs_MO_414 hd_MO_goesFrom ⟨Nat.le_of_ble_eq_true rfl, Nat.le_of_ble_eq_true rfl⟩ rfl hl.1 (Nat.le_of_ble_eq_true rfl) ⟨Nat.zero_le _, Nat.zero_le _⟩ rfl d_MO_war_72) (fun H locs hS => ?_)
          refine lv_iload_n F.hx F.hb d_MO_war_75 rfl (lv_at hl 3 rfl) ?_
          refine lv_aload_n F.hx F.hb d_MO_war_76 rfl (lv_at hl 0 rfl) ?_
          refine r_get (v := vI (q18.1 191 49)) (N := 68) (T := T1) (j := 49) F hS (show 191 < 231 by decide) (show shK 191 = 5 from rfl) (show shN 191 = 68 from rfl) rfl (Nat.le_of_ble_eq_true rfl) ing1 mw_1438 (fv_int rfl) d_MO_war_77 ?_
          have i20 := hS.rng 191 49
          refine r_if_le (tgt := 97) F.hx F.hb i20 d_MO_war_80 (by decide) (fun c21 => ?_) (fun c21 => ?_)
          · replace hT := (if_pos c21).symm.trans hT
            exact k_MO_war_L97 l hlo x1 x2 hx1 hx2 F hlk hr (fun a0_ a1_ a2_ => t_MO_war_L33 x1 x2 fu a0_ a1_ a2_) ih q18 v4_ hv4_ v3_ hv3_ _ _ _ hS (lv_sub hl [0, 1, 2, 4] rfl) hT
          · replace hT := (if_neg c21).symm.trans hT
            refine lv_aload_n F.hx F.hb d_MO_war_83 rfl (lv_at hl 0 rfl) ?_
            refine r_get (v := vI (q18.1 191 50)) (N := 68) (T := T1) (j := 50) F hS (show 191 < 231 by decide) (show shK 191 = 5 from rfl) (show shN 191 = 68 from rfl) rfl (Nat.le_of_ble_eq_true rfl) ing1 mw_1439 (fv_int rfl) d_MO_war_84 ?_
            have i22 := hS.rng 191 50
            refine lv_iload_n F.hx F.hb d_MO_war_87 rfl (lv_at hl 2 rfl) ?_
            refine r_iconst F.hx F.hb d_MO_war_88 ?_
            refine r_iadd F.hx F.hb d_MO_war_89 ?_
            refine r_icmp_ne (tgt := 97) F.hx F.hb i22 (inr_w32 _) d_MO_war_90 (by decide) (fun c23 => ?_) (fun c23 => ?_)
            · replace hT := (if_neg c23).symm.trans hT
              exact k_MO_war_L97 l hlo x1 x2 hx1 hx2 F hlk hr (fun a0_ a1_ a2_ => t_MO_war_L33 x1 x2 fu a0_ a1_ a2_) ih q18 v4_ hv4_ v3_ hv3_ _ _ _ hS (lv_sub hl [0, 1, 2, 4] rfl) hT
            · replace hT := (if_pos c23).symm.trans hT
              refine r_iconst F.hx F.hb d_MO_war_93 ?_
              refine lv_goto (tgt := 98) F.hx F.hb d_MO_war_94 (by decide) ?_
              exact k_MO_war_L98 l hlo x1 x2 hx1 hx2 F hlk hr (fun a0_ a1_ a2_ => t_MO_war_L33 x1 x2 fu a0_ a1_ a2_) ih q18 v4_ hv4_ v3_ hv3_ 1 (Or.inr rfl) _ _ _ hS (lv_sub hl [0, 1, 2, 4] rfl) hT
        · replace hT := (if_neg c17).symm.trans hT
          refine lv_goto (tgt := 100) F.hx F.hb d_MO_war_65 (by decide) ?_
          exact k_MO_war_L100 l hlo x1 x2 hx1 hx2 F hlk hr (fun a0_ a1_ a2_ => t_MO_war_L33 x1 x2 fu a0_ a1_ a2_) ih M v3_ hv3_ v4_ hv4_ _ _ _ hS (lv_sub hl [0, 1, 2, 3, 4] rfl) hT
set_option maxHeartbeats 4000000 in
set_option maxRecDepth 100000 in
theorem c_MO_war (l : Launch) {b n : Nat} {C : CT} (hlo : 231 ≤ n) (M : Mem) (x1 : Int) (x2 : Int) (hx1 : InR x1) (hx2 : InR x2) (res : Mem × Int) (hT : t_MO_war M x1 x2 = some res) : CM l b C n 3 y_MO_war b_MO_war 5 (some .int) [.ref (b + 191), vI x1, vI x2] M (QI b C n res.1 res.2) := by
  refine CM.of (lo := 231) (ow := "WardFallsModel") (by decide) rfl (Nat.le_of_ble_eq_true rfl) hlo (fun p e s m below meth c F hlk hr hS ls hl => ?_)
  have hl : lv_has ls 5 [(0, .ref (b + 191)), (1, vI x1), (2, vI x2)] := hl
  unfold t_MO_war at hT
  refine lv_aload_n F.hx F.hb d_MO_war_0 rfl (lv_at hl 0 rfl) ?_
  refine r_iconst F.hx F.hb d_MO_war_1 ?_
  refine r_putI (N := 68) (T := T1) (j := 0) F hS (show 191 < 231 by decide) (show shK 191 = 5 from rfl) (show shN 191 = 68 from rfl) rfl (Nat.le_of_ble_eq_true rfl) ing1 tyok1 nm1 rfl rfl rfl rfl rfl rfl mw_1389 (inr_c rfl) d_MO_war_2 (fun H locs hS => ?_)
  obtain ⟨M1, eM1⟩ : ∃ q, q = (setI M 191 0 0) := ⟨_, rfl⟩
  replace hS : St b C n M1 s H locs := by rw [eM1]; exact hS
  replace hT := qlet_eq hT eM1
  refine lv_aload_n F.hx F.hb d_MO_war_5 rfl (lv_at hl 0 rfl) ?_
  refine lv_iload_n F.hx F.hb d_MO_war_6 rfl (lv_at hl 1 rfl) ?_
  obtain ⟨q2, hq2⟩ : ∃ q, q = (t_MO_isWard M1 x1) := ⟨_, rfl⟩
  replace hT := qlet_eq hT hq2
  refine r_backZ F hS (r_runV (k := 191) (N := 68) (T := T1) (As := [vI x1]) F hS (show 191 < 231 by decide) (show shK 191 = 5 from rfl) rfl (c_MO_isWard l F.2.2.1 M1 x1 hx1 _ hq2.symm) gs_MO_369 hd_MO_isWard ⟨Nat.le_of_ble_eq_true rfl, Nat.le_of_ble_eq_true rfl⟩ rfl hl.1 (Nat.le_of_ble_eq_true rfl) ⟨Nat.zero_le _, Nat.zero_le _⟩ rfl d_MO_war_7) (fun H locs hS h3 => ?_)
  refine r_if_eq (tgt := 26) F.hx F.hb (inr_z h3) d_MO_war_10 (by decide) (fun c4 => ?_) (fun c4 => ?_)
  · replace hT := (if_pos c4).symm.trans hT
    refine r_iconst F.hx F.hb d_MO_war_26 ?_
    cases hT
    exact r_iret F hlk hr rfl hS (inr_c rfl) d_MO_war_27
  · replace hT := (if_neg c4).symm.trans hT
    refine lv_aload_n F.hx F.hb d_MO_war_13 rfl (lv_at hl 0 rfl) ?_
    refine lv_iload_n F.hx F.hb d_MO_war_14 rfl (lv_at hl 2 rfl) ?_
    obtain ⟨q5, hq5⟩ : ∃ q, q = (t_MO_isWard M1 x2) := ⟨_, rfl⟩
    replace hT := qlet_eq hT hq5
    refine r_backZ F hS (r_runV (k := 191) (N := 68) (T := T1) (As := [vI x2]) F hS (show 191 < 231 by decide) (show shK 191 = 5 from rfl) rfl (c_MO_isWard l F.2.2.1 M1 x2 hx2 _ hq5.symm) gs_MO_369 hd_MO_isWard ⟨Nat.le_of_ble_eq_true rfl, Nat.le_of_ble_eq_true rfl⟩ rfl hl.1 (Nat.le_of_ble_eq_true rfl) ⟨Nat.zero_le _, Nat.zero_le _⟩ rfl d_MO_war_15) (fun H locs hS h6 => ?_)
    refine r_if_eq (tgt := 26) F.hx F.hb (inr_z h6) d_MO_war_18 (by decide) (fun c7 => ?_) (fun c7 => ?_)
    · replace hT := (if_pos c7).symm.trans hT
      refine r_iconst F.hx F.hb d_MO_war_26 ?_
      cases hT
      exact r_iret F hlk hr rfl hS (inr_c rfl) d_MO_war_27
    · replace hT := (if_neg c7).symm.trans hT
      refine lv_iload_n F.hx F.hb d_MO_war_21 rfl (lv_at hl 1 rfl) ?_
      refine lv_iload_n F.hx F.hb d_MO_war_22 rfl (lv_at hl 2 rfl) ?_
      refine r_icmp_ne (tgt := 28) F.hx F.hb hx1 hx2 d_MO_war_23 (by decide) (fun c8 => ?_) (fun c8 => ?_)
      · replace hT := (if_neg c8).symm.trans hT
        refine r_iconst F.hx F.hb d_MO_war_28 ?_
        refine lv_istore_n (lv' := [(3, vI 0), (0, .ref (b + 191)), (1, vI x1), (2, vI x2)]) F.hx F.hb d_MO_war_29 rfl hl (Nat.le_of_ble_eq_true rfl) rfl (fun ls hl => ?_)
        refine r_iconst F.hx F.hb d_MO_war_30 ?_
        refine lv_istore (lv' := [(4, vI 0), (3, vI 0), (0, .ref (b + 191)), (1, vI x1), (2, vI x2)]) F.hx F.hb d_MO_war_31 hl (Nat.le_of_ble_eq_true rfl) rfl (fun ls hl => ?_)
        exact k_MO_war_L33 l hlo x1 x2 hx1 hx2 F hlk hr FU M1 0 (inr_c rfl) 0 (inr_c rfl) _ _ _ hS (lv_sub hl [2, 3, 4, 1, 0] rfl) hT
      · replace hT := (if_pos c8).symm.trans hT
        refine r_iconst F.hx F.hb d_MO_war_26 ?_
        cases hT
        exact r_iret F hlk hr rfl hS (inr_c rfl) d_MO_war_27
theorem d_MO_nets_0 : decode b_MO_nets 0 = .ok (.aload_n 0, 1) := dc_42 (by decide +kernel)
theorem d_MO_nets_1 : decode b_MO_nets 1 = .ok (.iconst 0, 1) := dc_3 (by decide +kernel)
theorem d_MO_nets_2 : decode b_MO_nets 2 = .ok (.putfield 145, 3) := dc_181 (by decide +kernel)
theorem d_MO_nets_5 : decode b_MO_nets 5 = .ok (.lconst 0, 1) := dc_9 (by decide +kernel)
theorem d_MO_nets_6 : decode b_MO_nets 6 = .ok (.lstore_n 1, 1) := dc_64 (by decide +kernel)
theorem d_MO_nets_7 : decode b_MO_nets 7 = .ok (.iconst 0, 1) := dc_3 (by decide +kernel)
theorem d_MO_nets_8 : decode b_MO_nets 8 = .ok (.istore_n 3, 1) := dc_62 (by decide +kernel)
theorem d_MO_nets_9 : decode b_MO_nets 9 = .ok (.iload_n 3, 1) := dc_29 (by decide +kernel)
theorem d_MO_nets_10 : decode b_MO_nets 10 = .ok (.aload_n 0, 1) := dc_42 (by decide +kernel)
theorem d_MO_nets_11 : decode b_MO_nets 11 = .ok (.invokevirtual 329, 3) := dc_182 (by decide +kernel)
theorem d_MO_nets_14 : decode b_MO_nets 14 = .ok (.if_icmp .ge 51, 3) := dc_162 (by decide +kernel)
theorem d_MO_nets_17 : decode b_MO_nets 17 = .ok (.aload_n 0, 1) := dc_42 (by decide +kernel)
theorem d_MO_nets_18 : decode b_MO_nets 18 = .ok (.getfield 28, 3) := dc_180 (by decide +kernel)
theorem d_MO_nets_21 : decode b_MO_nets 21 = .ok (.iload_n 3, 1) := dc_29 (by decide +kernel)
theorem d_MO_nets_22 : decode b_MO_nets 22 = .ok (.baload, 1) := dc_51 (by decide +kernel)
theorem d_MO_nets_23 : decode b_MO_nets 23 = .ok (.ifCond .eq 6, 3) := dc_153 (by decide +kernel)
theorem d_MO_nets_26 : decode b_MO_nets 26 = .ok (.goto 33, 3) := dc_167 (by decide +kernel)
theorem d_MO_nets_29 : decode b_MO_nets 29 = .ok (.aload_n 0, 1) := dc_42 (by decide +kernel)
theorem d_MO_nets_30 : decode b_MO_nets 30 = .ok (.iconst 0, 1) := dc_3 (by decide +kernel)
theorem d_MO_nets_31 : decode b_MO_nets 31 = .ok (.iload_n 3, 1) := dc_29 (by decide +kernel)
theorem d_MO_nets_32 : decode b_MO_nets 32 = .ok (.invokevirtual 350, 3) := dc_182 (by decide +kernel)
theorem d_MO_nets_35 : decode b_MO_nets 35 = .ok (.istore 4, 2) := dc_54 (by decide +kernel)
theorem d_MO_nets_37 : decode b_MO_nets 37 = .ok (.iload 4, 2) := dc_21 (by decide +kernel)
theorem d_MO_nets_39 : decode b_MO_nets 39 = .ok (.iconst (-1), 1) := dc_2 (by decide +kernel)
theorem d_MO_nets_40 : decode b_MO_nets 40 = .ok (.if_icmp .eq 19, 3) := dc_159 (by decide +kernel)
theorem d_MO_nets_43 : decode b_MO_nets 43 = .ok (.aload_n 0, 1) := dc_42 (by decide +kernel)
theorem d_MO_nets_44 : decode b_MO_nets 44 = .ok (.iload_n 3, 1) := dc_29 (by decide +kernel)
theorem d_MO_nets_45 : decode b_MO_nets 45 = .ok (.iload 4, 2) := dc_21 (by decide +kernel)
theorem d_MO_nets_47 : decode b_MO_nets 47 = .ok (.invokevirtual 359, 3) := dc_182 (by decide +kernel)
theorem d_MO_nets_50 : decode b_MO_nets 50 = .ok (.ifCond .eq 9, 3) := dc_153 (by decide +kernel)
theorem d_MO_nets_53 : decode b_MO_nets 53 = .ok (.lload_n 1, 1) := dc_31 (by decide +kernel)
theorem d_MO_nets_54 : decode b_MO_nets 54 = .ok (.lconst 1, 1) := dc_10 (by decide +kernel)
theorem d_MO_nets_55 : decode b_MO_nets 55 = .ok (.iload_n 3, 1) := dc_29 (by decide +kernel)
theorem d_MO_nets_56 : decode b_MO_nets 56 = .ok (.lshl, 1) := dc_121 (by decide +kernel)
theorem d_MO_nets_57 : decode b_MO_nets 57 = .ok (.lor, 1) := dc_129 (by decide +kernel)
theorem d_MO_nets_58 : decode b_MO_nets 58 = .ok (.lstore_n 1, 1) := dc_64 (by decide +kernel)
theorem d_MO_nets_59 : decode b_MO_nets 59 = .ok (.iinc 3 1, 3) := dc_132 (by decide +kernel)
theorem d_MO_nets_62 : decode b_MO_nets 62 = .ok (.goto (-53), 3) := dc_167 (by decide +kernel)
theorem d_MO_nets_65 : decode b_MO_nets 65 = .ok (.lload_n 1, 1) := dc_31 (by decide +kernel)
theorem d_MO_nets_66 : decode b_MO_nets 66 = .ok (.lreturn, 1) := dc_173 (by decide +kernel)
def t_MO_nets_L59  (bk9 : Mem → Int64 → Int → Option (Mem × Int64)) (M : Mem) (v1_ : Int64) (v2_ : Int) : Option (Mem × Int64) := (bk9 M v1_ (w32 (v2_ + 1)))
def t_MO_nets_L9   : Nat → Mem → Int64 → Int → Option (Mem × Int64)
  | 0, _, _, _ => none
  | fu + 1, M, v1_, v2_ => (qlet (t_MO_cells M) fun q2 => (if q2 ≤ v2_ then (some (M, v1_)) else (qguard (0 ≤ v2_ ∧ v2_ < 96) (if (M.1 198 v2_) = 0 then (obind (t_MO_nextOf M 0 v2_) fun q8 => (if q8 = (-1) then (t_MO_nets_L59 (fun a0_ a1_ a2_ => t_MO_nets_L9 fu a0_ a1_ a2_) M v1_ v2_) else (obind (t_MO_isLine M v2_ q8) fun q11 => (if q11 = 0 then (t_MO_nets_L59 (fun a0_ a1_ a2_ => t_MO_nets_L9 fu a0_ a1_ a2_) M v1_ v2_) else (t_MO_nets_L59 (fun a0_ a1_ a2_ => t_MO_nets_L9 fu a0_ a1_ a2_) M (v1_ ||| (q_lshl 1 v2_)) v2_))))) else (t_MO_nets_L59 (fun a0_ a1_ a2_ => t_MO_nets_L9 fu a0_ a1_ a2_) M v1_ v2_)))))
def t_MO_nets (M : Mem)  : Option (Mem × Int64) := (qlet (setI M 191 0 0) fun M1 => (t_MO_nets_L9 FU M1 0 0))
set_option maxHeartbeats 4000000 in
set_option maxRecDepth 100000 in
theorem k_MO_nets_L59 (l : Launch) {p : Program} {e : Env} {s : State} {m : MethodId} {below : List Frame} {meth : Method} {c : Code} {b n : Nat} {C : CT} (hlo : 231 ≤ n)   (F : Cx b p m c b_MO_nets 5 s ([.ref (b + 191)] : List Value).toArray "WardFallsModel" C n 231) (hlk : meth.locks = false) (hr : meth.sig.returnType = some .long) {res : Mem × Int64} (bk9 : Mem → Int64 → Int → Option (Mem × Int64)) (hbk9 : ∀ (M : Mem) (v1_ : Int64) (v2_ : Int) (hv2_ : InR v2_) (H : Heap) (locs : List Loc) (ls : Array Slot), St b C n M s H locs → lv_has ls 5 [(0, .ref (b + 191)), (1, .long v1_), (3, vI v2_)] → bk9 M v1_ v2_ = some res → W p l e (headSpec (wsM y_MO_nets b_MO_nets 5 (some .long)) (rmD 2)).room s m ([.ref (b + 191)] : List Value).toArray below meth c H locs 0 0 (MQ below (QL b C n res.1 res.2) ([.ref (b + 191)] : List Value).toArray s 0 0 (frb b)) (F0 m 9 ls [])) (M : Mem) (v1_ : Int64) (v2_ : Int) (hv2_ : InR v2_) (H : Heap) (locs : List Loc) (ls : Array Slot) (hS : St b C n M s H locs) (hl : lv_has ls 5 [(0, .ref (b + 191)), (1, .long v1_), (3, vI v2_)]) (hT : t_MO_nets_L59 bk9 M v1_ v2_ = some res) : W p l e (headSpec (wsM y_MO_nets b_MO_nets 5 (some .long)) (rmD 2)).room s m ([.ref (b + 191)] : List Value).toArray below meth c H locs 0 0 (MQ below (QL b C n res.1 res.2) ([.ref (b + 191)] : List Value).toArray s 0 0 (frb b)) (F0 m 59 ls []) := by
  unfold t_MO_nets_L59 at hT
  refine lv_iinc (v := Int32.ofInt (w32 (v2_ + 1))) (lv' := [(3, vI (w32 (v2_ + 1))), (0, .ref (b + 191)), (1, .long v1_)]) F.hx F.hb d_MO_nets_59 hl (k := 2) rfl (q_of_add _ _) (Nat.le_of_ble_eq_true rfl) rfl (fun ls hl => ?_)
  refine lv_goto (tgt := 9) F.hx F.hb d_MO_nets_62 (by decide) ?_
  exact hbk9 M v1_ (w32 (v2_ + 1)) (inr_w32 _) _ _ _ hS (lv_sub hl [1, 2, 0] rfl) hT
set_option maxHeartbeats 4000000 in
set_option maxRecDepth 100000 in
theorem k_MO_nets_L9 (l : Launch) {p : Program} {e : Env} {s : State} {m : MethodId} {below : List Frame} {meth : Method} {c : Code} {b n : Nat} {C : CT} (hlo : 231 ≤ n)   (F : Cx b p m c b_MO_nets 5 s ([.ref (b + 191)] : List Value).toArray "WardFallsModel" C n 231) (hlk : meth.locks = false) (hr : meth.sig.returnType = some .long) {res : Mem × Int64} : ∀ (fu : Nat) (M : Mem) (v1_ : Int64) (v2_ : Int) (hv2_ : InR v2_) (H : Heap) (locs : List Loc) (ls : Array Slot), St b C n M s H locs → lv_has ls 5 [(0, .ref (b + 191)), (1, .long v1_), (3, vI v2_)] → t_MO_nets_L9 fu M v1_ v2_ = some res → W p l e (headSpec (wsM y_MO_nets b_MO_nets 5 (some .long)) (rmD 2)).room s m ([.ref (b + 191)] : List Value).toArray below meth c H locs 0 0 (MQ below (QL b C n res.1 res.2) ([.ref (b + 191)] : List Value).toArray s 0 0 (frb b)) (F0 m 9 ls []) := by
  intro fu
  induction fu with
  | zero => intro M v1_ v2_ hv2_ H locs ls hS hl hT; exact absurd hT (by simp [t_MO_nets_L9])
  | succ fu ih =>
    intro M v1_ v2_ hv2_ H locs ls hS hl hT
    rw [t_MO_nets_L9] at hT
    refine lv_iload_n F.hx F.hb d_MO_nets_9 rfl (lv_at hl 2 rfl) ?_
    refine lv_aload_n F.hx F.hb d_MO_nets_10 rfl (lv_at hl 0 rfl) ?_
    obtain ⟨q2, hq2⟩ : ∃ q, q = (t_MO_cells M) := ⟨_, rfl⟩
    replace hT := qlet_eq hT hq2
    refine r_backI F hS (r_runV (k := 191) (N := 68) (T := T1) (As := []) F hS (show 191 < 231 by decide) (show shK 191 = 5 from rfl) rfl (c_MO_cells l F.2.2.1 M _ hq2.symm) gs_MO_329 hd_MO_cells ⟨Nat.le_of_ble_eq_true rfl, Nat.le_of_ble_eq_true rfl⟩ rfl hl.1 (Nat.le_of_ble_eq_true rfl) ⟨Nat.zero_le _, Nat.zero_le _⟩ rfl d_MO_nets_11) (fun H locs hS h3 => ?_)
    refine r_icmp_ge (tgt := 65) F.hx F.hb hv2_ h3 d_MO_nets_14 (by decide) (fun c4 => ?_) (fun c4 => ?_)
    · replace hT := (if_pos c4).symm.trans hT
      refine lv_lload_n F.hx F.hb d_MO_nets_65 rfl (lv_at hl 1 rfl) ?_
      cases hT
      exact r_lret F hlk hr hS d_MO_nets_66
    · replace hT := (if_neg c4).symm.trans hT
      refine lv_aload_n F.hx F.hb d_MO_nets_17 rfl (lv_at hl 0 rfl) ?_
      refine r_get (v := .ref (b + 198)) (N := 68) (T := T1) (j := 8) F hS (show 191 < 231 by decide) (show shK 191 = 5 from rfl) (show shN 191 = 68 from rfl) rfl (Nat.le_of_ble_eq_true rfl) ing1 mw_1397 (fv_sg rfl rfl rfl) d_MO_nets_18 ?_
      refine lv_iload_n F.hx F.hb d_MO_nets_21 rfl (lv_at hl 2 rfl) ?_
      obtain ⟨⟨g5a, g5b⟩, hT⟩ := q_guard hT
      have z6 := hS.bool (show shK 198 = 1 from rfl) v2_
      refine r_zald F hS (show 198 < 231 by decide) (show shK 198 = 1 from rfl) (show shN 198 = 96 from rfl) hv2_ g5a g5b d_MO_nets_22 ?_
      refine r_if_eq (tgt := 29) F.hx F.hb (inr_z z6) d_MO_nets_23 (by decide) (fun c7 => ?_) (fun c7 => ?_)
      · replace hT := (if_pos c7).symm.trans hT
        refine lv_aload_n F.hx F.hb d_MO_nets_29 rfl (lv_at hl 0 rfl) ?_
        refine r_iconst F.hx F.hb d_MO_nets_30 ?_
        refine lv_iload_n F.hx F.hb d_MO_nets_31 rfl (lv_at hl 2 rfl) ?_
        obtain ⟨q8, hq8, hT⟩ := q_obind hT
        refine r_backI F hS (r_runV (k := 191) (N := 68) (T := T1) (As := [vI 0, vI v2_]) F hS (show 191 < 231 by decide) (show shK 191 = 5 from rfl) rfl (c_MO_nextOf l F.2.2.1 M 0 v2_ (inr_c rfl) hv2_ _ hq8) gs_MO_350 hd_MO_nextOf ⟨Nat.le_of_ble_eq_true rfl, Nat.le_of_ble_eq_true rfl⟩ rfl hl.1 (Nat.le_of_ble_eq_true rfl) ⟨Nat.zero_le _, Nat.zero_le _⟩ rfl d_MO_nets_32) (fun H locs hS h9 => ?_)
        refine lv_istore (lv' := [(4, vI q8), (0, .ref (b + 191)), (1, .long v1_), (3, vI v2_)]) F.hx F.hb d_MO_nets_35 hl (Nat.le_of_ble_eq_true rfl) rfl (fun ls hl => ?_)
        refine lv_iload F.hx F.hb d_MO_nets_37 (lv_at hl 0 rfl) ?_
        refine r_iconst F.hx F.hb d_MO_nets_39 ?_
        refine r_icmp_eq (tgt := 59) F.hx F.hb h9 (inr_c rfl) d_MO_nets_40 (by decide) (fun c10 => ?_) (fun c10 => ?_)
        · replace hT := (if_pos c10).symm.trans hT
          exact k_MO_nets_L59 l hlo F hlk hr (fun a0_ a1_ a2_ => t_MO_nets_L9 fu a0_ a1_ a2_) ih M v1_ v2_ hv2_ _ _ _ hS (lv_sub hl [1, 2, 3] rfl) hT
        · replace hT := (if_neg c10).symm.trans hT
          refine lv_aload_n F.hx F.hb d_MO_nets_43 rfl (lv_at hl 1 rfl) ?_
          refine lv_iload_n F.hx F.hb d_MO_nets_44 rfl (lv_at hl 3 rfl) ?_
          refine lv_iload F.hx F.hb d_MO_nets_45 (lv_at hl 0 rfl) ?_
          obtain ⟨q11, hq11, hT⟩ := q_obind hT
          refine r_backZ F hS (r_runV (k := 191) (N := 68) (T := T1) (As := [vI v2_, vI q8]) F hS (show 191 < 231 by decide) (show shK 191 = 5 from rfl) rfl (c_MO_isLine l F.2.2.1 M v2_ q8 hv2_ h9 _ hq11) gs_MO_359 hd_MO_isLine ⟨Nat.le_of_ble_eq_true rfl, Nat.le_of_ble_eq_true rfl⟩ rfl hl.1 (Nat.le_of_ble_eq_true rfl) ⟨Nat.zero_le _, Nat.zero_le _⟩ rfl d_MO_nets_47) (fun H locs hS h12 => ?_)
          refine r_if_eq (tgt := 59) F.hx F.hb (inr_z h12) d_MO_nets_50 (by decide) (fun c13 => ?_) (fun c13 => ?_)
          · replace hT := (if_pos c13).symm.trans hT
            exact k_MO_nets_L59 l hlo F hlk hr (fun a0_ a1_ a2_ => t_MO_nets_L9 fu a0_ a1_ a2_) ih M v1_ v2_ hv2_ _ _ _ hS (lv_sub hl [1, 2, 3] rfl) hT
          · replace hT := (if_neg c13).symm.trans hT
            refine lv_lload_n F.hx F.hb d_MO_nets_53 rfl (lv_at hl 2 rfl) ?_
            refine lv_lconst (v := 1) F.hx F.hb d_MO_nets_54 rfl ?_
            refine lv_iload_n F.hx F.hb d_MO_nets_55 rfl (lv_at hl 3 rfl) ?_
            refine r_lshl F.hx F.hb d_MO_nets_56 ?_
            refine lv_lor F.hx F.hb d_MO_nets_57 ?_
            refine lv_lstore_n (lv' := [(1, .long (v1_ ||| (q_lshl 1 v2_))), (4, vI q8), (0, .ref (b + 191)), (3, vI v2_)]) F.hx F.hb d_MO_nets_58 rfl hl (Nat.le_of_ble_eq_true rfl) rfl (fun ls hl => ?_)
            exact k_MO_nets_L59 l hlo F hlk hr (fun a0_ a1_ a2_ => t_MO_nets_L9 fu a0_ a1_ a2_) ih M (v1_ ||| (q_lshl 1 v2_)) v2_ hv2_ _ _ _ hS (lv_sub hl [2, 0, 3] rfl) hT
      · replace hT := (if_neg c7).symm.trans hT
        refine lv_goto (tgt := 59) F.hx F.hb d_MO_nets_26 (by decide) ?_
        exact k_MO_nets_L59 l hlo F hlk hr (fun a0_ a1_ a2_ => t_MO_nets_L9 fu a0_ a1_ a2_) ih M v1_ v2_ hv2_ _ _ _ hS (lv_sub hl [0, 1, 2] rfl) hT
set_option maxHeartbeats 4000000 in
set_option maxRecDepth 100000 in
theorem c_MO_nets (l : Launch) {b n : Nat} {C : CT} (hlo : 231 ≤ n) (M : Mem)   (res : Mem × Int64) (hT : t_MO_nets M  = some res) : CM l b C n 2 y_MO_nets b_MO_nets 5 (some .long) [.ref (b + 191)] M (QL b C n res.1 res.2) := by
  refine CM.of (lo := 231) (ow := "WardFallsModel") (by decide) rfl (Nat.le_of_ble_eq_true rfl) hlo (fun p e s m below meth c F hlk hr hS ls hl => ?_)
  have hl : lv_has ls 5 [(0, .ref (b + 191))] := hl
  unfold t_MO_nets at hT
  refine lv_aload_n F.hx F.hb d_MO_nets_0 rfl (lv_at hl 0 rfl) ?_
  refine r_iconst F.hx F.hb d_MO_nets_1 ?_
  refine r_putI (N := 68) (T := T1) (j := 0) F hS (show 191 < 231 by decide) (show shK 191 = 5 from rfl) (show shN 191 = 68 from rfl) rfl (Nat.le_of_ble_eq_true rfl) ing1 tyok1 nm1 rfl rfl rfl rfl rfl rfl mw_1389 (inr_c rfl) d_MO_nets_2 (fun H locs hS => ?_)
  obtain ⟨M1, eM1⟩ : ∃ q, q = (setI M 191 0 0) := ⟨_, rfl⟩
  replace hS : St b C n M1 s H locs := by rw [eM1]; exact hS
  replace hT := qlet_eq hT eM1
  refine lv_lconst (v := 0) F.hx F.hb d_MO_nets_5 rfl ?_
  refine lv_lstore_n (lv' := [(1, .long 0), (0, .ref (b + 191))]) F.hx F.hb d_MO_nets_6 rfl hl (Nat.le_of_ble_eq_true rfl) rfl (fun ls hl => ?_)
  refine r_iconst F.hx F.hb d_MO_nets_7 ?_
  refine lv_istore_n (lv' := [(3, vI 0), (1, .long 0), (0, .ref (b + 191))]) F.hx F.hb d_MO_nets_8 rfl hl (Nat.le_of_ble_eq_true rfl) rfl (fun ls hl => ?_)
  exact k_MO_nets_L9 l hlo F hlk hr FU M1 0 0 (inr_c rfl) _ _ _ hS (lv_sub hl [2, 1, 0] rfl) hT
theorem d_MO_longest_0 : decode b_MO_longest 0 = .ok (.iconst 0, 1) := dc_3 (by decide +kernel)
theorem d_MO_longest_1 : decode b_MO_longest 1 = .ok (.istore_n 2, 1) := dc_61 (by decide +kernel)
theorem d_MO_longest_2 : decode b_MO_longest 2 = .ok (.aload_n 0, 1) := dc_42 (by decide +kernel)
theorem d_MO_longest_3 : decode b_MO_longest 3 = .ok (.iconst (-1), 1) := dc_2 (by decide +kernel)
theorem d_MO_longest_4 : decode b_MO_longest 4 = .ok (.putfield 477, 3) := dc_181 (by decide +kernel)
theorem d_MO_longest_7 : decode b_MO_longest 7 = .ok (.iconst 0, 1) := dc_3 (by decide +kernel)
theorem d_MO_longest_8 : decode b_MO_longest 8 = .ok (.istore_n 3, 1) := dc_62 (by decide +kernel)
theorem d_MO_longest_9 : decode b_MO_longest 9 = .ok (.iload_n 3, 1) := dc_29 (by decide +kernel)
theorem d_MO_longest_10 : decode b_MO_longest 10 = .ok (.aload_n 0, 1) := dc_42 (by decide +kernel)
theorem d_MO_longest_11 : decode b_MO_longest 11 = .ok (.invokevirtual 329, 3) := dc_182 (by decide +kernel)
theorem d_MO_longest_14 : decode b_MO_longest 14 = .ok (.if_icmp .ge 55, 3) := dc_162 (by decide +kernel)
theorem d_MO_longest_17 : decode b_MO_longest 17 = .ok (.aload_n 0, 1) := dc_42 (by decide +kernel)
theorem d_MO_longest_18 : decode b_MO_longest 18 = .ok (.getfield 28, 3) := dc_180 (by decide +kernel)
theorem d_MO_longest_21 : decode b_MO_longest 21 = .ok (.iload_n 3, 1) := dc_29 (by decide +kernel)
theorem d_MO_longest_22 : decode b_MO_longest 22 = .ok (.baload, 1) := dc_51 (by decide +kernel)
theorem d_MO_longest_23 : decode b_MO_longest 23 = .ok (.ifCond .eq 6, 3) := dc_153 (by decide +kernel)
theorem d_MO_longest_26 : decode b_MO_longest 26 = .ok (.goto 37, 3) := dc_167 (by decide +kernel)
theorem d_MO_longest_29 : decode b_MO_longest 29 = .ok (.aload_n 0, 1) := dc_42 (by decide +kernel)
theorem d_MO_longest_30 : decode b_MO_longest 30 = .ok (.iload_n 1, 1) := dc_27 (by decide +kernel)
theorem d_MO_longest_31 : decode b_MO_longest 31 = .ok (.iload_n 3, 1) := dc_29 (by decide +kernel)
theorem d_MO_longest_32 : decode b_MO_longest 32 = .ok (.invokevirtual 414, 3) := dc_182 (by decide +kernel)
theorem d_MO_longest_35 : decode b_MO_longest 35 = .ok (.aload_n 0, 1) := dc_42 (by decide +kernel)
theorem d_MO_longest_36 : decode b_MO_longest 36 = .ok (.getfield 353, 3) := dc_180 (by decide +kernel)
theorem d_MO_longest_39 : decode b_MO_longest 39 = .ok (.ifCond .gt 24, 3) := dc_157 (by decide +kernel)
theorem d_MO_longest_42 : decode b_MO_longest 42 = .ok (.aload_n 0, 1) := dc_42 (by decide +kernel)
theorem d_MO_longest_43 : decode b_MO_longest 43 = .ok (.getfield 347, 3) := dc_180 (by decide +kernel)
theorem d_MO_longest_46 : decode b_MO_longest 46 = .ok (.iload_n 2, 1) := dc_28 (by decide +kernel)
theorem d_MO_longest_47 : decode b_MO_longest 47 = .ok (.if_icmp .gt 6, 3) := dc_163 (by decide +kernel)
theorem d_MO_longest_50 : decode b_MO_longest 50 = .ok (.goto 13, 3) := dc_167 (by decide +kernel)
theorem d_MO_longest_53 : decode b_MO_longest 53 = .ok (.aload_n 0, 1) := dc_42 (by decide +kernel)
theorem d_MO_longest_54 : decode b_MO_longest 54 = .ok (.getfield 347, 3) := dc_180 (by decide +kernel)
theorem d_MO_longest_57 : decode b_MO_longest 57 = .ok (.istore_n 2, 1) := dc_61 (by decide +kernel)
theorem d_MO_longest_58 : decode b_MO_longest 58 = .ok (.aload_n 0, 1) := dc_42 (by decide +kernel)
theorem d_MO_longest_59 : decode b_MO_longest 59 = .ok (.iload_n 3, 1) := dc_29 (by decide +kernel)
theorem d_MO_longest_60 : decode b_MO_longest 60 = .ok (.putfield 477, 3) := dc_181 (by decide +kernel)
theorem d_MO_longest_63 : decode b_MO_longest 63 = .ok (.iinc 3 1, 3) := dc_132 (by decide +kernel)
theorem d_MO_longest_66 : decode b_MO_longest 66 = .ok (.goto (-57), 3) := dc_167 (by decide +kernel)
theorem d_MO_longest_69 : decode b_MO_longest 69 = .ok (.iload_n 2, 1) := dc_28 (by decide +kernel)
theorem d_MO_longest_70 : decode b_MO_longest 70 = .ok (.ireturn, 1) := dc_172 (by decide +kernel)
def t_MO_longest_L63 (x1 : Int) (bk9 : Mem → Int → Int → Option (Mem × Int)) (M : Mem) (v2_ : Int) (v3_ : Int) : Option (Mem × Int) := (bk9 M v2_ (w32 (v3_ + 1)))
def t_MO_longest_L9 (x1 : Int)  : Nat → Mem → Int → Int → Option (Mem × Int)
  | 0, _, _, _ => none
  | fu + 1, M, v2_, v3_ => (qlet (t_MO_cells M) fun q2 => (if q2 ≤ v3_ then (some (M, v2_)) else (qguard (0 ≤ v3_ ∧ v3_ < 96) (if (M.1 198 v3_) = 0 then (obind (t_MO_goesFrom M x1 v3_) fun q8 => (if 0 < (q8.1 191 46) then (t_MO_longest_L63 x1 (fun a0_ a1_ a2_ => t_MO_longest_L9 x1 fu a0_ a1_ a2_) q8 v2_ v3_) else (if v2_ < (q8.1 191 48) then (qlet (setI q8 191 57 v3_) fun M15 => (t_MO_longest_L63 x1 (fun a0_ a1_ a2_ => t_MO_longest_L9 x1 fu a0_ a1_ a2_) M15 (q8.1 191 48) v3_)) else (t_MO_longest_L63 x1 (fun a0_ a1_ a2_ => t_MO_longest_L9 x1 fu a0_ a1_ a2_) q8 v2_ v3_)))) else (t_MO_longest_L63 x1 (fun a0_ a1_ a2_ => t_MO_longest_L9 x1 fu a0_ a1_ a2_) M v2_ v3_)))))
def t_MO_longest (M : Mem) (x1 : Int) : Option (Mem × Int) := (qlet (setI M 191 57 (-1)) fun M1 => (t_MO_longest_L9 x1 FU M1 0 0))
set_option maxHeartbeats 4000000 in
set_option maxRecDepth 100000 in
theorem k_MO_longest_L63 (l : Launch) {p : Program} {e : Env} {s : State} {m : MethodId} {below : List Frame} {meth : Method} {c : Code} {b n : Nat} {C : CT} (hlo : 231 ≤ n) (x1 : Int) (hx1 : InR x1) (F : Cx b p m c b_MO_longest 4 s ([.ref (b + 191), vI x1] : List Value).toArray "WardFallsModel" C n 231) (hlk : meth.locks = false) (hr : meth.sig.returnType = some .int) {res : Mem × Int} (bk9 : Mem → Int → Int → Option (Mem × Int)) (hbk9 : ∀ (M : Mem) (v2_ : Int) (hv2_ : InR v2_) (v3_ : Int) (hv3_ : InR v3_) (H : Heap) (locs : List Loc) (ls : Array Slot), St b C n M s H locs → lv_has ls 4 [(0, .ref (b + 191)), (1, vI x1), (2, vI v2_), (3, vI v3_)] → bk9 M v2_ v3_ = some res → W p l e (headSpec (wsM y_MO_longest b_MO_longest 4 (some .int)) (rmD 3)).room s m ([.ref (b + 191), vI x1] : List Value).toArray below meth c H locs 0 0 (MQ below (QI b C n res.1 res.2) ([.ref (b + 191), vI x1] : List Value).toArray s 0 0 (frb b)) (F0 m 9 ls [])) (M : Mem) (v2_ : Int) (hv2_ : InR v2_) (v3_ : Int) (hv3_ : InR v3_) (H : Heap) (locs : List Loc) (ls : Array Slot) (hS : St b C n M s H locs) (hl : lv_has ls 4 [(0, .ref (b + 191)), (1, vI x1), (2, vI v2_), (3, vI v3_)]) (hT : t_MO_longest_L63 x1 bk9 M v2_ v3_ = some res) : W p l e (headSpec (wsM y_MO_longest b_MO_longest 4 (some .int)) (rmD 3)).room s m ([.ref (b + 191), vI x1] : List Value).toArray below meth c H locs 0 0 (MQ below (QI b C n res.1 res.2) ([.ref (b + 191), vI x1] : List Value).toArray s 0 0 (frb b)) (F0 m 63 ls []) := by
  unfold t_MO_longest_L63 at hT
  refine lv_iinc (v := Int32.ofInt (w32 (v3_ + 1))) (lv' := [(3, vI (w32 (v3_ + 1))), (0, .ref (b + 191)), (1, vI x1), (2, vI v2_)]) F.hx F.hb d_MO_longest_63 hl (k := 3) rfl (q_of_add _ _) (Nat.le_of_ble_eq_true rfl) rfl (fun ls hl => ?_)
  refine lv_goto (tgt := 9) F.hx F.hb d_MO_longest_66 (by decide) ?_
  exact hbk9 M v2_ hv2_ (w32 (v3_ + 1)) (inr_w32 _) _ _ _ hS (lv_sub hl [1, 2, 3, 0] rfl) hT
set_option maxHeartbeats 4000000 in
set_option maxRecDepth 100000 in
theorem k_MO_longest_L9 (l : Launch) {p : Program} {e : Env} {s : State} {m : MethodId} {below : List Frame} {meth : Method} {c : Code} {b n : Nat} {C : CT} (hlo : 231 ≤ n) (x1 : Int) (hx1 : InR x1) (F : Cx b p m c b_MO_longest 4 s ([.ref (b + 191), vI x1] : List Value).toArray "WardFallsModel" C n 231) (hlk : meth.locks = false) (hr : meth.sig.returnType = some .int) {res : Mem × Int} : ∀ (fu : Nat) (M : Mem) (v2_ : Int) (hv2_ : InR v2_) (v3_ : Int) (hv3_ : InR v3_) (H : Heap) (locs : List Loc) (ls : Array Slot), St b C n M s H locs → lv_has ls 4 [(0, .ref (b + 191)), (1, vI x1), (2, vI v2_), (3, vI v3_)] → t_MO_longest_L9 x1 fu M v2_ v3_ = some res → W p l e (headSpec (wsM y_MO_longest b_MO_longest 4 (some .int)) (rmD 3)).room s m ([.ref (b + 191), vI x1] : List Value).toArray below meth c H locs 0 0 (MQ below (QI b C n res.1 res.2) ([.ref (b + 191), vI x1] : List Value).toArray s 0 0 (frb b)) (F0 m 9 ls []) := by
  intro fu
  induction fu with
  | zero => intro M v2_ hv2_ v3_ hv3_ H locs ls hS hl hT; exact absurd hT (by simp [t_MO_longest_L9])
  | succ fu ih =>
    intro M v2_ hv2_ v3_ hv3_ H locs ls hS hl hT
    rw [t_MO_longest_L9] at hT
    refine lv_iload_n F.hx F.hb d_MO_longest_9 rfl (lv_at hl 3 rfl) ?_
    refine lv_aload_n F.hx F.hb d_MO_longest_10 rfl (lv_at hl 0 rfl) ?_
    obtain ⟨q2, hq2⟩ : ∃ q, q = (t_MO_cells M) := ⟨_, rfl⟩
    replace hT := qlet_eq hT hq2
    refine r_backI F hS (r_runV (k := 191) (N := 68) (T := T1) (As := []) F hS (show 191 < 231 by decide) (show shK 191 = 5 from rfl) rfl (c_MO_cells l F.2.2.1 M _ hq2.symm) gs_MO_329 hd_MO_cells ⟨Nat.le_of_ble_eq_true rfl, Nat.le_of_ble_eq_true rfl⟩ rfl hl.1 (Nat.le_of_ble_eq_true rfl) ⟨Nat.zero_le _, Nat.zero_le _⟩ rfl d_MO_longest_11) (fun H locs hS h3 => ?_)
    refine r_icmp_ge (tgt := 69) F.hx F.hb hv3_ h3 d_MO_longest_14 (by decide) (fun c4 => ?_) (fun c4 => ?_)
    · replace hT := (if_pos c4).symm.trans hT
      refine lv_iload_n F.hx F.hb d_MO_longest_69 rfl (lv_at hl 2 rfl) ?_
      cases hT
      exact r_iret F hlk hr rfl hS hv2_ d_MO_longest_70
    · replace hT := (if_neg c4).symm.trans hT
      refine lv_aload_n F.hx F.hb d_MO_longest_17 rfl (lv_at hl 0 rfl) ?_
      refine r_get (v := .ref (b + 198)) (N := 68) (T := T1) (j := 8) F hS (show 191 < 231 by decide) (show shK 191 = 5 from rfl) (show shN 191 = 68 from rfl) rfl (Nat.le_of_ble_eq_true rfl) ing1 mw_1397 (fv_sg rfl rfl rfl) d_MO_longest_18 ?_
      refine lv_iload_n F.hx F.hb d_MO_longest_21 rfl (lv_at hl 3 rfl) ?_
      obtain ⟨⟨g5a, g5b⟩, hT⟩ := q_guard hT
      have z6 := hS.bool (show shK 198 = 1 from rfl) v3_
      refine r_zald F hS (show 198 < 231 by decide) (show shK 198 = 1 from rfl) (show shN 198 = 96 from rfl) hv3_ g5a g5b d_MO_longest_22 ?_
      refine r_if_eq (tgt := 29) F.hx F.hb (inr_z z6) d_MO_longest_23 (by decide) (fun c7 => ?_) (fun c7 => ?_)
      · replace hT := (if_pos c7).symm.trans hT
        refine lv_aload_n F.hx F.hb d_MO_longest_29 rfl (lv_at hl 0 rfl) ?_
        refine lv_iload_n F.hx F.hb d_MO_longest_30 rfl (lv_at hl 1 rfl) ?_
        refine lv_iload_n F.hx F.hb d_MO_longest_31 rfl (lv_at hl 3 rfl) ?_
        obtain ⟨q8, hq8, hT⟩ := q_obind hT
        refine r_backV F hS (r_runV (k := 191) (N := 68) (T := T1) (As := [vI x1, vI v3_]) F hS (show 191 < 231 by decide) (show shK 191 = 5 from rfl) rfl (c_MO_goesFrom l F.2.2.1 M x1 v3_ hx1 hv3_ _ hq8) gs_MO_414 hd_MO_goesFrom ⟨Nat.le_of_ble_eq_true rfl, Nat.le_of_ble_eq_true rfl⟩ rfl hl.1 (Nat.le_of_ble_eq_true rfl) ⟨Nat.zero_le _, Nat.zero_le _⟩ rfl d_MO_longest_32) (fun H locs hS => ?_)
        refine lv_aload_n F.hx F.hb d_MO_longest_35 rfl (lv_at hl 0 rfl) ?_
        refine r_get (v := vI (q8.1 191 46)) (N := 68) (T := T1) (j := 46) F hS (show 191 < 231 by decide) (show shK 191 = 5 from rfl) (show shN 191 = 68 from rfl) rfl (Nat.le_of_ble_eq_true rfl) ing1 mw_1435 (fv_int rfl) d_MO_longest_36 ?_
        have i10 := hS.rng 191 46
        refine r_if_gt (tgt := 63) F.hx F.hb i10 d_MO_longest_39 (by decide) (fun c11 => ?_) (fun c11 => ?_)
        · replace hT := (if_pos c11).symm.trans hT
          exact k_MO_longest_L63 l hlo x1 hx1 F hlk hr (fun a0_ a1_ a2_ => t_MO_longest_L9 x1 fu a0_ a1_ a2_) ih q8 v2_ hv2_ v3_ hv3_ _ _ _ hS (lv_sub hl [0, 1, 2, 3] rfl) hT
        · replace hT := (if_neg c11).symm.trans hT
          refine lv_aload_n F.hx F.hb d_MO_longest_42 rfl (lv_at hl 0 rfl) ?_
          refine r_get (v := vI (q8.1 191 48)) (N := 68) (T := T1) (j := 48) F hS (show 191 < 231 by decide) (show shK 191 = 5 from rfl) (show shN 191 = 68 from rfl) rfl (Nat.le_of_ble_eq_true rfl) ing1 mw_1437 (fv_int rfl) d_MO_longest_43 ?_
          have i12 := hS.rng 191 48
          refine lv_iload_n F.hx F.hb d_MO_longest_46 rfl (lv_at hl 2 rfl) ?_
          refine r_icmp_gt (tgt := 53) F.hx F.hb i12 hv2_ d_MO_longest_47 (by decide) (fun c13 => ?_) (fun c13 => ?_)
          · replace hT := (if_pos c13).symm.trans hT
            refine lv_aload_n F.hx F.hb d_MO_longest_53 rfl (lv_at hl 0 rfl) ?_
            refine r_get (v := vI (q8.1 191 48)) (N := 68) (T := T1) (j := 48) F hS (show 191 < 231 by decide) (show shK 191 = 5 from rfl) (show shN 191 = 68 from rfl) rfl (Nat.le_of_ble_eq_true rfl) ing1 mw_1437 (fv_int rfl) d_MO_longest_54 ?_
            have i14 := hS.rng 191 48
            refine lv_istore_n (lv' := [(2, vI (q8.1 191 48)), (0, .ref (b + 191)), (1, vI x1), (3, vI v3_)]) F.hx F.hb d_MO_longest_57 rfl hl (Nat.le_of_ble_eq_true rfl) rfl (fun ls hl => ?_)
            refine lv_aload_n F.hx F.hb d_MO_longest_58 rfl (lv_at hl 1 rfl) ?_
            refine lv_iload_n F.hx F.hb d_MO_longest_59 rfl (lv_at hl 3 rfl) ?_
            refine r_putI (N := 68) (T := T1) (j := 57) F hS (show 191 < 231 by decide) (show shK 191 = 5 from rfl) (show shN 191 = 68 from rfl) rfl (Nat.le_of_ble_eq_true rfl) ing1 tyok1 nm1 rfl rfl rfl rfl rfl rfl mw_1446 hv3_ d_MO_longest_60 (fun H locs hS => ?_)
            obtain ⟨M15, eM15⟩ : ∃ q, q = (setI q8 191 57 v3_) := ⟨_, rfl⟩
            replace hS : St b C n M15 s H locs := by rw [eM15]; exact hS
            replace hT := qlet_eq hT eM15
            exact k_MO_longest_L63 l hlo x1 hx1 F hlk hr (fun a0_ a1_ a2_ => t_MO_longest_L9 x1 fu a0_ a1_ a2_) ih M15 (q8.1 191 48) i14 v3_ hv3_ _ _ _ hS (lv_sub hl [1, 2, 0, 3] rfl) hT
          · replace hT := (if_neg c13).symm.trans hT
            refine lv_goto (tgt := 63) F.hx F.hb d_MO_longest_50 (by decide) ?_
            exact k_MO_longest_L63 l hlo x1 hx1 F hlk hr (fun a0_ a1_ a2_ => t_MO_longest_L9 x1 fu a0_ a1_ a2_) ih q8 v2_ hv2_ v3_ hv3_ _ _ _ hS (lv_sub hl [0, 1, 2, 3] rfl) hT
      · replace hT := (if_neg c7).symm.trans hT
        refine lv_goto (tgt := 63) F.hx F.hb d_MO_longest_26 (by decide) ?_
        exact k_MO_longest_L63 l hlo x1 hx1 F hlk hr (fun a0_ a1_ a2_ => t_MO_longest_L9 x1 fu a0_ a1_ a2_) ih M v2_ hv2_ v3_ hv3_ _ _ _ hS (lv_sub hl [0, 1, 2, 3] rfl) hT
set_option maxHeartbeats 4000000 in
set_option maxRecDepth 100000 in
theorem c_MO_longest (l : Launch) {b n : Nat} {C : CT} (hlo : 231 ≤ n) (M : Mem) (x1 : Int) (hx1 : InR x1) (res : Mem × Int) (hT : t_MO_longest M x1 = some res) : CM l b C n 3 y_MO_longest b_MO_longest 4 (some .int) [.ref (b + 191), vI x1] M (QI b C n res.1 res.2) := by
  refine CM.of (lo := 231) (ow := "WardFallsModel") (by decide) rfl (Nat.le_of_ble_eq_true rfl) hlo (fun p e s m below meth c F hlk hr hS ls hl => ?_)
  have hl : lv_has ls 4 [(0, .ref (b + 191)), (1, vI x1)] := hl
  unfold t_MO_longest at hT
  refine r_iconst F.hx F.hb d_MO_longest_0 ?_
  refine lv_istore_n (lv' := [(2, vI 0), (0, .ref (b + 191)), (1, vI x1)]) F.hx F.hb d_MO_longest_1 rfl hl (Nat.le_of_ble_eq_true rfl) rfl (fun ls hl => ?_)
  refine lv_aload_n F.hx F.hb d_MO_longest_2 rfl (lv_at hl 1 rfl) ?_
  refine r_iconst F.hx F.hb d_MO_longest_3 ?_
  refine r_putI (N := 68) (T := T1) (j := 57) F hS (show 191 < 231 by decide) (show shK 191 = 5 from rfl) (show shN 191 = 68 from rfl) rfl (Nat.le_of_ble_eq_true rfl) ing1 tyok1 nm1 rfl rfl rfl rfl rfl rfl mw_1446 (inr_c rfl) d_MO_longest_4 (fun H locs hS => ?_)
  obtain ⟨M1, eM1⟩ : ∃ q, q = (setI M 191 57 (-1)) := ⟨_, rfl⟩
  replace hS : St b C n M1 s H locs := by rw [eM1]; exact hS
  replace hT := qlet_eq hT eM1
  refine r_iconst F.hx F.hb d_MO_longest_7 ?_
  refine lv_istore_n (lv' := [(3, vI 0), (2, vI 0), (0, .ref (b + 191)), (1, vI x1)]) F.hx F.hb d_MO_longest_8 rfl hl (Nat.le_of_ble_eq_true rfl) rfl (fun ls hl => ?_)
  exact k_MO_longest_L9 l hlo x1 hx1 F hlk hr FU M1 0 (inr_c rfl) 0 (inr_c rfl) _ _ _ hS (lv_sub hl [2, 3, 1, 0] rfl) hT
theorem wn_MO_clock_0 : ∀ i, i < 95 → bA b_MO_clock (0 + i) = wB [42, 3, 181, 0, 145, 27, 155, 0, 8, 27, 6, 164, 0, 5, 2, 172, 42, 3, 182, 1, 224, 61, 2, 62, 2, 54, 4, 42, 180, 1, 221, 54, 5, 3, 54, 6, 21, 6, 42, 180, 0, 13, 5, 46, 162, 0, 88, 3, 54, 7, 21, 7, 7, 163, 0, 73, 21, 7, 42, 180, 0, 76, 21, 6, 46, 160, 0, 6, 167, 0, 52, 42, 4, 3, 182, 1, 181, 42, 180, 0, 76, 7, 21, 6, 96, 21, 7, 79, 42, 4, 182, 1, 224, 54, 8] i := wB_of (by decide +kernel)
theorem d_MO_clock_0 : decode b_MO_clock 0 = .ok (.aload_n 0, 1) := dc_42 (q0_win (r := 0) wn_MO_clock_0 (by decide +kernel))
theorem d_MO_clock_1 : decode b_MO_clock 1 = .ok (.iconst 0, 1) := dc_3 (q0_win (r := 1) wn_MO_clock_0 (by decide +kernel))
theorem d_MO_clock_2 : decode b_MO_clock 2 = .ok (.putfield 145, 3) := dc_181 (qU2_win (r := 2) wn_MO_clock_0 (by decide +kernel))
theorem d_MO_clock_5 : decode b_MO_clock 5 = .ok (.iload_n 1, 1) := dc_27 (q0_win (r := 5) wn_MO_clock_0 (by decide +kernel))
theorem d_MO_clock_6 : decode b_MO_clock 6 = .ok (.ifCond .lt 8, 3) := dc_155 (qS2_win (r := 6) wn_MO_clock_0 (by decide +kernel))
theorem d_MO_clock_9 : decode b_MO_clock 9 = .ok (.iload_n 1, 1) := dc_27 (q0_win (r := 9) wn_MO_clock_0 (by decide +kernel))
theorem d_MO_clock_10 : decode b_MO_clock 10 = .ok (.iconst 3, 1) := dc_6 (q0_win (r := 10) wn_MO_clock_0 (by decide +kernel))
theorem d_MO_clock_11 : decode b_MO_clock 11 = .ok (.if_icmp .le 5, 3) := dc_164 (qS2_win (r := 11) wn_MO_clock_0 (by decide +kernel))
theorem d_MO_clock_14 : decode b_MO_clock 14 = .ok (.iconst (-1), 1) := dc_2 (q0_win (r := 14) wn_MO_clock_0 (by decide +kernel))
theorem d_MO_clock_15 : decode b_MO_clock 15 = .ok (.ireturn, 1) := dc_172 (q0_win (r := 15) wn_MO_clock_0 (by decide +kernel))
theorem d_MO_clock_16 : decode b_MO_clock 16 = .ok (.aload_n 0, 1) := dc_42 (q0_win (r := 16) wn_MO_clock_0 (by decide +kernel))
theorem d_MO_clock_17 : decode b_MO_clock 17 = .ok (.iconst 0, 1) := dc_3 (q0_win (r := 17) wn_MO_clock_0 (by decide +kernel))
theorem d_MO_clock_18 : decode b_MO_clock 18 = .ok (.invokevirtual 480, 3) := dc_182 (qU2_win (r := 18) wn_MO_clock_0 (by decide +kernel))
theorem d_MO_clock_21 : decode b_MO_clock 21 = .ok (.istore_n 2, 1) := dc_61 (q0_win (r := 21) wn_MO_clock_0 (by decide +kernel))
theorem d_MO_clock_22 : decode b_MO_clock 22 = .ok (.iconst (-1), 1) := dc_2 (q0_win (r := 22) wn_MO_clock_0 (by decide +kernel))
theorem d_MO_clock_23 : decode b_MO_clock 23 = .ok (.istore_n 3, 1) := dc_62 (q0_win (r := 23) wn_MO_clock_0 (by decide +kernel))
theorem d_MO_clock_24 : decode b_MO_clock 24 = .ok (.iconst (-1), 1) := dc_2 (q0_win (r := 24) wn_MO_clock_0 (by decide +kernel))
theorem d_MO_clock_25 : decode b_MO_clock 25 = .ok (.istore 4, 2) := dc_54 (qU1_win (r := 25) wn_MO_clock_0 (by decide +kernel))
theorem d_MO_clock_27 : decode b_MO_clock 27 = .ok (.aload_n 0, 1) := dc_42 (q0_win (r := 27) wn_MO_clock_0 (by decide +kernel))
theorem d_MO_clock_28 : decode b_MO_clock 28 = .ok (.getfield 477, 3) := dc_180 (qU2_win (r := 28) wn_MO_clock_0 (by decide +kernel))
theorem d_MO_clock_31 : decode b_MO_clock 31 = .ok (.istore 5, 2) := dc_54 (qU1_win (r := 31) wn_MO_clock_0 (by decide +kernel))
theorem d_MO_clock_33 : decode b_MO_clock 33 = .ok (.iconst 0, 1) := dc_3 (q0_win (r := 33) wn_MO_clock_0 (by decide +kernel))
theorem d_MO_clock_34 : decode b_MO_clock 34 = .ok (.istore 6, 2) := dc_54 (qU1_win (r := 34) wn_MO_clock_0 (by decide +kernel))
theorem d_MO_clock_36 : decode b_MO_clock 36 = .ok (.iload 6, 2) := dc_21 (qU1_win (r := 36) wn_MO_clock_0 (by decide +kernel))
theorem d_MO_clock_38 : decode b_MO_clock 38 = .ok (.aload_n 0, 1) := dc_42 (q0_win (r := 38) wn_MO_clock_0 (by decide +kernel))
theorem d_MO_clock_39 : decode b_MO_clock 39 = .ok (.getfield 13, 3) := dc_180 (qU2_win (r := 39) wn_MO_clock_0 (by decide +kernel))
theorem d_MO_clock_42 : decode b_MO_clock 42 = .ok (.iconst 2, 1) := dc_5 (q0_win (r := 42) wn_MO_clock_0 (by decide +kernel))
theorem d_MO_clock_43 : decode b_MO_clock 43 = .ok (.iaload, 1) := dc_46 (q0_win (r := 43) wn_MO_clock_0 (by decide +kernel))
theorem d_MO_clock_44 : decode b_MO_clock 44 = .ok (.if_icmp .ge 88, 3) := dc_162 (qS2_win (r := 44) wn_MO_clock_0 (by decide +kernel))
theorem d_MO_clock_47 : decode b_MO_clock 47 = .ok (.iconst 0, 1) := dc_3 (q0_win (r := 47) wn_MO_clock_0 (by decide +kernel))
theorem d_MO_clock_48 : decode b_MO_clock 48 = .ok (.istore 7, 2) := dc_54 (qU1_win (r := 48) wn_MO_clock_0 (by decide +kernel))
theorem d_MO_clock_50 : decode b_MO_clock 50 = .ok (.iload 7, 2) := dc_21 (qU1_win (r := 50) wn_MO_clock_0 (by decide +kernel))
theorem d_MO_clock_52 : decode b_MO_clock 52 = .ok (.iconst 4, 1) := dc_7 (q0_win (r := 52) wn_MO_clock_0 (by decide +kernel))
theorem d_MO_clock_53 : decode b_MO_clock 53 = .ok (.if_icmp .gt 73, 3) := dc_163 (qS2_win (r := 53) wn_MO_clock_0 (by decide +kernel))
theorem d_MO_clock_56 : decode b_MO_clock 56 = .ok (.iload 7, 2) := dc_21 (qU1_win (r := 56) wn_MO_clock_0 (by decide +kernel))
theorem d_MO_clock_58 : decode b_MO_clock 58 = .ok (.aload_n 0, 1) := dc_42 (q0_win (r := 58) wn_MO_clock_0 (by decide +kernel))
theorem d_MO_clock_59 : decode b_MO_clock 59 = .ok (.getfield 76, 3) := dc_180 (qU2_win (r := 59) wn_MO_clock_0 (by decide +kernel))
theorem d_MO_clock_62 : decode b_MO_clock 62 = .ok (.iload 6, 2) := dc_21 (qU1_win (r := 62) wn_MO_clock_0 (by decide +kernel))
theorem d_MO_clock_64 : decode b_MO_clock 64 = .ok (.iaload, 1) := dc_46 (q0_win (r := 64) wn_MO_clock_0 (by decide +kernel))
theorem d_MO_clock_65 : decode b_MO_clock 65 = .ok (.if_icmp .ne 6, 3) := dc_160 (qS2_win (r := 65) wn_MO_clock_0 (by decide +kernel))
theorem d_MO_clock_68 : decode b_MO_clock 68 = .ok (.goto 52, 3) := dc_167 (qS2_win (r := 68) wn_MO_clock_0 (by decide +kernel))
theorem d_MO_clock_71 : decode b_MO_clock 71 = .ok (.aload_n 0, 1) := dc_42 (q0_win (r := 71) wn_MO_clock_0 (by decide +kernel))
theorem d_MO_clock_72 : decode b_MO_clock 72 = .ok (.iconst 1, 1) := dc_4 (q0_win (r := 72) wn_MO_clock_0 (by decide +kernel))
theorem d_MO_clock_73 : decode b_MO_clock 73 = .ok (.iconst 0, 1) := dc_3 (q0_win (r := 73) wn_MO_clock_0 (by decide +kernel))
theorem d_MO_clock_74 : decode b_MO_clock 74 = .ok (.invokevirtual 437, 3) := dc_182 (qU2_win (r := 74) wn_MO_clock_0 (by decide +kernel))
theorem d_MO_clock_77 : decode b_MO_clock 77 = .ok (.aload_n 0, 1) := dc_42 (q0_win (r := 77) wn_MO_clock_0 (by decide +kernel))
theorem d_MO_clock_78 : decode b_MO_clock 78 = .ok (.getfield 76, 3) := dc_180 (qU2_win (r := 78) wn_MO_clock_0 (by decide +kernel))
theorem d_MO_clock_81 : decode b_MO_clock 81 = .ok (.iconst 4, 1) := dc_7 (q0_win (r := 81) wn_MO_clock_0 (by decide +kernel))
theorem d_MO_clock_82 : decode b_MO_clock 82 = .ok (.iload 6, 2) := dc_21 (qU1_win (r := 82) wn_MO_clock_0 (by decide +kernel))
theorem d_MO_clock_84 : decode b_MO_clock 84 = .ok (.iadd, 1) := dc_96 (q0_win (r := 84) wn_MO_clock_0 (by decide +kernel))
theorem d_MO_clock_85 : decode b_MO_clock 85 = .ok (.iload 7, 2) := dc_21 (qU1_win (r := 85) wn_MO_clock_0 (by decide +kernel))
theorem d_MO_clock_87 : decode b_MO_clock 87 = .ok (.iastore, 1) := dc_79 (q0_win (r := 87) wn_MO_clock_0 (by decide +kernel))
theorem d_MO_clock_88 : decode b_MO_clock 88 = .ok (.aload_n 0, 1) := dc_42 (q0_win (r := 88) wn_MO_clock_0 (by decide +kernel))
theorem d_MO_clock_89 : decode b_MO_clock 89 = .ok (.iconst 1, 1) := dc_4 (q0_win (r := 89) wn_MO_clock_0 (by decide +kernel))
theorem d_MO_clock_90 : decode b_MO_clock 90 = .ok (.invokevirtual 480, 3) := dc_182 (qU2_win (r := 90) wn_MO_clock_0 (by decide +kernel))
theorem d_MO_clock_93 : decode b_MO_clock 93 = .ok (.istore 8, 2) := dc_54 (qU1_win (r := 93) wn_MO_clock_0 (by decide +kernel))
theorem wn_MO_clock_95 : ∀ i, i < 67 → bA b_MO_clock (95 + i) = wB [21, 8, 28, 163, 0, 6, 167, 0, 19, 21, 8, 61, 21, 6, 62, 21, 7, 54, 4, 42, 180, 1, 221, 54, 5, 132, 7, 1, 167, 255, 183, 132, 6, 1, 167, 255, 163, 27, 154, 0, 7, 28, 167, 0, 24, 27, 4, 160, 0, 7, 29, 167, 0, 15, 27, 5, 160, 0, 8, 21, 4, 167, 0, 5, 21, 5, 172] i := wB_of (by decide +kernel)
theorem d_MO_clock_95 : decode b_MO_clock 95 = .ok (.iload 8, 2) := dc_21 (qU1_win (r := 0) wn_MO_clock_95 (by decide +kernel))
theorem d_MO_clock_97 : decode b_MO_clock 97 = .ok (.iload_n 2, 1) := dc_28 (q0_win (r := 2) wn_MO_clock_95 (by decide +kernel))
theorem d_MO_clock_98 : decode b_MO_clock 98 = .ok (.if_icmp .gt 6, 3) := dc_163 (qS2_win (r := 3) wn_MO_clock_95 (by decide +kernel))
theorem d_MO_clock_101 : decode b_MO_clock 101 = .ok (.goto 19, 3) := dc_167 (qS2_win (r := 6) wn_MO_clock_95 (by decide +kernel))
theorem d_MO_clock_104 : decode b_MO_clock 104 = .ok (.iload 8, 2) := dc_21 (qU1_win (r := 9) wn_MO_clock_95 (by decide +kernel))
theorem d_MO_clock_106 : decode b_MO_clock 106 = .ok (.istore_n 2, 1) := dc_61 (q0_win (r := 11) wn_MO_clock_95 (by decide +kernel))
theorem d_MO_clock_107 : decode b_MO_clock 107 = .ok (.iload 6, 2) := dc_21 (qU1_win (r := 12) wn_MO_clock_95 (by decide +kernel))
theorem d_MO_clock_109 : decode b_MO_clock 109 = .ok (.istore_n 3, 1) := dc_62 (q0_win (r := 14) wn_MO_clock_95 (by decide +kernel))
theorem d_MO_clock_110 : decode b_MO_clock 110 = .ok (.iload 7, 2) := dc_21 (qU1_win (r := 15) wn_MO_clock_95 (by decide +kernel))
theorem d_MO_clock_112 : decode b_MO_clock 112 = .ok (.istore 4, 2) := dc_54 (qU1_win (r := 17) wn_MO_clock_95 (by decide +kernel))
theorem d_MO_clock_114 : decode b_MO_clock 114 = .ok (.aload_n 0, 1) := dc_42 (q0_win (r := 19) wn_MO_clock_95 (by decide +kernel))
theorem d_MO_clock_115 : decode b_MO_clock 115 = .ok (.getfield 477, 3) := dc_180 (qU2_win (r := 20) wn_MO_clock_95 (by decide +kernel))
theorem d_MO_clock_118 : decode b_MO_clock 118 = .ok (.istore 5, 2) := dc_54 (qU1_win (r := 23) wn_MO_clock_95 (by decide +kernel))
theorem d_MO_clock_120 : decode b_MO_clock 120 = .ok (.iinc 7 1, 3) := dc_132 (qI_win (r := 25) wn_MO_clock_95 (by decide +kernel))
theorem d_MO_clock_123 : decode b_MO_clock 123 = .ok (.goto (-73), 3) := dc_167 (qS2_win (r := 28) wn_MO_clock_95 (by decide +kernel))
theorem d_MO_clock_126 : decode b_MO_clock 126 = .ok (.iinc 6 1, 3) := dc_132 (qI_win (r := 31) wn_MO_clock_95 (by decide +kernel))
theorem d_MO_clock_129 : decode b_MO_clock 129 = .ok (.goto (-93), 3) := dc_167 (qS2_win (r := 34) wn_MO_clock_95 (by decide +kernel))
theorem d_MO_clock_132 : decode b_MO_clock 132 = .ok (.iload_n 1, 1) := dc_27 (q0_win (r := 37) wn_MO_clock_95 (by decide +kernel))
theorem d_MO_clock_133 : decode b_MO_clock 133 = .ok (.ifCond .ne 7, 3) := dc_154 (qS2_win (r := 38) wn_MO_clock_95 (by decide +kernel))
theorem d_MO_clock_136 : decode b_MO_clock 136 = .ok (.iload_n 2, 1) := dc_28 (q0_win (r := 41) wn_MO_clock_95 (by decide +kernel))
theorem d_MO_clock_137 : decode b_MO_clock 137 = .ok (.goto 24, 3) := dc_167 (qS2_win (r := 42) wn_MO_clock_95 (by decide +kernel))
theorem d_MO_clock_140 : decode b_MO_clock 140 = .ok (.iload_n 1, 1) := dc_27 (q0_win (r := 45) wn_MO_clock_95 (by decide +kernel))
theorem d_MO_clock_141 : decode b_MO_clock 141 = .ok (.iconst 1, 1) := dc_4 (q0_win (r := 46) wn_MO_clock_95 (by decide +kernel))
theorem d_MO_clock_142 : decode b_MO_clock 142 = .ok (.if_icmp .ne 7, 3) := dc_160 (qS2_win (r := 47) wn_MO_clock_95 (by decide +kernel))
theorem d_MO_clock_145 : decode b_MO_clock 145 = .ok (.iload_n 3, 1) := dc_29 (q0_win (r := 50) wn_MO_clock_95 (by decide +kernel))
theorem d_MO_clock_146 : decode b_MO_clock 146 = .ok (.goto 15, 3) := dc_167 (qS2_win (r := 51) wn_MO_clock_95 (by decide +kernel))
theorem d_MO_clock_149 : decode b_MO_clock 149 = .ok (.iload_n 1, 1) := dc_27 (q0_win (r := 54) wn_MO_clock_95 (by decide +kernel))
theorem d_MO_clock_150 : decode b_MO_clock 150 = .ok (.iconst 2, 1) := dc_5 (q0_win (r := 55) wn_MO_clock_95 (by decide +kernel))
theorem d_MO_clock_151 : decode b_MO_clock 151 = .ok (.if_icmp .ne 8, 3) := dc_160 (qS2_win (r := 56) wn_MO_clock_95 (by decide +kernel))
theorem d_MO_clock_154 : decode b_MO_clock 154 = .ok (.iload 4, 2) := dc_21 (qU1_win (r := 59) wn_MO_clock_95 (by decide +kernel))
theorem d_MO_clock_156 : decode b_MO_clock 156 = .ok (.goto 5, 3) := dc_167 (qS2_win (r := 61) wn_MO_clock_95 (by decide +kernel))
theorem d_MO_clock_159 : decode b_MO_clock 159 = .ok (.iload 5, 2) := dc_21 (qU1_win (r := 64) wn_MO_clock_95 (by decide +kernel))
theorem d_MO_clock_161 : decode b_MO_clock 161 = .ok (.ireturn, 1) := dc_172 (q0_win (r := 66) wn_MO_clock_95 (by decide +kernel))
def t_MO_clock_L120 (x1 : Int) (bk36 : Mem → Int → Int → Int → Int → Int → Option (Mem × Int)) (bk50 : Mem → Int → Int → Int → Int → Int → Int → Option (Mem × Int)) (M : Mem) (v2_ : Int) (v3_ : Int) (v4_ : Int) (v5_ : Int) (v6_ : Int) (v7_ : Int) : Option (Mem × Int) := (bk50 M v2_ v3_ v4_ v5_ v6_ (w32 (v7_ + 1)))
def t_MO_clock_L50 (x1 : Int) (bk36 : Mem → Int → Int → Int → Int → Int → Option (Mem × Int)) : Nat → Mem → Int → Int → Int → Int → Int → Int → Option (Mem × Int)
  | 0, _, _, _, _, _, _, _ => none
  | fu + 1, M, v2_, v3_, v4_, v5_, v6_, v7_ => (if 4 < v7_ then (bk36 M v2_ v3_ v4_ v5_ (w32 (v6_ + 1))) else (qguard (0 ≤ v6_ ∧ v6_ < 92) (if v7_ = (M.1 212 v6_) then (t_MO_clock_L120 x1 bk36 (fun a0_ a1_ a2_ a3_ a4_ a5_ a6_ => t_MO_clock_L50 x1 bk36 fu a0_ a1_ a2_ a3_ a4_ a5_ a6_) M v2_ v3_ v4_ v5_ v6_ v7_) else (obind (t_MO_copies M 1 0) fun q16 => (qguard (0 ≤ (w32 (4 + v6_)) ∧ (w32 (4 + v6_)) < 92) (qlet (setI q16 212 (w32 (4 + v6_)) v7_) fun M19 => (obind (t_MO_longest M19 1) fun q20 => (if v2_ < (q20.2) then (t_MO_clock_L120 x1 bk36 (fun a0_ a1_ a2_ a3_ a4_ a5_ a6_ => t_MO_clock_L50 x1 bk36 fu a0_ a1_ a2_ a3_ a4_ a5_ a6_) (q20.1) (q20.2) v6_ v7_ ((q20.1).1 191 57) v6_ v7_) else (t_MO_clock_L120 x1 bk36 (fun a0_ a1_ a2_ a3_ a4_ a5_ a6_ => t_MO_clock_L50 x1 bk36 fu a0_ a1_ a2_ a3_ a4_ a5_ a6_) (q20.1) v2_ v3_ v4_ v5_ v6_ v7_)))))))))
def t_MO_clock_L36 (x1 : Int)  : Nat → Mem → Int → Int → Int → Int → Int → Option (Mem × Int)
  | 0, _, _, _, _, _, _ => none
  | fu + 1, M, v2_, v3_, v4_, v5_, v6_ => (if (M.1 193 2) ≤ v6_ then (if x1 = 0 then (some (M, v2_)) else (if x1 = 1 then (some (M, v3_)) else (if x1 = 2 then (some (M, v4_)) else (some (M, v5_))))) else (t_MO_clock_L50 x1 (fun a0_ a1_ a2_ a3_ a4_ a5_ => t_MO_clock_L36 x1 fu a0_ a1_ a2_ a3_ a4_ a5_) FU M v2_ v3_ v4_ v5_ v6_ 0))
def t_MO_clock (M : Mem) (x1 : Int) : Option (Mem × Int) := (qlet (setI M 191 0 0) fun M1 => (if x1 < 0 then (some (M1, (-1))) else (if x1 ≤ 3 then (obind (t_MO_longest M1 0) fun q4 => (t_MO_clock_L36 x1 FU (q4.1) (q4.2) (-1) (-1) ((q4.1).1 191 57) 0)) else (some (M1, (-1))))))
set_option maxHeartbeats 4000000 in
set_option maxRecDepth 100000 in
theorem k_MO_clock_L120 (l : Launch) {p : Program} {e : Env} {s : State} {m : MethodId} {below : List Frame} {meth : Method} {c : Code} {b n : Nat} {C : CT} (hlo : 231 ≤ n) (x1 : Int) (hx1 : InR x1) (F : Cx b p m c b_MO_clock 9 s ([.ref (b + 191), vI x1] : List Value).toArray "WardFallsModel" C n 231) (hlk : meth.locks = false) (hr : meth.sig.returnType = some .int) {res : Mem × Int} (bk36 : Mem → Int → Int → Int → Int → Int → Option (Mem × Int)) (hbk36 : ∀ (M : Mem) (v2_ : Int) (hv2_ : InR v2_) (v3_ : Int) (hv3_ : InR v3_) (v4_ : Int) (hv4_ : InR v4_) (v5_ : Int) (hv5_ : InR v5_) (v6_ : Int) (hv6_ : InR v6_) (H : Heap) (locs : List Loc) (ls : Array Slot), St b C n M s H locs → lv_has ls 9 [(0, .ref (b + 191)), (1, vI x1), (2, vI v2_), (3, vI v3_), (4, vI v4_), (5, vI v5_), (6, vI v6_)] → bk36 M v2_ v3_ v4_ v5_ v6_ = some res → W p l e (headSpec (wsM y_MO_clock b_MO_clock 9 (some .int)) (rmD 4)).room s m ([.ref (b + 191), vI x1] : List Value).toArray below meth c H locs 0 0 (MQ below (QI b C n res.1 res.2) ([.ref (b + 191), vI x1] : List Value).toArray s 0 0 (frb b)) (F0 m 36 ls [])) (bk50 : Mem → Int → Int → Int → Int → Int → Int → Option (Mem × Int)) (hbk50 : ∀ (M : Mem) (v2_ : Int) (hv2_ : InR v2_) (v3_ : Int) (hv3_ : InR v3_) (v4_ : Int) (hv4_ : InR v4_) (v5_ : Int) (hv5_ : InR v5_) (v6_ : Int) (hv6_ : InR v6_) (v7_ : Int) (hv7_ : InR v7_) (H : Heap) (locs : List Loc) (ls : Array Slot), St b C n M s H locs → lv_has ls 9 [(0, .ref (b + 191)), (1, vI x1), (2, vI v2_), (3, vI v3_), (4, vI v4_), (5, vI v5_), (6, vI v6_), (7, vI v7_)] → bk50 M v2_ v3_ v4_ v5_ v6_ v7_ = some res → W p l e (headSpec (wsM y_MO_clock b_MO_clock 9 (some .int)) (rmD 4)).room s m ([.ref (b + 191), vI x1] : List Value).toArray below meth c H locs 0 0 (MQ below (QI b C n res.1 res.2) ([.ref (b + 191), vI x1] : List Value).toArray s 0 0 (frb b)) (F0 m 50 ls [])) (M : Mem) (v2_ : Int) (hv2_ : InR v2_) (v3_ : Int) (hv3_ : InR v3_) (v4_ : Int) (hv4_ : InR v4_) (v5_ : Int) (hv5_ : InR v5_) (v6_ : Int) (hv6_ : InR v6_) (v7_ : Int) (hv7_ : InR v7_) (H : Heap) (locs : List Loc) (ls : Array Slot) (hS : St b C n M s H locs) (hl : lv_has ls 9 [(0, .ref (b + 191)), (1, vI x1), (2, vI v2_), (3, vI v3_), (4, vI v4_), (5, vI v5_), (6, vI v6_), (7, vI v7_)]) (hT : t_MO_clock_L120 x1 bk36 bk50 M v2_ v3_ v4_ v5_ v6_ v7_ = some res) : W p l e (headSpec (wsM y_MO_clock b_MO_clock 9 (some .int)) (rmD 4)).room s m ([.ref (b + 191), vI x1] : List Value).toArray below meth c H locs 0 0 (MQ below (QI b C n res.1 res.2) ([.ref (b + 191), vI x1] : List Value).toArray s 0 0 (frb b)) (F0 m 120 ls []) := by
  unfold t_MO_clock_L120 at hT
  refine lv_iinc (v := Int32.ofInt (w32 (v7_ + 1))) (lv' := [(7, vI (w32 (v7_ + 1))), (0, .ref (b + 191)), (1, vI x1), (2, vI v2_), (3, vI v3_), (4, vI v4_), (5, vI v5_), (6, vI v6_)]) F.hx F.hb d_MO_clock_120 hl (k := 7) rfl (q_of_add _ _) (Nat.le_of_ble_eq_true rfl) rfl (fun ls hl => ?_)
  refine lv_goto (tgt := 50) F.hx F.hb d_MO_clock_123 (by decide) ?_
  exact hbk50 M v2_ hv2_ v3_ hv3_ v4_ hv4_ v5_ hv5_ v6_ hv6_ (w32 (v7_ + 1)) (inr_w32 _) _ _ _ hS (lv_sub hl [1, 2, 3, 4, 5, 6, 7, 0] rfl) hT
set_option maxHeartbeats 4000000 in
set_option maxRecDepth 100000 in
theorem k_MO_clock_L50 (l : Launch) {p : Program} {e : Env} {s : State} {m : MethodId} {below : List Frame} {meth : Method} {c : Code} {b n : Nat} {C : CT} (hlo : 231 ≤ n) (x1 : Int) (hx1 : InR x1) (F : Cx b p m c b_MO_clock 9 s ([.ref (b + 191), vI x1] : List Value).toArray "WardFallsModel" C n 231) (hlk : meth.locks = false) (hr : meth.sig.returnType = some .int) {res : Mem × Int} (bk36 : Mem → Int → Int → Int → Int → Int → Option (Mem × Int)) (hbk36 : ∀ (M : Mem) (v2_ : Int) (hv2_ : InR v2_) (v3_ : Int) (hv3_ : InR v3_) (v4_ : Int) (hv4_ : InR v4_) (v5_ : Int) (hv5_ : InR v5_) (v6_ : Int) (hv6_ : InR v6_) (H : Heap) (locs : List Loc) (ls : Array Slot), St b C n M s H locs → lv_has ls 9 [(0, .ref (b + 191)), (1, vI x1), (2, vI v2_), (3, vI v3_), (4, vI v4_), (5, vI v5_), (6, vI v6_)] → bk36 M v2_ v3_ v4_ v5_ v6_ = some res → W p l e (headSpec (wsM y_MO_clock b_MO_clock 9 (some .int)) (rmD 4)).room s m ([.ref (b + 191), vI x1] : List Value).toArray below meth c H locs 0 0 (MQ below (QI b C n res.1 res.2) ([.ref (b + 191), vI x1] : List Value).toArray s 0 0 (frb b)) (F0 m 36 ls [])) : ∀ (fu : Nat) (M : Mem) (v2_ : Int) (hv2_ : InR v2_) (v3_ : Int) (hv3_ : InR v3_) (v4_ : Int) (hv4_ : InR v4_) (v5_ : Int) (hv5_ : InR v5_) (v6_ : Int) (hv6_ : InR v6_) (v7_ : Int) (hv7_ : InR v7_) (H : Heap) (locs : List Loc) (ls : Array Slot), St b C n M s H locs → lv_has ls 9 [(0, .ref (b + 191)), (1, vI x1), (2, vI v2_), (3, vI v3_), (4, vI v4_), (5, vI v5_), (6, vI v6_), (7, vI v7_)] → t_MO_clock_L50 x1 bk36 fu M v2_ v3_ v4_ v5_ v6_ v7_ = some res → W p l e (headSpec (wsM y_MO_clock b_MO_clock 9 (some .int)) (rmD 4)).room s m ([.ref (b + 191), vI x1] : List Value).toArray below meth c H locs 0 0 (MQ below (QI b C n res.1 res.2) ([.ref (b + 191), vI x1] : List Value).toArray s 0 0 (frb b)) (F0 m 50 ls []) := by
  intro fu
  induction fu with
  | zero => intro M v2_ hv2_ v3_ hv3_ v4_ hv4_ v5_ hv5_ v6_ hv6_ v7_ hv7_ H locs ls hS hl hT; exact absurd hT (by simp [t_MO_clock_L50])
  | succ fu ih =>
    intro M v2_ hv2_ v3_ hv3_ v4_ hv4_ v5_ hv5_ v6_ hv6_ v7_ hv7_ H locs ls hS hl hT
    rw [t_MO_clock_L50] at hT
    refine lv_iload F.hx F.hb d_MO_clock_50 (lv_at hl 7 rfl) ?_
    refine r_iconst F.hx F.hb d_MO_clock_52 ?_
    refine r_icmp_gt (tgt := 126) F.hx F.hb hv7_ (inr_c rfl) d_MO_clock_53 (by decide) (fun c12 => ?_) (fun c12 => ?_)
    · replace hT := (if_pos c12).symm.trans hT
      refine lv_iinc (v := Int32.ofInt (w32 (v6_ + 1))) (lv' := [(6, vI (w32 (v6_ + 1))), (0, .ref (b + 191)), (1, vI x1), (2, vI v2_), (3, vI v3_), (4, vI v4_), (5, vI v5_), (7, vI v7_)]) F.hx F.hb d_MO_clock_126 hl (k := 6) rfl (q_of_add _ _) (Nat.le_of_ble_eq_true rfl) rfl (fun ls hl => ?_)
      refine lv_goto (tgt := 36) F.hx F.hb d_MO_clock_129 (by decide) ?_
      exact hbk36 M v2_ hv2_ v3_ hv3_ v4_ hv4_ v5_ hv5_ (w32 (v6_ + 1)) (inr_w32 _) _ _ _ hS (lv_sub hl [1, 2, 3, 4, 5, 6, 0] rfl) hT
    · replace hT := (if_neg c12).symm.trans hT
      refine lv_iload F.hx F.hb d_MO_clock_56 (lv_at hl 7 rfl) ?_
      refine lv_aload_n F.hx F.hb d_MO_clock_58 rfl (lv_at hl 0 rfl) ?_
      refine r_get (v := .ref (b + 212)) (N := 68) (T := T1) (j := 35) F hS (show 191 < 231 by decide) (show shK 191 = 5 from rfl) (show shN 191 = 68 from rfl) rfl (Nat.le_of_ble_eq_true rfl) ing1 mw_1424 (fv_sg rfl rfl rfl) d_MO_clock_59 ?_
      refine lv_iload F.hx F.hb d_MO_clock_62 (lv_at hl 6 rfl) ?_
      obtain ⟨⟨g13a, g13b⟩, hT⟩ := q_guard hT
      refine r_iald F hS (show 212 < 231 by decide) (show shK 212 = 0 from rfl) (show shN 212 = 92 from rfl) hv6_ g13a g13b d_MO_clock_64 ?_
      have i14 := hS.rng 212 v6_
      refine r_icmp_ne (tgt := 71) F.hx F.hb hv7_ i14 d_MO_clock_65 (by decide) (fun c15 => ?_) (fun c15 => ?_)
      · replace hT := (if_neg c15).symm.trans hT
        refine lv_aload_n F.hx F.hb d_MO_clock_71 rfl (lv_at hl 0 rfl) ?_
        refine r_iconst F.hx F.hb d_MO_clock_72 ?_
        refine r_iconst F.hx F.hb d_MO_clock_73 ?_
        obtain ⟨q16, hq16, hT⟩ := q_obind hT
        refine r_backV F hS (r_runV (k := 191) (N := 68) (T := T1) (As := [vI 1, vI 0]) F hS (show 191 < 231 by decide) (show shK 191 = 5 from rfl) rfl (c_MO_copies l F.2.2.1 M 1 0 (inr_c rfl) (inr_c rfl) _ hq16) gs_MO_437 hd_MO_copies ⟨Nat.le_of_ble_eq_true rfl, Nat.le_of_ble_eq_true rfl⟩ rfl hl.1 (Nat.le_of_ble_eq_true rfl) ⟨Nat.zero_le _, Nat.zero_le _⟩ rfl d_MO_clock_74) (fun H locs hS => ?_)
        refine lv_aload_n F.hx F.hb d_MO_clock_77 rfl (lv_at hl 0 rfl) ?_
        refine r_get (v := .ref (b + 212)) (N := 68) (T := T1) (j := 35) F hS (show 191 < 231 by decide) (show shK 191 = 5 from rfl) (show shN 191 = 68 from rfl) rfl (Nat.le_of_ble_eq_true rfl) ing1 mw_1424 (fv_sg rfl rfl rfl) d_MO_clock_78 ?_
        refine r_iconst F.hx F.hb d_MO_clock_81 ?_
        refine lv_iload F.hx F.hb d_MO_clock_82 (lv_at hl 6 rfl) ?_
        refine r_iadd F.hx F.hb d_MO_clock_84 ?_
        refine lv_iload F.hx F.hb d_MO_clock_85 (lv_at hl 7 rfl) ?_
        obtain ⟨⟨g18a, g18b⟩, hT⟩ := q_guard hT
        refine r_iast F hS (show 212 < 231 by decide) (show shK 212 = 0 from rfl) (show shN 212 = 92 from rfl) (inr_w32 _) hv7_ g18a g18b d_MO_clock_87 (fun H locs hS => ?_)
        obtain ⟨M19, eM19⟩ : ∃ q, q = (setI q16 212 (w32 (4 + v6_)) v7_) := ⟨_, rfl⟩
        replace hS : St b C n M19 s H locs := by rw [eM19]; exact hS
        replace hT := qlet_eq hT eM19
        refine lv_aload_n F.hx F.hb d_MO_clock_88 rfl (lv_at hl 0 rfl) ?_
        refine r_iconst F.hx F.hb d_MO_clock_89 ?_
        obtain ⟨q20, hq20, hT⟩ := q_obind hT
        refine r_backI F hS (r_runV (k := 191) (N := 68) (T := T1) (As := [vI 1]) F hS (show 191 < 231 by decide) (show shK 191 = 5 from rfl) rfl (c_MO_longest l F.2.2.1 M19 1 (inr_c rfl) _ hq20) gs_MO_480 hd_MO_longest ⟨Nat.le_of_ble_eq_true rfl, Nat.le_of_ble_eq_true rfl⟩ rfl hl.1 (Nat.le_of_ble_eq_true rfl) ⟨Nat.zero_le _, Nat.zero_le _⟩ rfl d_MO_clock_90) (fun H locs hS h21 => ?_)
        refine lv_istore (lv' := [(8, vI (q20.2)), (0, .ref (b + 191)), (1, vI x1), (2, vI v2_), (3, vI v3_), (4, vI v4_), (5, vI v5_), (6, vI v6_), (7, vI v7_)]) F.hx F.hb d_MO_clock_93 hl (Nat.le_of_ble_eq_true rfl) rfl (fun ls hl => ?_)
        refine lv_iload F.hx F.hb d_MO_clock_95 (lv_at hl 0 rfl) ?_
        refine lv_iload_n F.hx F.hb d_MO_clock_97 rfl (lv_at hl 3 rfl) ?_
        refine r_icmp_gt (tgt := 104) F.hx F.hb h21 hv2_ d_MO_clock_98 (by decide) (fun c22 => ?_) (fun c22 => ?_)
        · replace hT := (if_pos c22).symm.trans hT
          refine lv_iload F.hx F.hb d_MO_clock_104 (lv_at hl 0 rfl) ?_
          refine lv_istore_n (lv' := [(2, vI (q20.2)), (8, vI (q20.2)), (0, .ref (b + 191)), (1, vI x1), (3, vI v3_), (4, vI v4_), (5, vI v5_), (6, vI v6_), (7, vI v7_)]) F.hx F.hb d_MO_clock_106 rfl hl (Nat.le_of_ble_eq_true rfl) rfl (fun ls hl => ?_)
          refine lv_iload F.hx F.hb d_MO_clock_107 (lv_at hl 7 rfl) ?_
          refine lv_istore_n (lv' := [(3, vI v6_), (2, vI (q20.2)), (8, vI (q20.2)), (0, .ref (b + 191)), (1, vI x1), (4, vI v4_), (5, vI v5_), (6, vI v6_), (7, vI v7_)]) F.hx F.hb d_MO_clock_109 rfl hl (Nat.le_of_ble_eq_true rfl) rfl (fun ls hl => ?_)
          refine lv_iload F.hx F.hb d_MO_clock_110 (lv_at hl 8 rfl) ?_
          refine lv_istore (lv' := [(4, vI v7_), (3, vI v6_), (2, vI (q20.2)), (8, vI (q20.2)), (0, .ref (b + 191)), (1, vI x1), (5, vI v5_), (6, vI v6_), (7, vI v7_)]) F.hx F.hb d_MO_clock_112 hl (Nat.le_of_ble_eq_true rfl) rfl (fun ls hl => ?_)
          refine lv_aload_n F.hx F.hb d_MO_clock_114 rfl (lv_at hl 4 rfl) ?_
          refine r_get (v := vI ((q20.1).1 191 57)) (N := 68) (T := T1) (j := 57) F hS (show 191 < 231 by decide) (show shK 191 = 5 from rfl) (show shN 191 = 68 from rfl) rfl (Nat.le_of_ble_eq_true rfl) ing1 mw_1446 (fv_int rfl) d_MO_clock_115 ?_
          have i23 := hS.rng 191 57
          refine lv_istore (lv' := [(5, vI ((q20.1).1 191 57)), (4, vI v7_), (3, vI v6_), (2, vI (q20.2)), (8, vI (q20.2)), (0, .ref (b + 191)), (1, vI x1), (6, vI v6_), (7, vI v7_)]) F.hx F.hb d_MO_clock_118 hl (Nat.le_of_ble_eq_true rfl) rfl (fun ls hl => ?_)
          exact k_MO_clock_L120 l hlo x1 hx1 F hlk hr bk36 hbk36 (fun a0_ a1_ a2_ a3_ a4_ a5_ a6_ => t_MO_clock_L50 x1 bk36 fu a0_ a1_ a2_ a3_ a4_ a5_ a6_) ih (q20.1) (q20.2) h21 v6_ hv6_ v7_ hv7_ ((q20.1).1 191 57) i23 v6_ hv6_ v7_ hv7_ _ _ _ hS (lv_sub hl [5, 6, 3, 2, 1, 0, 7, 8] rfl) hT
        · replace hT := (if_neg c22).symm.trans hT
          refine lv_goto (tgt := 120) F.hx F.hb d_MO_clock_101 (by decide) ?_
          exact k_MO_clock_L120 l hlo x1 hx1 F hlk hr bk36 hbk36 (fun a0_ a1_ a2_ a3_ a4_ a5_ a6_ => t_MO_clock_L50 x1 bk36 fu a0_ a1_ a2_ a3_ a4_ a5_ a6_) ih (q20.1) v2_ hv2_ v3_ hv3_ v4_ hv4_ v5_ hv5_ v6_ hv6_ v7_ hv7_ _ _ _ hS (lv_sub hl [1, 2, 3, 4, 5, 6, 7, 8] rfl) hT
      · replace hT := (if_pos c15).symm.trans hT
        refine lv_goto (tgt := 120) F.hx F.hb d_MO_clock_68 (by decide) ?_
        exact k_MO_clock_L120 l hlo x1 hx1 F hlk hr bk36 hbk36 (fun a0_ a1_ a2_ a3_ a4_ a5_ a6_ => t_MO_clock_L50 x1 bk36 fu a0_ a1_ a2_ a3_ a4_ a5_ a6_) ih M v2_ hv2_ v3_ hv3_ v4_ hv4_ v5_ hv5_ v6_ hv6_ v7_ hv7_ _ _ _ hS (lv_sub hl [0, 1, 2, 3, 4, 5, 6, 7] rfl) hT
set_option maxHeartbeats 4000000 in
set_option maxRecDepth 100000 in
theorem k_MO_clock_L36 (l : Launch) {p : Program} {e : Env} {s : State} {m : MethodId} {below : List Frame} {meth : Method} {c : Code} {b n : Nat} {C : CT} (hlo : 231 ≤ n) (x1 : Int) (hx1 : InR x1) (F : Cx b p m c b_MO_clock 9 s ([.ref (b + 191), vI x1] : List Value).toArray "WardFallsModel" C n 231) (hlk : meth.locks = false) (hr : meth.sig.returnType = some .int) {res : Mem × Int} : ∀ (fu : Nat) (M : Mem) (v2_ : Int) (hv2_ : InR v2_) (v3_ : Int) (hv3_ : InR v3_) (v4_ : Int) (hv4_ : InR v4_) (v5_ : Int) (hv5_ : InR v5_) (v6_ : Int) (hv6_ : InR v6_) (H : Heap) (locs : List Loc) (ls : Array Slot), St b C n M s H locs → lv_has ls 9 [(0, .ref (b + 191)), (1, vI x1), (2, vI v2_), (3, vI v3_), (4, vI v4_), (5, vI v5_), (6, vI v6_)] → t_MO_clock_L36 x1 fu M v2_ v3_ v4_ v5_ v6_ = some res → W p l e (headSpec (wsM y_MO_clock b_MO_clock 9 (some .int)) (rmD 4)).room s m ([.ref (b + 191), vI x1] : List Value).toArray below meth c H locs 0 0 (MQ below (QI b C n res.1 res.2) ([.ref (b + 191), vI x1] : List Value).toArray s 0 0 (frb b)) (F0 m 36 ls []) := by
  intro fu
  induction fu with
  | zero => intro M v2_ hv2_ v3_ hv3_ v4_ hv4_ v5_ hv5_ v6_ hv6_ H locs ls hS hl hT; exact absurd hT (by simp [t_MO_clock_L36])
  | succ fu ih =>
    intro M v2_ hv2_ v3_ hv3_ v4_ hv4_ v5_ hv5_ v6_ hv6_ H locs ls hS hl hT
    rw [t_MO_clock_L36] at hT
    refine lv_iload F.hx F.hb d_MO_clock_36 (lv_at hl 6 rfl) ?_
    refine lv_aload_n F.hx F.hb d_MO_clock_38 rfl (lv_at hl 0 rfl) ?_
    refine r_get (v := .ref (b + 193)) (N := 68) (T := T1) (j := 3) F hS (show 191 < 231 by decide) (show shK 191 = 5 from rfl) (show shN 191 = 68 from rfl) rfl (Nat.le_of_ble_eq_true rfl) ing1 mw_1392 (fv_sg rfl rfl rfl) d_MO_clock_39 ?_
    refine r_iconst F.hx F.hb d_MO_clock_42 ?_
    refine r_iald F hS (show 193 < 231 by decide) (show shK 193 = 0 from rfl) (show shN 193 = 18 from rfl) (inr_c rfl) (by omega) (by omega) d_MO_clock_43 ?_
    have i7 := hS.rng 193 2
    refine r_icmp_ge (tgt := 132) F.hx F.hb hv6_ i7 d_MO_clock_44 (by decide) (fun c8 => ?_) (fun c8 => ?_)
    · replace hT := (if_pos c8).symm.trans hT
      refine lv_iload_n F.hx F.hb d_MO_clock_132 rfl (lv_at hl 1 rfl) ?_
      refine r_if_ne (tgt := 140) F.hx F.hb hx1 d_MO_clock_133 (by decide) (fun c9 => ?_) (fun c9 => ?_)
      · replace hT := (if_neg c9).symm.trans hT
        refine lv_iload_n F.hx F.hb d_MO_clock_140 rfl (lv_at hl 1 rfl) ?_
        refine r_iconst F.hx F.hb d_MO_clock_141 ?_
        refine r_icmp_ne (tgt := 149) F.hx F.hb hx1 (inr_c rfl) d_MO_clock_142 (by decide) (fun c10 => ?_) (fun c10 => ?_)
        · replace hT := (if_neg c10).symm.trans hT
          refine lv_iload_n F.hx F.hb d_MO_clock_149 rfl (lv_at hl 1 rfl) ?_
          refine r_iconst F.hx F.hb d_MO_clock_150 ?_
          refine r_icmp_ne (tgt := 159) F.hx F.hb hx1 (inr_c rfl) d_MO_clock_151 (by decide) (fun c11 => ?_) (fun c11 => ?_)
          · replace hT := (if_neg c11).symm.trans hT
            refine lv_iload F.hx F.hb d_MO_clock_159 (lv_at hl 5 rfl) ?_
            cases hT
            exact r_iret F hlk hr rfl hS hv5_ d_MO_clock_161
          · replace hT := (if_pos c11).symm.trans hT
            refine lv_iload F.hx F.hb d_MO_clock_154 (lv_at hl 4 rfl) ?_
            refine lv_goto (tgt := 161) F.hx F.hb d_MO_clock_156 (by decide) ?_
            cases hT
            exact r_iret F hlk hr rfl hS hv4_ d_MO_clock_161
        · replace hT := (if_pos c10).symm.trans hT
          refine lv_iload_n F.hx F.hb d_MO_clock_145 rfl (lv_at hl 3 rfl) ?_
          refine lv_goto (tgt := 161) F.hx F.hb d_MO_clock_146 (by decide) ?_
          cases hT
          exact r_iret F hlk hr rfl hS hv3_ d_MO_clock_161
      · replace hT := (if_pos c9).symm.trans hT
        refine lv_iload_n F.hx F.hb d_MO_clock_136 rfl (lv_at hl 2 rfl) ?_
        refine lv_goto (tgt := 161) F.hx F.hb d_MO_clock_137 (by decide) ?_
        cases hT
        exact r_iret F hlk hr rfl hS hv2_ d_MO_clock_161
    · replace hT := (if_neg c8).symm.trans hT
      refine r_iconst F.hx F.hb d_MO_clock_47 ?_
      refine lv_istore (lv' := [(7, vI 0), (0, .ref (b + 191)), (1, vI x1), (2, vI v2_), (3, vI v3_), (4, vI v4_), (5, vI v5_), (6, vI v6_)]) F.hx F.hb d_MO_clock_48 hl (Nat.le_of_ble_eq_true rfl) rfl (fun ls hl => ?_)
      exact k_MO_clock_L50 l hlo x1 hx1 F hlk hr (fun a0_ a1_ a2_ a3_ a4_ a5_ => t_MO_clock_L36 x1 fu a0_ a1_ a2_ a3_ a4_ a5_) ih FU M v2_ hv2_ v3_ hv3_ v4_ hv4_ v5_ hv5_ v6_ hv6_ 0 (inr_c rfl) _ _ _ hS (lv_sub hl [1, 2, 3, 4, 5, 6, 7, 0] rfl) hT
set_option maxHeartbeats 4000000 in
set_option maxRecDepth 100000 in
theorem c_MO_clock (l : Launch) {b n : Nat} {C : CT} (hlo : 231 ≤ n) (M : Mem) (x1 : Int) (hx1 : InR x1) (res : Mem × Int) (hT : t_MO_clock M x1 = some res) : CM l b C n 4 y_MO_clock b_MO_clock 9 (some .int) [.ref (b + 191), vI x1] M (QI b C n res.1 res.2) := by
  refine CM.of (lo := 231) (ow := "WardFallsModel") (by decide) rfl (Nat.le_of_ble_eq_true rfl) hlo (fun p e s m below meth c F hlk hr hS ls hl => ?_)
  have hl : lv_has ls 9 [(0, .ref (b + 191)), (1, vI x1)] := hl
  unfold t_MO_clock at hT
  refine lv_aload_n F.hx F.hb d_MO_clock_0 rfl (lv_at hl 0 rfl) ?_
  refine r_iconst F.hx F.hb d_MO_clock_1 ?_
  refine r_putI (N := 68) (T := T1) (j := 0) F hS (show 191 < 231 by decide) (show shK 191 = 5 from rfl) (show shN 191 = 68 from rfl) rfl (Nat.le_of_ble_eq_true rfl) ing1 tyok1 nm1 rfl rfl rfl rfl rfl rfl mw_1389 (inr_c rfl) d_MO_clock_2 (fun H locs hS => ?_)
  obtain ⟨M1, eM1⟩ : ∃ q, q = (setI M 191 0 0) := ⟨_, rfl⟩
  replace hS : St b C n M1 s H locs := by rw [eM1]; exact hS
  replace hT := qlet_eq hT eM1
  refine lv_iload_n F.hx F.hb d_MO_clock_5 rfl (lv_at hl 1 rfl) ?_
  refine r_if_lt (tgt := 14) F.hx F.hb hx1 d_MO_clock_6 (by decide) (fun c2 => ?_) (fun c2 => ?_)
  · replace hT := (if_pos c2).symm.trans hT
    refine r_iconst F.hx F.hb d_MO_clock_14 ?_
    cases hT
    exact r_iret F hlk hr rfl hS (inr_c rfl) d_MO_clock_15
  · replace hT := (if_neg c2).symm.trans hT
    refine lv_iload_n F.hx F.hb d_MO_clock_9 rfl (lv_at hl 1 rfl) ?_
    refine r_iconst F.hx F.hb d_MO_clock_10 ?_
    refine r_icmp_le (tgt := 16) F.hx F.hb hx1 (inr_c rfl) d_MO_clock_11 (by decide) (fun c3 => ?_) (fun c3 => ?_)
    · replace hT := (if_pos c3).symm.trans hT
      refine lv_aload_n F.hx F.hb d_MO_clock_16 rfl (lv_at hl 0 rfl) ?_
      refine r_iconst F.hx F.hb d_MO_clock_17 ?_
      obtain ⟨q4, hq4, hT⟩ := q_obind hT
      refine r_backI F hS (r_runV (k := 191) (N := 68) (T := T1) (As := [vI 0]) F hS (show 191 < 231 by decide) (show shK 191 = 5 from rfl) rfl (c_MO_longest l F.2.2.1 M1 0 (inr_c rfl) _ hq4) gs_MO_480 hd_MO_longest ⟨Nat.le_of_ble_eq_true rfl, Nat.le_of_ble_eq_true rfl⟩ rfl hl.1 (Nat.le_of_ble_eq_true rfl) ⟨Nat.zero_le _, Nat.zero_le _⟩ rfl d_MO_clock_18) (fun H locs hS h5 => ?_)
      refine lv_istore_n (lv' := [(2, vI (q4.2)), (0, .ref (b + 191)), (1, vI x1)]) F.hx F.hb d_MO_clock_21 rfl hl (Nat.le_of_ble_eq_true rfl) rfl (fun ls hl => ?_)
      refine r_iconst F.hx F.hb d_MO_clock_22 ?_
      refine lv_istore_n (lv' := [(3, vI (-1)), (2, vI (q4.2)), (0, .ref (b + 191)), (1, vI x1)]) F.hx F.hb d_MO_clock_23 rfl hl (Nat.le_of_ble_eq_true rfl) rfl (fun ls hl => ?_)
      refine r_iconst F.hx F.hb d_MO_clock_24 ?_
      refine lv_istore (lv' := [(4, vI (-1)), (3, vI (-1)), (2, vI (q4.2)), (0, .ref (b + 191)), (1, vI x1)]) F.hx F.hb d_MO_clock_25 hl (Nat.le_of_ble_eq_true rfl) rfl (fun ls hl => ?_)
      refine lv_aload_n F.hx F.hb d_MO_clock_27 rfl (lv_at hl 3 rfl) ?_
      refine r_get (v := vI ((q4.1).1 191 57)) (N := 68) (T := T1) (j := 57) F hS (show 191 < 231 by decide) (show shK 191 = 5 from rfl) (show shN 191 = 68 from rfl) rfl (Nat.le_of_ble_eq_true rfl) ing1 mw_1446 (fv_int rfl) d_MO_clock_28 ?_
      have i6 := hS.rng 191 57
      refine lv_istore (lv' := [(5, vI ((q4.1).1 191 57)), (4, vI (-1)), (3, vI (-1)), (2, vI (q4.2)), (0, .ref (b + 191)), (1, vI x1)]) F.hx F.hb d_MO_clock_31 hl (Nat.le_of_ble_eq_true rfl) rfl (fun ls hl => ?_)
      refine r_iconst F.hx F.hb d_MO_clock_33 ?_
      refine lv_istore (lv' := [(6, vI 0), (5, vI ((q4.1).1 191 57)), (4, vI (-1)), (3, vI (-1)), (2, vI (q4.2)), (0, .ref (b + 191)), (1, vI x1)]) F.hx F.hb d_MO_clock_34 hl (Nat.le_of_ble_eq_true rfl) rfl (fun ls hl => ?_)
      exact k_MO_clock_L36 l hlo x1 hx1 F hlk hr FU (q4.1) (q4.2) h5 (-1) (inr_c rfl) (-1) (inr_c rfl) ((q4.1).1 191 57) i6 0 (inr_c rfl) _ _ _ hS (lv_sub hl [5, 6, 4, 3, 2, 1, 0] rfl) hT
    · replace hT := (if_neg c3).symm.trans hT
      refine r_iconst F.hx F.hb d_MO_clock_14 ?_
      cases hT
      exact r_iret F hlk hr rfl hS (inr_c rfl) d_MO_clock_15
theorem d_MO_votes_0 : decode b_MO_votes 0 = .ok (.iconst 1, 1) := dc_4 (by decide +kernel)
theorem d_MO_votes_1 : decode b_MO_votes 1 = .ok (.iconst 2, 1) := dc_5 (by decide +kernel)
theorem d_MO_votes_2 : decode b_MO_votes 2 = .ok (.aload_n 0, 1) := dc_42 (by decide +kernel)
theorem d_MO_votes_3 : decode b_MO_votes 3 = .ok (.getfield 13, 3) := dc_180 (by decide +kernel)
theorem d_MO_votes_6 : decode b_MO_votes 6 = .ok (.iconst 2, 1) := dc_5 (by decide +kernel)
theorem d_MO_votes_7 : decode b_MO_votes 7 = .ok (.iaload, 1) := dc_46 (by decide +kernel)
theorem d_MO_votes_8 : decode b_MO_votes 8 = .ok (.imul, 1) := dc_104 (by decide +kernel)
theorem d_MO_votes_9 : decode b_MO_votes 9 = .ok (.ishl, 1) := dc_120 (by decide +kernel)
theorem d_MO_votes_10 : decode b_MO_votes 10 = .ok (.ireturn, 1) := dc_172 (by decide +kernel)
def t_MO_votes (M : Mem)  : Int := (q_shl 1 (w32 (2 * (M.1 193 2))))
set_option maxHeartbeats 4000000 in
set_option maxRecDepth 100000 in
theorem c_MO_votes (l : Launch) {b n : Nat} {C : CT} (hlo : 231 ≤ n) (M : Mem)   (res : Int) (hT : t_MO_votes M  = res) : CM l b C n 0 y_MO_votes b_MO_votes 1 (some .int) [.ref (b + 191)] M (QI b C n M res) := by
  refine CM.of (lo := 231) (ow := "WardFallsModel") (by decide) rfl (Nat.le_of_ble_eq_true rfl) hlo (fun p e s m below meth c F hlk hr hS ls hl => ?_)
  have hl : lv_has ls 1 [(0, .ref (b + 191))] := hl
  unfold t_MO_votes at hT
  refine r_iconst F.hx F.hb d_MO_votes_0 ?_
  refine r_iconst F.hx F.hb d_MO_votes_1 ?_
  refine lv_aload_n F.hx F.hb d_MO_votes_2 rfl (lv_at hl 0 rfl) ?_
  refine r_get (v := .ref (b + 193)) (N := 68) (T := T1) (j := 3) F hS (show 191 < 231 by decide) (show shK 191 = 5 from rfl) (show shN 191 = 68 from rfl) rfl (Nat.le_of_ble_eq_true rfl) ing1 mw_1392 (fv_sg rfl rfl rfl) d_MO_votes_3 ?_
  refine r_iconst F.hx F.hb d_MO_votes_6 ?_
  refine r_iald F hS (show 193 < 231 by decide) (show shK 193 = 0 from rfl) (show shN 193 = 18 from rfl) (inr_c rfl) (by omega) (by omega) d_MO_votes_7 ?_
  have i1 := hS.rng 193 2
  refine r_imul F.hx F.hb d_MO_votes_8 ?_
  refine r_ishl F.hx F.hb d_MO_votes_9 ?_
  subst hT
  exact r_iret F hlk hr rfl hS (q_inr_toInt _) d_MO_votes_10
theorem d_MO_layJoys_0 : decode b_MO_layJoys 0 = .ok (.aload_n 0, 1) := dc_42 (by decide +kernel)
theorem d_MO_layJoys_1 : decode b_MO_layJoys 1 = .ok (.iconst 1, 1) := dc_4 (by decide +kernel)
theorem d_MO_layJoys_2 : decode b_MO_layJoys 2 = .ok (.iconst 0, 1) := dc_3 (by decide +kernel)
theorem d_MO_layJoys_3 : decode b_MO_layJoys 3 = .ok (.invokevirtual 437, 3) := dc_182 (by decide +kernel)
theorem d_MO_layJoys_6 : decode b_MO_layJoys 6 = .ok (.iconst 0, 1) := dc_3 (by decide +kernel)
theorem d_MO_layJoys_7 : decode b_MO_layJoys 7 = .ok (.istore_n 1, 1) := dc_60 (by decide +kernel)
theorem d_MO_layJoys_8 : decode b_MO_layJoys 8 = .ok (.iload_n 1, 1) := dc_27 (by decide +kernel)
theorem d_MO_layJoys_9 : decode b_MO_layJoys 9 = .ok (.aload_n 0, 1) := dc_42 (by decide +kernel)
theorem d_MO_layJoys_10 : decode b_MO_layJoys 10 = .ok (.invokevirtual 483, 3) := dc_182 (by decide +kernel)
theorem d_MO_layJoys_13 : decode b_MO_layJoys 13 = .ok (.if_icmp .ge 76, 3) := dc_162 (by decide +kernel)
theorem d_MO_layJoys_16 : decode b_MO_layJoys 16 = .ok (.iconst 0, 1) := dc_3 (by decide +kernel)
theorem d_MO_layJoys_17 : decode b_MO_layJoys 17 = .ok (.istore_n 2, 1) := dc_61 (by decide +kernel)
theorem d_MO_layJoys_18 : decode b_MO_layJoys 18 = .ok (.iload_n 2, 1) := dc_28 (by decide +kernel)
theorem d_MO_layJoys_19 : decode b_MO_layJoys 19 = .ok (.aload_n 0, 1) := dc_42 (by decide +kernel)
theorem d_MO_layJoys_20 : decode b_MO_layJoys 20 = .ok (.getfield 13, 3) := dc_180 (by decide +kernel)
theorem d_MO_layJoys_23 : decode b_MO_layJoys 23 = .ok (.iconst 2, 1) := dc_5 (by decide +kernel)
theorem d_MO_layJoys_24 : decode b_MO_layJoys 24 = .ok (.iaload, 1) := dc_46 (by decide +kernel)
theorem d_MO_layJoys_25 : decode b_MO_layJoys 25 = .ok (.if_icmp .ge 24, 3) := dc_162 (by decide +kernel)
theorem d_MO_layJoys_28 : decode b_MO_layJoys 28 = .ok (.aload_n 0, 1) := dc_42 (by decide +kernel)
theorem d_MO_layJoys_29 : decode b_MO_layJoys 29 = .ok (.getfield 76, 3) := dc_180 (by decide +kernel)
theorem d_MO_layJoys_32 : decode b_MO_layJoys 32 = .ok (.iconst 4, 1) := dc_7 (by decide +kernel)
theorem d_MO_layJoys_33 : decode b_MO_layJoys 33 = .ok (.iload_n 2, 1) := dc_28 (by decide +kernel)
theorem d_MO_layJoys_34 : decode b_MO_layJoys 34 = .ok (.iadd, 1) := dc_96 (by decide +kernel)
theorem d_MO_layJoys_35 : decode b_MO_layJoys 35 = .ok (.iload_n 1, 1) := dc_27 (by decide +kernel)
theorem d_MO_layJoys_36 : decode b_MO_layJoys 36 = .ok (.iconst 2, 1) := dc_5 (by decide +kernel)
theorem d_MO_layJoys_37 : decode b_MO_layJoys 37 = .ok (.iload_n 2, 1) := dc_28 (by decide +kernel)
theorem d_MO_layJoys_38 : decode b_MO_layJoys 38 = .ok (.imul, 1) := dc_104 (by decide +kernel)
theorem d_MO_layJoys_39 : decode b_MO_layJoys 39 = .ok (.ishr, 1) := dc_122 (by decide +kernel)
theorem d_MO_layJoys_40 : decode b_MO_layJoys 40 = .ok (.iconst 3, 1) := dc_6 (by decide +kernel)
theorem d_MO_layJoys_41 : decode b_MO_layJoys 41 = .ok (.iand, 1) := dc_126 (by decide +kernel)
theorem d_MO_layJoys_42 : decode b_MO_layJoys 42 = .ok (.iastore, 1) := dc_79 (by decide +kernel)
theorem d_MO_layJoys_43 : decode b_MO_layJoys 43 = .ok (.iinc 2 1, 3) := dc_132 (by decide +kernel)
theorem d_MO_layJoys_46 : decode b_MO_layJoys 46 = .ok (.goto (-28), 3) := dc_167 (by decide +kernel)
theorem d_MO_layJoys_49 : decode b_MO_layJoys 49 = .ok (.iconst 0, 1) := dc_3 (by decide +kernel)
theorem d_MO_layJoys_50 : decode b_MO_layJoys 50 = .ok (.istore_n 2, 1) := dc_61 (by decide +kernel)
theorem d_MO_layJoys_51 : decode b_MO_layJoys 51 = .ok (.iload_n 2, 1) := dc_28 (by decide +kernel)
theorem d_MO_layJoys_52 : decode b_MO_layJoys 52 = .ok (.aload_n 0, 1) := dc_42 (by decide +kernel)
theorem d_MO_layJoys_53 : decode b_MO_layJoys 53 = .ok (.getfield 13, 3) := dc_180 (by decide +kernel)
theorem d_MO_layJoys_56 : decode b_MO_layJoys 56 = .ok (.iconst 2, 1) := dc_5 (by decide +kernel)
theorem d_MO_layJoys_57 : decode b_MO_layJoys 57 = .ok (.iaload, 1) := dc_46 (by decide +kernel)
theorem d_MO_layJoys_58 : decode b_MO_layJoys 58 = .ok (.if_icmp .ge 25, 3) := dc_162 (by decide +kernel)
theorem d_MO_layJoys_61 : decode b_MO_layJoys 61 = .ok (.aload_n 0, 1) := dc_42 (by decide +kernel)
theorem d_MO_layJoys_62 : decode b_MO_layJoys 62 = .ok (.getfield 118, 3) := dc_180 (by decide +kernel)
theorem d_MO_layJoys_65 : decode b_MO_layJoys 65 = .ok (.iconst 4, 1) := dc_7 (by decide +kernel)
theorem d_MO_layJoys_66 : decode b_MO_layJoys 66 = .ok (.iload_n 1, 1) := dc_27 (by decide +kernel)
theorem d_MO_layJoys_67 : decode b_MO_layJoys 67 = .ok (.imul, 1) := dc_104 (by decide +kernel)
theorem d_MO_layJoys_68 : decode b_MO_layJoys 68 = .ok (.iload_n 2, 1) := dc_28 (by decide +kernel)
theorem d_MO_layJoys_69 : decode b_MO_layJoys 69 = .ok (.iadd, 1) := dc_96 (by decide +kernel)
theorem d_MO_layJoys_70 : decode b_MO_layJoys 70 = .ok (.aload_n 0, 1) := dc_42 (by decide +kernel)
theorem d_MO_layJoys_71 : decode b_MO_layJoys 71 = .ok (.iconst 1, 1) := dc_4 (by decide +kernel)
theorem d_MO_layJoys_72 : decode b_MO_layJoys 72 = .ok (.iload_n 2, 1) := dc_28 (by decide +kernel)
theorem d_MO_layJoys_73 : decode b_MO_layJoys 73 = .ok (.invokevirtual 375, 3) := dc_182 (by decide +kernel)
theorem d_MO_layJoys_76 : decode b_MO_layJoys 76 = .ok (.iastore, 1) := dc_79 (by decide +kernel)
theorem d_MO_layJoys_77 : decode b_MO_layJoys 77 = .ok (.iinc 2 1, 3) := dc_132 (by decide +kernel)
theorem d_MO_layJoys_80 : decode b_MO_layJoys 80 = .ok (.goto (-29), 3) := dc_167 (by decide +kernel)
theorem d_MO_layJoys_83 : decode b_MO_layJoys 83 = .ok (.iinc 1 1, 3) := dc_132 (by decide +kernel)
theorem d_MO_layJoys_86 : decode b_MO_layJoys 86 = .ok (.goto (-78), 3) := dc_167 (by decide +kernel)
theorem d_MO_layJoys_89 : decode b_MO_layJoys 89 = .ok (.return_, 1) := dc_177 (by decide +kernel)
def t_MO_layJoys_L51  (bk8 : Mem → Int → Option (Mem)) : Nat → Mem → Int → Int → Option (Mem)
  | 0, _, _, _ => none
  | fu + 1, M, v1_, v2_ => (if (M.1 193 2) ≤ v2_ then (bk8 M (w32 (v1_ + 1))) else (obind (t_MO_joyOf M 1 v2_) fun q12 => (qguard (0 ≤ (w32 ((w32 (4 * v1_)) + v2_)) ∧ (w32 ((w32 (4 * v1_)) + v2_)) < 1024) (qlet (setI (q12.1) 224 (w32 ((w32 (4 * v1_)) + v2_)) (q12.2)) fun M15 => (t_MO_layJoys_L51 bk8 fu M15 v1_ (w32 (v2_ + 1)))))))
def t_MO_layJoys_L18  (bk8 : Mem → Int → Option (Mem)) : Nat → Mem → Int → Int → Option (Mem)
  | 0, _, _, _ => none
  | fu + 1, M, v1_, v2_ => (if (M.1 193 2) ≤ v2_ then (t_MO_layJoys_L51 bk8 FU M v1_ 0) else (qguard (0 ≤ (w32 (4 + v2_)) ∧ (w32 (4 + v2_)) < 92) (qlet (setI M 212 (w32 (4 + v2_)) (q_and (q_shr v1_ (w32 (2 * v2_))) 3)) fun M9 => (t_MO_layJoys_L18 bk8 fu M9 v1_ (w32 (v2_ + 1))))))
def t_MO_layJoys_L8   : Nat → Mem → Int → Option (Mem)
  | 0, _, _ => none
  | fu + 1, M, v1_ => (qlet (t_MO_votes M) fun q3 => (if q3 ≤ v1_ then (some M) else (t_MO_layJoys_L18 (fun a0_ a1_ => t_MO_layJoys_L8 fu a0_ a1_) FU M v1_ 0)))
def t_MO_layJoys (M : Mem)  : Option (Mem) := (obind (t_MO_copies M 1 0) fun q1 => (t_MO_layJoys_L8 FU q1 0))
set_option maxHeartbeats 4000000 in
set_option maxRecDepth 100000 in
theorem k_MO_layJoys_L51 (l : Launch) {p : Program} {e : Env} {s : State} {m : MethodId} {below : List Frame} {meth : Method} {c : Code} {b n : Nat} {C : CT} (hlo : 231 ≤ n)   (F : Cx b p m c b_MO_layJoys 3 s ([.ref (b + 191)] : List Value).toArray "WardFallsModel" C n 231) (hlk : meth.locks = false) (hr : meth.sig.returnType = none) {res : Mem} (bk8 : Mem → Int → Option (Mem)) (hbk8 : ∀ (M : Mem) (v1_ : Int) (hv1_ : InR v1_) (H : Heap) (locs : List Loc) (ls : Array Slot), St b C n M s H locs → lv_has ls 3 [(0, .ref (b + 191)), (1, vI v1_)] → bk8 M v1_ = some res → W p l e (headSpec (wsM y_MO_layJoys b_MO_layJoys 3 (none)) (rmD 5)).room s m ([.ref (b + 191)] : List Value).toArray below meth c H locs 0 0 (MQ below (QV b C n res) ([.ref (b + 191)] : List Value).toArray s 0 0 (frb b)) (F0 m 8 ls [])) : ∀ (fu : Nat) (M : Mem) (v1_ : Int) (hv1_ : InR v1_) (v2_ : Int) (hv2_ : InR v2_) (H : Heap) (locs : List Loc) (ls : Array Slot), St b C n M s H locs → lv_has ls 3 [(0, .ref (b + 191)), (1, vI v1_), (2, vI v2_)] → t_MO_layJoys_L51 bk8 fu M v1_ v2_ = some res → W p l e (headSpec (wsM y_MO_layJoys b_MO_layJoys 3 (none)) (rmD 5)).room s m ([.ref (b + 191)] : List Value).toArray below meth c H locs 0 0 (MQ below (QV b C n res) ([.ref (b + 191)] : List Value).toArray s 0 0 (frb b)) (F0 m 51 ls []) := by
  intro fu
  induction fu with
  | zero => intro M v1_ hv1_ v2_ hv2_ H locs ls hS hl hT; exact absurd hT (by simp [t_MO_layJoys_L51])
  | succ fu ih =>
    intro M v1_ hv1_ v2_ hv2_ H locs ls hS hl hT
    rw [t_MO_layJoys_L51] at hT
    refine lv_iload_n F.hx F.hb d_MO_layJoys_51 rfl (lv_at hl 2 rfl) ?_
    refine lv_aload_n F.hx F.hb d_MO_layJoys_52 rfl (lv_at hl 0 rfl) ?_
    refine r_get (v := .ref (b + 193)) (N := 68) (T := T1) (j := 3) F hS (show 191 < 231 by decide) (show shK 191 = 5 from rfl) (show shN 191 = 68 from rfl) rfl (Nat.le_of_ble_eq_true rfl) ing1 mw_1392 (fv_sg rfl rfl rfl) d_MO_layJoys_53 ?_
    refine r_iconst F.hx F.hb d_MO_layJoys_56 ?_
    refine r_iald F hS (show 193 < 231 by decide) (show shK 193 = 0 from rfl) (show shN 193 = 18 from rfl) (inr_c rfl) (by omega) (by omega) d_MO_layJoys_57 ?_
    have i10 := hS.rng 193 2
    refine r_icmp_ge (tgt := 83) F.hx F.hb hv2_ i10 d_MO_layJoys_58 (by decide) (fun c11 => ?_) (fun c11 => ?_)
    · replace hT := (if_pos c11).symm.trans hT
      refine lv_iinc (v := Int32.ofInt (w32 (v1_ + 1))) (lv' := [(1, vI (w32 (v1_ + 1))), (0, .ref (b + 191)), (2, vI v2_)]) F.hx F.hb d_MO_layJoys_83 hl (k := 1) rfl (q_of_add _ _) (Nat.le_of_ble_eq_true rfl) rfl (fun ls hl => ?_)
      refine lv_goto (tgt := 8) F.hx F.hb d_MO_layJoys_86 (by decide) ?_
      exact hbk8 M (w32 (v1_ + 1)) (inr_w32 _) _ _ _ hS (lv_sub hl [1, 0] rfl) hT
    · replace hT := (if_neg c11).symm.trans hT
      refine lv_aload_n F.hx F.hb d_MO_layJoys_61 rfl (lv_at hl 0 rfl) ?_
      refine r_get (v := .ref (b + 224)) (N := 68) (T := T1) (j := 58) F hS (show 191 < 231 by decide) (show shK 191 = 5 from rfl) (show shN 191 = 68 from rfl) rfl (Nat.le_of_ble_eq_true rfl) ing1 mw_1447 (fv_sg rfl rfl rfl) d_MO_layJoys_62 ?_
      refine r_iconst F.hx F.hb d_MO_layJoys_65 ?_
      refine lv_iload_n F.hx F.hb d_MO_layJoys_66 rfl (lv_at hl 1 rfl) ?_
      refine r_imul F.hx F.hb d_MO_layJoys_67 ?_
      refine lv_iload_n F.hx F.hb d_MO_layJoys_68 rfl (lv_at hl 2 rfl) ?_
      refine r_iadd F.hx F.hb d_MO_layJoys_69 ?_
      refine lv_aload_n F.hx F.hb d_MO_layJoys_70 rfl (lv_at hl 0 rfl) ?_
      refine r_iconst F.hx F.hb d_MO_layJoys_71 ?_
      refine lv_iload_n F.hx F.hb d_MO_layJoys_72 rfl (lv_at hl 2 rfl) ?_
      obtain ⟨q12, hq12, hT⟩ := q_obind hT
      refine r_backI F hS (r_runV (k := 191) (N := 68) (T := T1) (As := [vI 1, vI v2_]) F hS (show 191 < 231 by decide) (show shK 191 = 5 from rfl) rfl (c_MO_joyOf l F.2.2.1 M 1 v2_ (inr_c rfl) hv2_ _ hq12) gs_MO_375 hd_MO_joyOf ⟨Nat.le_of_ble_eq_true rfl, Nat.le_of_ble_eq_true rfl⟩ rfl hl.1 (Nat.le_of_ble_eq_true rfl) ⟨Nat.zero_le _, Nat.zero_le _⟩ rfl d_MO_layJoys_73) (fun H locs hS h13 => ?_)
      obtain ⟨⟨g14a, g14b⟩, hT⟩ := q_guard hT
      refine r_iast F hS (show 224 < 231 by decide) (show shK 224 = 0 from rfl) (show shN 224 = 1024 from rfl) (inr_w32 _) h13 g14a g14b d_MO_layJoys_76 (fun H locs hS => ?_)
      obtain ⟨M15, eM15⟩ : ∃ q, q = (setI (q12.1) 224 (w32 ((w32 (4 * v1_)) + v2_)) (q12.2)) := ⟨_, rfl⟩
      replace hS : St b C n M15 s H locs := by rw [eM15]; exact hS
      replace hT := qlet_eq hT eM15
      refine lv_iinc (v := Int32.ofInt (w32 (v2_ + 1))) (lv' := [(2, vI (w32 (v2_ + 1))), (0, .ref (b + 191)), (1, vI v1_)]) F.hx F.hb d_MO_layJoys_77 hl (k := 2) rfl (q_of_add _ _) (Nat.le_of_ble_eq_true rfl) rfl (fun ls hl => ?_)
      refine lv_goto (tgt := 51) F.hx F.hb d_MO_layJoys_80 (by decide) ?_
      exact ih M15 v1_ hv1_ (w32 (v2_ + 1)) (inr_w32 _) _ _ _ hS (lv_sub hl [1, 2, 0] rfl) hT
set_option maxHeartbeats 4000000 in
set_option maxRecDepth 100000 in
theorem k_MO_layJoys_L18 (l : Launch) {p : Program} {e : Env} {s : State} {m : MethodId} {below : List Frame} {meth : Method} {c : Code} {b n : Nat} {C : CT} (hlo : 231 ≤ n)   (F : Cx b p m c b_MO_layJoys 3 s ([.ref (b + 191)] : List Value).toArray "WardFallsModel" C n 231) (hlk : meth.locks = false) (hr : meth.sig.returnType = none) {res : Mem} (bk8 : Mem → Int → Option (Mem)) (hbk8 : ∀ (M : Mem) (v1_ : Int) (hv1_ : InR v1_) (H : Heap) (locs : List Loc) (ls : Array Slot), St b C n M s H locs → lv_has ls 3 [(0, .ref (b + 191)), (1, vI v1_)] → bk8 M v1_ = some res → W p l e (headSpec (wsM y_MO_layJoys b_MO_layJoys 3 (none)) (rmD 5)).room s m ([.ref (b + 191)] : List Value).toArray below meth c H locs 0 0 (MQ below (QV b C n res) ([.ref (b + 191)] : List Value).toArray s 0 0 (frb b)) (F0 m 8 ls [])) : ∀ (fu : Nat) (M : Mem) (v1_ : Int) (hv1_ : InR v1_) (v2_ : Int) (hv2_ : InR v2_) (H : Heap) (locs : List Loc) (ls : Array Slot), St b C n M s H locs → lv_has ls 3 [(0, .ref (b + 191)), (1, vI v1_), (2, vI v2_)] → t_MO_layJoys_L18 bk8 fu M v1_ v2_ = some res → W p l e (headSpec (wsM y_MO_layJoys b_MO_layJoys 3 (none)) (rmD 5)).room s m ([.ref (b + 191)] : List Value).toArray below meth c H locs 0 0 (MQ below (QV b C n res) ([.ref (b + 191)] : List Value).toArray s 0 0 (frb b)) (F0 m 18 ls []) := by
  intro fu
  induction fu with
  | zero => intro M v1_ hv1_ v2_ hv2_ H locs ls hS hl hT; exact absurd hT (by simp [t_MO_layJoys_L18])
  | succ fu ih =>
    intro M v1_ hv1_ v2_ hv2_ H locs ls hS hl hT
    rw [t_MO_layJoys_L18] at hT
    refine lv_iload_n F.hx F.hb d_MO_layJoys_18 rfl (lv_at hl 2 rfl) ?_
    refine lv_aload_n F.hx F.hb d_MO_layJoys_19 rfl (lv_at hl 0 rfl) ?_
    refine r_get (v := .ref (b + 193)) (N := 68) (T := T1) (j := 3) F hS (show 191 < 231 by decide) (show shK 191 = 5 from rfl) (show shN 191 = 68 from rfl) rfl (Nat.le_of_ble_eq_true rfl) ing1 mw_1392 (fv_sg rfl rfl rfl) d_MO_layJoys_20 ?_
    refine r_iconst F.hx F.hb d_MO_layJoys_23 ?_
    refine r_iald F hS (show 193 < 231 by decide) (show shK 193 = 0 from rfl) (show shN 193 = 18 from rfl) (inr_c rfl) (by omega) (by omega) d_MO_layJoys_24 ?_
    have i6 := hS.rng 193 2
    refine r_icmp_ge (tgt := 49) F.hx F.hb hv2_ i6 d_MO_layJoys_25 (by decide) (fun c7 => ?_) (fun c7 => ?_)
    · replace hT := (if_pos c7).symm.trans hT
      refine r_iconst F.hx F.hb d_MO_layJoys_49 ?_
      refine lv_istore_n (lv' := [(2, vI 0), (0, .ref (b + 191)), (1, vI v1_)]) F.hx F.hb d_MO_layJoys_50 rfl hl (Nat.le_of_ble_eq_true rfl) rfl (fun ls hl => ?_)
      exact k_MO_layJoys_L51 l hlo F hlk hr bk8 hbk8 FU M v1_ hv1_ 0 (inr_c rfl) _ _ _ hS (lv_sub hl [1, 2, 0] rfl) hT
    · replace hT := (if_neg c7).symm.trans hT
      refine lv_aload_n F.hx F.hb d_MO_layJoys_28 rfl (lv_at hl 0 rfl) ?_
      refine r_get (v := .ref (b + 212)) (N := 68) (T := T1) (j := 35) F hS (show 191 < 231 by decide) (show shK 191 = 5 from rfl) (show shN 191 = 68 from rfl) rfl (Nat.le_of_ble_eq_true rfl) ing1 mw_1424 (fv_sg rfl rfl rfl) d_MO_layJoys_29 ?_
      refine r_iconst F.hx F.hb d_MO_layJoys_32 ?_
      refine lv_iload_n F.hx F.hb d_MO_layJoys_33 rfl (lv_at hl 2 rfl) ?_
      refine r_iadd F.hx F.hb d_MO_layJoys_34 ?_
      refine lv_iload_n F.hx F.hb d_MO_layJoys_35 rfl (lv_at hl 1 rfl) ?_
      refine r_iconst F.hx F.hb d_MO_layJoys_36 ?_
      refine lv_iload_n F.hx F.hb d_MO_layJoys_37 rfl (lv_at hl 2 rfl) ?_
      refine r_imul F.hx F.hb d_MO_layJoys_38 ?_
      refine r_ishr F.hx F.hb d_MO_layJoys_39 ?_
      refine r_iconst F.hx F.hb d_MO_layJoys_40 ?_
      refine r_iand F.hx F.hb d_MO_layJoys_41 ?_
      obtain ⟨⟨g8a, g8b⟩, hT⟩ := q_guard hT
      refine r_iast F hS (show 212 < 231 by decide) (show shK 212 = 0 from rfl) (show shN 212 = 92 from rfl) (inr_w32 _) (q_inr_toInt _) g8a g8b d_MO_layJoys_42 (fun H locs hS => ?_)
      obtain ⟨M9, eM9⟩ : ∃ q, q = (setI M 212 (w32 (4 + v2_)) (q_and (q_shr v1_ (w32 (2 * v2_))) 3)) := ⟨_, rfl⟩
      replace hS : St b C n M9 s H locs := by rw [eM9]; exact hS
      replace hT := qlet_eq hT eM9
      refine lv_iinc (v := Int32.ofInt (w32 (v2_ + 1))) (lv' := [(2, vI (w32 (v2_ + 1))), (0, .ref (b + 191)), (1, vI v1_)]) F.hx F.hb d_MO_layJoys_43 hl (k := 2) rfl (q_of_add _ _) (Nat.le_of_ble_eq_true rfl) rfl (fun ls hl => ?_)
      refine lv_goto (tgt := 18) F.hx F.hb d_MO_layJoys_46 (by decide) ?_
      exact ih M9 v1_ hv1_ (w32 (v2_ + 1)) (inr_w32 _) _ _ _ hS (lv_sub hl [1, 2, 0] rfl) hT
set_option maxHeartbeats 4000000 in
set_option maxRecDepth 100000 in
theorem k_MO_layJoys_L8 (l : Launch) {p : Program} {e : Env} {s : State} {m : MethodId} {below : List Frame} {meth : Method} {c : Code} {b n : Nat} {C : CT} (hlo : 231 ≤ n)   (F : Cx b p m c b_MO_layJoys 3 s ([.ref (b + 191)] : List Value).toArray "WardFallsModel" C n 231) (hlk : meth.locks = false) (hr : meth.sig.returnType = none) {res : Mem} : ∀ (fu : Nat) (M : Mem) (v1_ : Int) (hv1_ : InR v1_) (H : Heap) (locs : List Loc) (ls : Array Slot), St b C n M s H locs → lv_has ls 3 [(0, .ref (b + 191)), (1, vI v1_)] → t_MO_layJoys_L8 fu M v1_ = some res → W p l e (headSpec (wsM y_MO_layJoys b_MO_layJoys 3 (none)) (rmD 5)).room s m ([.ref (b + 191)] : List Value).toArray below meth c H locs 0 0 (MQ below (QV b C n res) ([.ref (b + 191)] : List Value).toArray s 0 0 (frb b)) (F0 m 8 ls []) := by
  intro fu
  induction fu with
  | zero => intro M v1_ hv1_ H locs ls hS hl hT; exact absurd hT (by simp [t_MO_layJoys_L8])
  | succ fu ih =>
    intro M v1_ hv1_ H locs ls hS hl hT
    rw [t_MO_layJoys_L8] at hT
    refine lv_iload_n F.hx F.hb d_MO_layJoys_8 rfl (lv_at hl 1 rfl) ?_
    refine lv_aload_n F.hx F.hb d_MO_layJoys_9 rfl (lv_at hl 0 rfl) ?_
    obtain ⟨q3, hq3⟩ : ∃ q, q = (t_MO_votes M) := ⟨_, rfl⟩
    replace hT := qlet_eq hT hq3
    refine r_backI F hS (r_runV (k := 191) (N := 68) (T := T1) (As := []) F hS (show 191 < 231 by decide) (show shK 191 = 5 from rfl) rfl (c_MO_votes l F.2.2.1 M _ hq3.symm) gs_MO_483 hd_MO_votes ⟨Nat.le_of_ble_eq_true rfl, Nat.le_of_ble_eq_true rfl⟩ rfl hl.1 (Nat.le_of_ble_eq_true rfl) ⟨Nat.zero_le _, Nat.zero_le _⟩ rfl d_MO_layJoys_10) (fun H locs hS h4 => ?_)
    refine r_icmp_ge (tgt := 89) F.hx F.hb hv1_ h4 d_MO_layJoys_13 (by decide) (fun c5 => ?_) (fun c5 => ?_)
    · replace hT := (if_pos c5).symm.trans hT
      cases hT
      exact r_vret F hlk hr hS d_MO_layJoys_89
    · replace hT := (if_neg c5).symm.trans hT
      refine r_iconst F.hx F.hb d_MO_layJoys_16 ?_
      refine lv_istore_n (lv' := [(2, vI 0), (0, .ref (b + 191)), (1, vI v1_)]) F.hx F.hb d_MO_layJoys_17 rfl hl (Nat.le_of_ble_eq_true rfl) rfl (fun ls hl => ?_)
      exact k_MO_layJoys_L18 l hlo F hlk hr (fun a0_ a1_ => t_MO_layJoys_L8 fu a0_ a1_) ih FU M v1_ hv1_ 0 (inr_c rfl) _ _ _ hS (lv_sub hl [1, 2, 0] rfl) hT
set_option maxHeartbeats 4000000 in
set_option maxRecDepth 100000 in
theorem c_MO_layJoys (l : Launch) {b n : Nat} {C : CT} (hlo : 231 ≤ n) (M : Mem)   (res : Mem) (hT : t_MO_layJoys M  = some res) : CM l b C n 5 y_MO_layJoys b_MO_layJoys 3 (none) [.ref (b + 191)] M (QV b C n res) := by
  refine CM.of (lo := 231) (ow := "WardFallsModel") (by decide) rfl (Nat.le_of_ble_eq_true rfl) hlo (fun p e s m below meth c F hlk hr hS ls hl => ?_)
  have hl : lv_has ls 3 [(0, .ref (b + 191))] := hl
  unfold t_MO_layJoys at hT
  refine lv_aload_n F.hx F.hb d_MO_layJoys_0 rfl (lv_at hl 0 rfl) ?_
  refine r_iconst F.hx F.hb d_MO_layJoys_1 ?_
  refine r_iconst F.hx F.hb d_MO_layJoys_2 ?_
  obtain ⟨q1, hq1, hT⟩ := q_obind hT
  refine r_backV F hS (r_runV (k := 191) (N := 68) (T := T1) (As := [vI 1, vI 0]) F hS (show 191 < 231 by decide) (show shK 191 = 5 from rfl) rfl (c_MO_copies l F.2.2.1 M 1 0 (inr_c rfl) (inr_c rfl) _ hq1) gs_MO_437 hd_MO_copies ⟨Nat.le_of_ble_eq_true rfl, Nat.le_of_ble_eq_true rfl⟩ rfl hl.1 (Nat.le_of_ble_eq_true rfl) ⟨Nat.zero_le _, Nat.zero_le _⟩ rfl d_MO_layJoys_3) (fun H locs hS => ?_)
  refine r_iconst F.hx F.hb d_MO_layJoys_6 ?_
  refine lv_istore_n (lv' := [(1, vI 0), (0, .ref (b + 191))]) F.hx F.hb d_MO_layJoys_7 rfl hl (Nat.le_of_ble_eq_true rfl) rfl (fun ls hl => ?_)
  exact k_MO_layJoys_L8 l hlo F hlk hr FU q1 0 (inr_c rfl) _ _ _ hS (lv_sub hl [1, 0] rfl) hT
theorem d_MO_with_0 : decode b_MO_with 0 = .ok (.iload_n 0, 1) := dc_26 (by decide +kernel)
theorem d_MO_with_1 : decode b_MO_with 1 = .ok (.iconst 3, 1) := dc_6 (by decide +kernel)
theorem d_MO_with_2 : decode b_MO_with 2 = .ok (.iconst 2, 1) := dc_5 (by decide +kernel)
theorem d_MO_with_3 : decode b_MO_with 3 = .ok (.iload_n 1, 1) := dc_27 (by decide +kernel)
theorem d_MO_with_4 : decode b_MO_with 4 = .ok (.imul, 1) := dc_104 (by decide +kernel)
theorem d_MO_with_5 : decode b_MO_with 5 = .ok (.ishl, 1) := dc_120 (by decide +kernel)
theorem d_MO_with_6 : decode b_MO_with 6 = .ok (.iconst (-1), 1) := dc_2 (by decide +kernel)
theorem d_MO_with_7 : decode b_MO_with 7 = .ok (.ixor, 1) := dc_130 (by decide +kernel)
theorem d_MO_with_8 : decode b_MO_with 8 = .ok (.iand, 1) := dc_126 (by decide +kernel)
theorem d_MO_with_9 : decode b_MO_with 9 = .ok (.iload_n 2, 1) := dc_28 (by decide +kernel)
theorem d_MO_with_10 : decode b_MO_with 10 = .ok (.iconst 2, 1) := dc_5 (by decide +kernel)
theorem d_MO_with_11 : decode b_MO_with 11 = .ok (.iload_n 1, 1) := dc_27 (by decide +kernel)
theorem d_MO_with_12 : decode b_MO_with 12 = .ok (.imul, 1) := dc_104 (by decide +kernel)
theorem d_MO_with_13 : decode b_MO_with 13 = .ok (.ishl, 1) := dc_120 (by decide +kernel)
theorem d_MO_with_14 : decode b_MO_with 14 = .ok (.ior, 1) := dc_128 (by decide +kernel)
theorem d_MO_with_15 : decode b_MO_with 15 = .ok (.ireturn, 1) := dc_172 (by decide +kernel)
def t_MO_with (M : Mem) (x1 : Int) (x2 : Int) (x3 : Int) : Int := (q_or (q_and x1 (q_xor (q_shl 3 (w32 (2 * x2))) (-1))) (q_shl x3 (w32 (2 * x2))))
set_option maxHeartbeats 4000000 in
set_option maxRecDepth 100000 in
theorem c_MO_with (l : Launch) {b n : Nat} {C : CT} (hlo : 231 ≤ n) (M : Mem) (x1 : Int) (x2 : Int) (x3 : Int) (hx1 : InR x1) (hx2 : InR x2) (hx3 : InR x3) (res : Int) (hT : t_MO_with M x1 x2 x3 = res) : CM l b C n 0 y_MO_with b_MO_with 3 (some .int) [vI x1, vI x2, vI x3] M (QI b C n M res) := by
  refine CM.of (lo := 231) (ow := "WardFallsModel") (by decide) rfl (Nat.le_of_ble_eq_true rfl) hlo (fun p e s m below meth c F hlk hr hS ls hl => ?_)
  have hl : lv_has ls 3 [(0, vI x1), (1, vI x2), (2, vI x3)] := hl
  unfold t_MO_with at hT
  refine lv_iload_n F.hx F.hb d_MO_with_0 rfl (lv_at hl 0 rfl) ?_
  refine r_iconst F.hx F.hb d_MO_with_1 ?_
  refine r_iconst F.hx F.hb d_MO_with_2 ?_
  refine lv_iload_n F.hx F.hb d_MO_with_3 rfl (lv_at hl 1 rfl) ?_
  refine r_imul F.hx F.hb d_MO_with_4 ?_
  refine r_ishl F.hx F.hb d_MO_with_5 ?_
  refine r_iconst F.hx F.hb d_MO_with_6 ?_
  refine r_ixor F.hx F.hb d_MO_with_7 ?_
  refine r_iand F.hx F.hb d_MO_with_8 ?_
  refine lv_iload_n F.hx F.hb d_MO_with_9 rfl (lv_at hl 2 rfl) ?_
  refine r_iconst F.hx F.hb d_MO_with_10 ?_
  refine lv_iload_n F.hx F.hb d_MO_with_11 rfl (lv_at hl 1 rfl) ?_
  refine r_imul F.hx F.hb d_MO_with_12 ?_
  refine r_ishl F.hx F.hb d_MO_with_13 ?_
  refine r_ior F.hx F.hb d_MO_with_14 ?_
  subst hT
  exact r_iret F hlk hr rfl hS (q_inr_toInt _) d_MO_with_15
end
section
theorem d_MO_isStay_0 : decode b_MO_isStay 0 = .ok (.iconst 0, 1) := dc_3 (by decide +kernel)
theorem d_MO_isStay_1 : decode b_MO_isStay 1 = .ok (.istore_n 2, 1) := dc_61 (by decide +kernel)
theorem d_MO_isStay_2 : decode b_MO_isStay 2 = .ok (.iload_n 2, 1) := dc_28 (by decide +kernel)
theorem d_MO_isStay_3 : decode b_MO_isStay 3 = .ok (.aload_n 0, 1) := dc_42 (by decide +kernel)
theorem d_MO_isStay_4 : decode b_MO_isStay 4 = .ok (.getfield 13, 3) := dc_180 (by decide +kernel)
theorem d_MO_isStay_7 : decode b_MO_isStay 7 = .ok (.iconst 2, 1) := dc_5 (by decide +kernel)
theorem d_MO_isStay_8 : decode b_MO_isStay 8 = .ok (.iaload, 1) := dc_46 (by decide +kernel)
theorem d_MO_isStay_9 : decode b_MO_isStay 9 = .ok (.if_icmp .ge 52, 3) := dc_162 (by decide +kernel)
theorem d_MO_isStay_12 : decode b_MO_isStay 12 = .ok (.iconst 0, 1) := dc_3 (by decide +kernel)
theorem d_MO_isStay_13 : decode b_MO_isStay 13 = .ok (.istore_n 3, 1) := dc_62 (by decide +kernel)
theorem d_MO_isStay_14 : decode b_MO_isStay 14 = .ok (.iload_n 3, 1) := dc_29 (by decide +kernel)
theorem d_MO_isStay_15 : decode b_MO_isStay 15 = .ok (.iconst 4, 1) := dc_7 (by decide +kernel)
theorem d_MO_isStay_16 : decode b_MO_isStay 16 = .ok (.if_icmp .ge 39, 3) := dc_162 (by decide +kernel)
theorem d_MO_isStay_19 : decode b_MO_isStay 19 = .ok (.aload_n 0, 1) := dc_42 (by decide +kernel)
theorem d_MO_isStay_20 : decode b_MO_isStay 20 = .ok (.getfield 118, 3) := dc_180 (by decide +kernel)
theorem d_MO_isStay_23 : decode b_MO_isStay 23 = .ok (.iconst 4, 1) := dc_7 (by decide +kernel)
theorem d_MO_isStay_24 : decode b_MO_isStay 24 = .ok (.iload_n 1, 1) := dc_27 (by decide +kernel)
theorem d_MO_isStay_25 : decode b_MO_isStay 25 = .ok (.iload_n 2, 1) := dc_28 (by decide +kernel)
theorem d_MO_isStay_26 : decode b_MO_isStay 26 = .ok (.iload_n 3, 1) := dc_29 (by decide +kernel)
theorem d_MO_isStay_27 : decode b_MO_isStay 27 = .ok (.invokestatic 486, 3) := dc_184 (by decide +kernel)
theorem d_MO_isStay_30 : decode b_MO_isStay 30 = .ok (.imul, 1) := dc_104 (by decide +kernel)
theorem d_MO_isStay_31 : decode b_MO_isStay 31 = .ok (.iload_n 2, 1) := dc_28 (by decide +kernel)
theorem d_MO_isStay_32 : decode b_MO_isStay 32 = .ok (.iadd, 1) := dc_96 (by decide +kernel)
theorem d_MO_isStay_33 : decode b_MO_isStay 33 = .ok (.iaload, 1) := dc_46 (by decide +kernel)
theorem d_MO_isStay_34 : decode b_MO_isStay 34 = .ok (.aload_n 0, 1) := dc_42 (by decide +kernel)
theorem d_MO_isStay_35 : decode b_MO_isStay 35 = .ok (.getfield 118, 3) := dc_180 (by decide +kernel)
theorem d_MO_isStay_38 : decode b_MO_isStay 38 = .ok (.iconst 4, 1) := dc_7 (by decide +kernel)
theorem d_MO_isStay_39 : decode b_MO_isStay 39 = .ok (.iload_n 1, 1) := dc_27 (by decide +kernel)
theorem d_MO_isStay_40 : decode b_MO_isStay 40 = .ok (.imul, 1) := dc_104 (by decide +kernel)
theorem d_MO_isStay_41 : decode b_MO_isStay 41 = .ok (.iload_n 2, 1) := dc_28 (by decide +kernel)
theorem d_MO_isStay_42 : decode b_MO_isStay 42 = .ok (.iadd, 1) := dc_96 (by decide +kernel)
theorem d_MO_isStay_43 : decode b_MO_isStay 43 = .ok (.iaload, 1) := dc_46 (by decide +kernel)
theorem d_MO_isStay_44 : decode b_MO_isStay 44 = .ok (.if_icmp .le 5, 3) := dc_164 (by decide +kernel)
theorem d_MO_isStay_47 : decode b_MO_isStay 47 = .ok (.iconst 0, 1) := dc_3 (by decide +kernel)
theorem d_MO_isStay_48 : decode b_MO_isStay 48 = .ok (.ireturn, 1) := dc_172 (by decide +kernel)
theorem d_MO_isStay_49 : decode b_MO_isStay 49 = .ok (.iinc 3 1, 3) := dc_132 (by decide +kernel)
theorem d_MO_isStay_52 : decode b_MO_isStay 52 = .ok (.goto (-38), 3) := dc_167 (by decide +kernel)
theorem d_MO_isStay_55 : decode b_MO_isStay 55 = .ok (.iinc 2 1, 3) := dc_132 (by decide +kernel)
theorem d_MO_isStay_58 : decode b_MO_isStay 58 = .ok (.goto (-56), 3) := dc_167 (by decide +kernel)
theorem d_MO_isStay_61 : decode b_MO_isStay 61 = .ok (.iconst 1, 1) := dc_4 (by decide +kernel)
theorem d_MO_isStay_62 : decode b_MO_isStay 62 = .ok (.ireturn, 1) := dc_172 (by decide +kernel)
def t_MO_isStay_L14 (x1 : Int) (bk2 : Mem → Int → Option (Int)) : Nat → Mem → Int → Int → Option (Int)
  | 0, _, _, _ => none
  | fu + 1, M, v2_, v3_ => (if 4 ≤ v3_ then (bk2 M (w32 (v2_ + 1))) else (qlet (t_MO_with M x1 v2_ v3_) fun q4 => (qguard (0 ≤ (w32 ((w32 (4 * q4)) + v2_)) ∧ (w32 ((w32 (4 * q4)) + v2_)) < 1024) (qguard (0 ≤ (w32 ((w32 (4 * x1)) + v2_)) ∧ (w32 ((w32 (4 * x1)) + v2_)) < 1024) (if (M.1 224 (w32 ((w32 (4 * q4)) + v2_))) ≤ (M.1 224 (w32 ((w32 (4 * x1)) + v2_))) then (t_MO_isStay_L14 x1 bk2 fu M v2_ (w32 (v3_ + 1))) else (some 0))))))
def t_MO_isStay_L2 (x1 : Int)  : Nat → Mem → Int → Option (Int)
  | 0, _, _ => none
  | fu + 1, M, v2_ => (if (M.1 193 2) ≤ v2_ then (some 1) else (t_MO_isStay_L14 x1 (fun a0_ a1_ => t_MO_isStay_L2 x1 fu a0_ a1_) FU M v2_ 0))
def t_MO_isStay (M : Mem) (x1 : Int) : Option (Int) := (t_MO_isStay_L2 x1 FU M 0)
set_option maxHeartbeats 4000000 in
set_option maxRecDepth 100000 in
theorem k_MO_isStay_L14 (l : Launch) {p : Program} {e : Env} {s : State} {m : MethodId} {below : List Frame} {meth : Method} {c : Code} {b n : Nat} {C : CT} (hlo : 231 ≤ n) (x1 : Int) (hx1 : InR x1) (F : Cx b p m c b_MO_isStay 4 s ([.ref (b + 191), vI x1] : List Value).toArray "WardFallsModel" C n 231) (hlk : meth.locks = false) (hr : meth.sig.returnType = some .boolean) {res : Int} (bk2 : Mem → Int → Option (Int)) (hbk2 : ∀ (M : Mem) (v2_ : Int) (hv2_ : InR v2_) (H : Heap) (locs : List Loc) (ls : Array Slot), St b C n M s H locs → lv_has ls 4 [(0, .ref (b + 191)), (1, vI x1), (2, vI v2_)] → bk2 M v2_ = some res → W p l e (headSpec (wsM y_MO_isStay b_MO_isStay 4 (some .boolean)) (rmD 1)).room s m ([.ref (b + 191), vI x1] : List Value).toArray below meth c H locs 0 0 (MQ below (QZ b C n M res) ([.ref (b + 191), vI x1] : List Value).toArray s 0 0 (frb b)) (F0 m 2 ls [])) : ∀ (fu : Nat) (M : Mem) (v2_ : Int) (hv2_ : InR v2_) (v3_ : Int) (hv3_ : InR v3_) (H : Heap) (locs : List Loc) (ls : Array Slot), St b C n M s H locs → lv_has ls 4 [(0, .ref (b + 191)), (1, vI x1), (2, vI v2_), (3, vI v3_)] → t_MO_isStay_L14 x1 bk2 fu M v2_ v3_ = some res → W p l e (headSpec (wsM y_MO_isStay b_MO_isStay 4 (some .boolean)) (rmD 1)).room s m ([.ref (b + 191), vI x1] : List Value).toArray below meth c H locs 0 0 (MQ below (QZ b C n M res) ([.ref (b + 191), vI x1] : List Value).toArray s 0 0 (frb b)) (F0 m 14 ls []) := by
  intro fu
  induction fu with
  | zero => intro M v2_ hv2_ v3_ hv3_ H locs ls hS hl hT; exact absurd hT (by simp [t_MO_isStay_L14])
  | succ fu ih =>
    intro M v2_ hv2_ v3_ hv3_ H locs ls hS hl hT
    rw [t_MO_isStay_L14] at hT
    refine lv_iload_n F.hx F.hb d_MO_isStay_14 rfl (lv_at hl 3 rfl) ?_
    refine r_iconst F.hx F.hb d_MO_isStay_15 ?_
    refine r_icmp_ge (tgt := 55) F.hx F.hb hv3_ (inr_c rfl) d_MO_isStay_16 (by decide) (fun c3 => ?_) (fun c3 => ?_)
    · replace hT := (if_pos c3).symm.trans hT
      refine lv_iinc (v := Int32.ofInt (w32 (v2_ + 1))) (lv' := [(2, vI (w32 (v2_ + 1))), (0, .ref (b + 191)), (1, vI x1), (3, vI v3_)]) F.hx F.hb d_MO_isStay_55 hl (k := 2) rfl (q_of_add _ _) (Nat.le_of_ble_eq_true rfl) rfl (fun ls hl => ?_)
      refine lv_goto (tgt := 2) F.hx F.hb d_MO_isStay_58 (by decide) ?_
      exact hbk2 M (w32 (v2_ + 1)) (inr_w32 _) _ _ _ hS (lv_sub hl [1, 2, 0] rfl) hT
    · replace hT := (if_neg c3).symm.trans hT
      refine lv_aload_n F.hx F.hb d_MO_isStay_19 rfl (lv_at hl 0 rfl) ?_
      refine r_get (v := .ref (b + 224)) (N := 68) (T := T1) (j := 58) F hS (show 191 < 231 by decide) (show shK 191 = 5 from rfl) (show shN 191 = 68 from rfl) rfl (Nat.le_of_ble_eq_true rfl) ing1 mw_1447 (fv_sg rfl rfl rfl) d_MO_isStay_20 ?_
      refine r_iconst F.hx F.hb d_MO_isStay_23 ?_
      refine lv_iload_n F.hx F.hb d_MO_isStay_24 rfl (lv_at hl 1 rfl) ?_
      refine lv_iload_n F.hx F.hb d_MO_isStay_25 rfl (lv_at hl 2 rfl) ?_
      refine lv_iload_n F.hx F.hb d_MO_isStay_26 rfl (lv_at hl 3 rfl) ?_
      obtain ⟨q4, hq4⟩ : ∃ q, q = (t_MO_with M x1 v2_ v3_) := ⟨_, rfl⟩
      replace hT := qlet_eq hT hq4
      refine r_backI F hS (r_runS (As := [vI x1, vI v2_, vI v3_]) F hS (c_MO_with l F.2.2.1 M x1 v2_ v3_ hx1 hv2_ hv3_ _ hq4.symm) gs_MO_486 hd_MO_with ⟨Nat.le_of_ble_eq_true rfl, Nat.le_of_ble_eq_true rfl⟩ rfl hl.1 (Nat.le_of_ble_eq_true rfl) ⟨Nat.zero_le _, Nat.zero_le _⟩ rfl d_MO_isStay_27) (fun H locs hS h5 => ?_)
      refine r_imul F.hx F.hb d_MO_isStay_30 ?_
      refine lv_iload_n F.hx F.hb d_MO_isStay_31 rfl (lv_at hl 2 rfl) ?_
      refine r_iadd F.hx F.hb d_MO_isStay_32 ?_
      obtain ⟨⟨g6a, g6b⟩, hT⟩ := q_guard hT
      refine r_iald F hS (show 224 < 231 by decide) (show shK 224 = 0 from rfl) (show shN 224 = 1024 from rfl) (inr_w32 _) g6a g6b d_MO_isStay_33 ?_
      have i7 := hS.rng 224 (w32 ((w32 (4 * q4)) + v2_))
      refine lv_aload_n F.hx F.hb d_MO_isStay_34 rfl (lv_at hl 0 rfl) ?_
      refine r_get (v := .ref (b + 224)) (N := 68) (T := T1) (j := 58) F hS (show 191 < 231 by decide) (show shK 191 = 5 from rfl) (show shN 191 = 68 from rfl) rfl (Nat.le_of_ble_eq_true rfl) ing1 mw_1447 (fv_sg rfl rfl rfl) d_MO_isStay_35 ?_
      refine r_iconst F.hx F.hb d_MO_isStay_38 ?_
      refine lv_iload_n F.hx F.hb d_MO_isStay_39 rfl (lv_at hl 1 rfl) ?_
      refine r_imul F.hx F.hb d_MO_isStay_40 ?_
      refine lv_iload_n F.hx F.hb d_MO_isStay_41 rfl (lv_at hl 2 rfl) ?_
      refine r_iadd F.hx F.hb d_MO_isStay_42 ?_
      obtain ⟨⟨g8a, g8b⟩, hT⟩ := q_guard hT
      refine r_iald F hS (show 224 < 231 by decide) (show shK 224 = 0 from rfl) (show shN 224 = 1024 from rfl) (inr_w32 _) g8a g8b d_MO_isStay_43 ?_
      have i9 := hS.rng 224 (w32 ((w32 (4 * x1)) + v2_))
      refine r_icmp_le (tgt := 49) F.hx F.hb i7 i9 d_MO_isStay_44 (by decide) (fun c10 => ?_) (fun c10 => ?_)
      · replace hT := (if_pos c10).symm.trans hT
        refine lv_iinc (v := Int32.ofInt (w32 (v3_ + 1))) (lv' := [(3, vI (w32 (v3_ + 1))), (0, .ref (b + 191)), (1, vI x1), (2, vI v2_)]) F.hx F.hb d_MO_isStay_49 hl (k := 3) rfl (q_of_add _ _) (Nat.le_of_ble_eq_true rfl) rfl (fun ls hl => ?_)
        refine lv_goto (tgt := 14) F.hx F.hb d_MO_isStay_52 (by decide) ?_
        exact ih M v2_ hv2_ (w32 (v3_ + 1)) (inr_w32 _) _ _ _ hS (lv_sub hl [1, 2, 3, 0] rfl) hT
      · replace hT := (if_neg c10).symm.trans hT
        refine r_iconst F.hx F.hb d_MO_isStay_47 ?_
        cases hT
        exact r_zret F hlk hr hS (Or.inl rfl) d_MO_isStay_48
set_option maxHeartbeats 4000000 in
set_option maxRecDepth 100000 in
theorem k_MO_isStay_L2 (l : Launch) {p : Program} {e : Env} {s : State} {m : MethodId} {below : List Frame} {meth : Method} {c : Code} {b n : Nat} {C : CT} (hlo : 231 ≤ n) (x1 : Int) (hx1 : InR x1) (F : Cx b p m c b_MO_isStay 4 s ([.ref (b + 191), vI x1] : List Value).toArray "WardFallsModel" C n 231) (hlk : meth.locks = false) (hr : meth.sig.returnType = some .boolean) {res : Int} : ∀ (fu : Nat) (M : Mem) (v2_ : Int) (hv2_ : InR v2_) (H : Heap) (locs : List Loc) (ls : Array Slot), St b C n M s H locs → lv_has ls 4 [(0, .ref (b + 191)), (1, vI x1), (2, vI v2_)] → t_MO_isStay_L2 x1 fu M v2_ = some res → W p l e (headSpec (wsM y_MO_isStay b_MO_isStay 4 (some .boolean)) (rmD 1)).room s m ([.ref (b + 191), vI x1] : List Value).toArray below meth c H locs 0 0 (MQ below (QZ b C n M res) ([.ref (b + 191), vI x1] : List Value).toArray s 0 0 (frb b)) (F0 m 2 ls []) := by
  intro fu
  induction fu with
  | zero => intro M v2_ hv2_ H locs ls hS hl hT; exact absurd hT (by simp [t_MO_isStay_L2])
  | succ fu ih =>
    intro M v2_ hv2_ H locs ls hS hl hT
    rw [t_MO_isStay_L2] at hT
    refine lv_iload_n F.hx F.hb d_MO_isStay_2 rfl (lv_at hl 2 rfl) ?_
    refine lv_aload_n F.hx F.hb d_MO_isStay_3 rfl (lv_at hl 0 rfl) ?_
    refine r_get (v := .ref (b + 193)) (N := 68) (T := T1) (j := 3) F hS (show 191 < 231 by decide) (show shK 191 = 5 from rfl) (show shN 191 = 68 from rfl) rfl (Nat.le_of_ble_eq_true rfl) ing1 mw_1392 (fv_sg rfl rfl rfl) d_MO_isStay_4 ?_
    refine r_iconst F.hx F.hb d_MO_isStay_7 ?_
    refine r_iald F hS (show 193 < 231 by decide) (show shK 193 = 0 from rfl) (show shN 193 = 18 from rfl) (inr_c rfl) (by omega) (by omega) d_MO_isStay_8 ?_
    have i1 := hS.rng 193 2
    refine r_icmp_ge (tgt := 61) F.hx F.hb hv2_ i1 d_MO_isStay_9 (by decide) (fun c2 => ?_) (fun c2 => ?_)
    · replace hT := (if_pos c2).symm.trans hT
      refine r_iconst F.hx F.hb d_MO_isStay_61 ?_
      cases hT
      exact r_zret F hlk hr hS (Or.inr rfl) d_MO_isStay_62
    · replace hT := (if_neg c2).symm.trans hT
      refine r_iconst F.hx F.hb d_MO_isStay_12 ?_
      refine lv_istore_n (lv' := [(3, vI 0), (0, .ref (b + 191)), (1, vI x1), (2, vI v2_)]) F.hx F.hb d_MO_isStay_13 rfl hl (Nat.le_of_ble_eq_true rfl) rfl (fun ls hl => ?_)
      exact k_MO_isStay_L14 l hlo x1 hx1 F hlk hr (fun a0_ a1_ => t_MO_isStay_L2 x1 fu a0_ a1_) ih FU M v2_ hv2_ 0 (inr_c rfl) _ _ _ hS (lv_sub hl [1, 2, 3, 0] rfl) hT
set_option maxHeartbeats 4000000 in
set_option maxRecDepth 100000 in
theorem c_MO_isStay (l : Launch) {b n : Nat} {C : CT} (hlo : 231 ≤ n) (M : Mem) (x1 : Int) (hx1 : InR x1) (res : Int) (hT : t_MO_isStay M x1 = some res) : CM l b C n 1 y_MO_isStay b_MO_isStay 4 (some .boolean) [.ref (b + 191), vI x1] M (QZ b C n M res) := by
  refine CM.of (lo := 231) (ow := "WardFallsModel") (by decide) rfl (Nat.le_of_ble_eq_true rfl) hlo (fun p e s m below meth c F hlk hr hS ls hl => ?_)
  have hl : lv_has ls 4 [(0, .ref (b + 191)), (1, vI x1)] := hl
  unfold t_MO_isStay at hT
  refine r_iconst F.hx F.hb d_MO_isStay_0 ?_
  refine lv_istore_n (lv' := [(2, vI 0), (0, .ref (b + 191)), (1, vI x1)]) F.hx F.hb d_MO_isStay_1 rfl hl (Nat.le_of_ble_eq_true rfl) rfl (fun ls hl => ?_)
  exact k_MO_isStay_L2 l hlo x1 hx1 F hlk hr FU M 0 (inr_c rfl) _ _ _ hS (lv_sub hl [1, 2, 0] rfl) hT
theorem d_MO_stayOf_0 : decode b_MO_stayOf 0 = .ok (.aload_n 0, 1) := dc_42 (by decide +kernel)
theorem d_MO_stayOf_1 : decode b_MO_stayOf 1 = .ok (.invokevirtual 489, 3) := dc_182 (by decide +kernel)
theorem d_MO_stayOf_4 : decode b_MO_stayOf 4 = .ok (.iconst 0, 1) := dc_3 (by decide +kernel)
theorem d_MO_stayOf_5 : decode b_MO_stayOf 5 = .ok (.istore_n 2, 1) := dc_61 (by decide +kernel)
theorem d_MO_stayOf_6 : decode b_MO_stayOf 6 = .ok (.iconst 0, 1) := dc_3 (by decide +kernel)
theorem d_MO_stayOf_7 : decode b_MO_stayOf 7 = .ok (.istore_n 3, 1) := dc_62 (by decide +kernel)
theorem d_MO_stayOf_8 : decode b_MO_stayOf 8 = .ok (.iload_n 3, 1) := dc_29 (by decide +kernel)
theorem d_MO_stayOf_9 : decode b_MO_stayOf 9 = .ok (.aload_n 0, 1) := dc_42 (by decide +kernel)
theorem d_MO_stayOf_10 : decode b_MO_stayOf 10 = .ok (.invokevirtual 483, 3) := dc_182 (by decide +kernel)
theorem d_MO_stayOf_13 : decode b_MO_stayOf 13 = .ok (.if_icmp .ge 30, 3) := dc_162 (by decide +kernel)
theorem d_MO_stayOf_16 : decode b_MO_stayOf 16 = .ok (.aload_n 0, 1) := dc_42 (by decide +kernel)
theorem d_MO_stayOf_17 : decode b_MO_stayOf 17 = .ok (.iload_n 3, 1) := dc_29 (by decide +kernel)
theorem d_MO_stayOf_18 : decode b_MO_stayOf 18 = .ok (.invokevirtual 492, 3) := dc_182 (by decide +kernel)
theorem d_MO_stayOf_21 : decode b_MO_stayOf 21 = .ok (.ifCond .ne 6, 3) := dc_154 (by decide +kernel)
theorem d_MO_stayOf_24 : decode b_MO_stayOf 24 = .ok (.goto 13, 3) := dc_167 (by decide +kernel)
theorem d_MO_stayOf_27 : decode b_MO_stayOf 27 = .ok (.iload_n 2, 1) := dc_28 (by decide +kernel)
theorem d_MO_stayOf_28 : decode b_MO_stayOf 28 = .ok (.iload_n 1, 1) := dc_27 (by decide +kernel)
theorem d_MO_stayOf_29 : decode b_MO_stayOf 29 = .ok (.if_icmp .ne 5, 3) := dc_160 (by decide +kernel)
theorem d_MO_stayOf_32 : decode b_MO_stayOf 32 = .ok (.iload_n 3, 1) := dc_29 (by decide +kernel)
theorem d_MO_stayOf_33 : decode b_MO_stayOf 33 = .ok (.ireturn, 1) := dc_172 (by decide +kernel)
theorem d_MO_stayOf_34 : decode b_MO_stayOf 34 = .ok (.iinc 2 1, 3) := dc_132 (by decide +kernel)
theorem d_MO_stayOf_37 : decode b_MO_stayOf 37 = .ok (.iinc 3 1, 3) := dc_132 (by decide +kernel)
theorem d_MO_stayOf_40 : decode b_MO_stayOf 40 = .ok (.goto (-32), 3) := dc_167 (by decide +kernel)
theorem d_MO_stayOf_43 : decode b_MO_stayOf 43 = .ok (.iload_n 1, 1) := dc_27 (by decide +kernel)
theorem d_MO_stayOf_44 : decode b_MO_stayOf 44 = .ok (.iconst (-1), 1) := dc_2 (by decide +kernel)
theorem d_MO_stayOf_45 : decode b_MO_stayOf 45 = .ok (.if_icmp .ne 7, 3) := dc_160 (by decide +kernel)
theorem d_MO_stayOf_48 : decode b_MO_stayOf 48 = .ok (.iload_n 2, 1) := dc_28 (by decide +kernel)
theorem d_MO_stayOf_49 : decode b_MO_stayOf 49 = .ok (.goto 5, 3) := dc_167 (by decide +kernel)
theorem d_MO_stayOf_52 : decode b_MO_stayOf 52 = .ok (.bipush (-2), 2) := dc_16 (by decide +kernel)
theorem d_MO_stayOf_54 : decode b_MO_stayOf 54 = .ok (.ireturn, 1) := dc_172 (by decide +kernel)
def t_MO_stayOf_L37 (x1 : Int) (bk8 : Mem → Int → Int → Option (Mem × Int)) (M : Mem) (v2_ : Int) (v3_ : Int) : Option (Mem × Int) := (bk8 M v2_ (w32 (v3_ + 1)))
def t_MO_stayOf_L8 (x1 : Int)  : Nat → Mem → Int → Int → Option (Mem × Int)
  | 0, _, _, _ => none
  | fu + 1, M, v2_, v3_ => (qlet (t_MO_votes M) fun q3 => (if q3 ≤ v3_ then (if x1 = (-1) then (some (M, v2_)) else (some (M, (-2)))) else (obind (t_MO_isStay M v3_) fun q7 => (if q7 = 0 then (t_MO_stayOf_L37 x1 (fun a0_ a1_ a2_ => t_MO_stayOf_L8 x1 fu a0_ a1_ a2_) M v2_ v3_) else (if v2_ = x1 then (some (M, v3_)) else (t_MO_stayOf_L37 x1 (fun a0_ a1_ a2_ => t_MO_stayOf_L8 x1 fu a0_ a1_ a2_) M (w32 (v2_ + 1)) v3_))))))
def t_MO_stayOf (M : Mem) (x1 : Int) : Option (Mem × Int) := (obind (t_MO_layJoys M) fun q1 => (t_MO_stayOf_L8 x1 FU q1 0 0))
set_option maxHeartbeats 4000000 in
set_option maxRecDepth 100000 in
theorem k_MO_stayOf_L37 (l : Launch) {p : Program} {e : Env} {s : State} {m : MethodId} {below : List Frame} {meth : Method} {c : Code} {b n : Nat} {C : CT} (hlo : 231 ≤ n) (x1 : Int) (hx1 : InR x1) (F : Cx b p m c b_MO_stayOf 4 s ([.ref (b + 191), vI x1] : List Value).toArray "WardFallsModel" C n 231) (hlk : meth.locks = false) (hr : meth.sig.returnType = some .int) {res : Mem × Int} (bk8 : Mem → Int → Int → Option (Mem × Int)) (hbk8 : ∀ (M : Mem) (v2_ : Int) (hv2_ : InR v2_) (v3_ : Int) (hv3_ : InR v3_) (H : Heap) (locs : List Loc) (ls : Array Slot), St b C n M s H locs → lv_has ls 4 [(0, .ref (b + 191)), (1, vI x1), (2, vI v2_), (3, vI v3_)] → bk8 M v2_ v3_ = some res → W p l e (headSpec (wsM y_MO_stayOf b_MO_stayOf 4 (some .int)) (rmD 6)).room s m ([.ref (b + 191), vI x1] : List Value).toArray below meth c H locs 0 0 (MQ below (QI b C n res.1 res.2) ([.ref (b + 191), vI x1] : List Value).toArray s 0 0 (frb b)) (F0 m 8 ls [])) (M : Mem) (v2_ : Int) (hv2_ : InR v2_) (v3_ : Int) (hv3_ : InR v3_) (H : Heap) (locs : List Loc) (ls : Array Slot) (hS : St b C n M s H locs) (hl : lv_has ls 4 [(0, .ref (b + 191)), (1, vI x1), (2, vI v2_), (3, vI v3_)]) (hT : t_MO_stayOf_L37 x1 bk8 M v2_ v3_ = some res) : W p l e (headSpec (wsM y_MO_stayOf b_MO_stayOf 4 (some .int)) (rmD 6)).room s m ([.ref (b + 191), vI x1] : List Value).toArray below meth c H locs 0 0 (MQ below (QI b C n res.1 res.2) ([.ref (b + 191), vI x1] : List Value).toArray s 0 0 (frb b)) (F0 m 37 ls []) := by
  unfold t_MO_stayOf_L37 at hT
  refine lv_iinc (v := Int32.ofInt (w32 (v3_ + 1))) (lv' := [(3, vI (w32 (v3_ + 1))), (0, .ref (b + 191)), (1, vI x1), (2, vI v2_)]) F.hx F.hb d_MO_stayOf_37 hl (k := 3) rfl (q_of_add _ _) (Nat.le_of_ble_eq_true rfl) rfl (fun ls hl => ?_)
  refine lv_goto (tgt := 8) F.hx F.hb d_MO_stayOf_40 (by decide) ?_
  exact hbk8 M v2_ hv2_ (w32 (v3_ + 1)) (inr_w32 _) _ _ _ hS (lv_sub hl [1, 2, 3, 0] rfl) hT
set_option maxHeartbeats 4000000 in
set_option maxRecDepth 100000 in
theorem k_MO_stayOf_L8 (l : Launch) {p : Program} {e : Env} {s : State} {m : MethodId} {below : List Frame} {meth : Method} {c : Code} {b n : Nat} {C : CT} (hlo : 231 ≤ n) (x1 : Int) (hx1 : InR x1) (F : Cx b p m c b_MO_stayOf 4 s ([.ref (b + 191), vI x1] : List Value).toArray "WardFallsModel" C n 231) (hlk : meth.locks = false) (hr : meth.sig.returnType = some .int) {res : Mem × Int} : ∀ (fu : Nat) (M : Mem) (v2_ : Int) (hv2_ : InR v2_) (v3_ : Int) (hv3_ : InR v3_) (H : Heap) (locs : List Loc) (ls : Array Slot), St b C n M s H locs → lv_has ls 4 [(0, .ref (b + 191)), (1, vI x1), (2, vI v2_), (3, vI v3_)] → t_MO_stayOf_L8 x1 fu M v2_ v3_ = some res → W p l e (headSpec (wsM y_MO_stayOf b_MO_stayOf 4 (some .int)) (rmD 6)).room s m ([.ref (b + 191), vI x1] : List Value).toArray below meth c H locs 0 0 (MQ below (QI b C n res.1 res.2) ([.ref (b + 191), vI x1] : List Value).toArray s 0 0 (frb b)) (F0 m 8 ls []) := by
  intro fu
  induction fu with
  | zero => intro M v2_ hv2_ v3_ hv3_ H locs ls hS hl hT; exact absurd hT (by simp [t_MO_stayOf_L8])
  | succ fu ih =>
    intro M v2_ hv2_ v3_ hv3_ H locs ls hS hl hT
    rw [t_MO_stayOf_L8] at hT
    refine lv_iload_n F.hx F.hb d_MO_stayOf_8 rfl (lv_at hl 3 rfl) ?_
    refine lv_aload_n F.hx F.hb d_MO_stayOf_9 rfl (lv_at hl 0 rfl) ?_
    obtain ⟨q3, hq3⟩ : ∃ q, q = (t_MO_votes M) := ⟨_, rfl⟩
    replace hT := qlet_eq hT hq3
    refine r_backI F hS (r_runV (k := 191) (N := 68) (T := T1) (As := []) F hS (show 191 < 231 by decide) (show shK 191 = 5 from rfl) rfl (c_MO_votes l F.2.2.1 M _ hq3.symm) gs_MO_483 hd_MO_votes ⟨Nat.le_of_ble_eq_true rfl, Nat.le_of_ble_eq_true rfl⟩ rfl hl.1 (Nat.le_of_ble_eq_true rfl) ⟨Nat.zero_le _, Nat.zero_le _⟩ rfl d_MO_stayOf_10) (fun H locs hS h4 => ?_)
    refine r_icmp_ge (tgt := 43) F.hx F.hb hv3_ h4 d_MO_stayOf_13 (by decide) (fun c5 => ?_) (fun c5 => ?_)
    · replace hT := (if_pos c5).symm.trans hT
      refine lv_iload_n F.hx F.hb d_MO_stayOf_43 rfl (lv_at hl 1 rfl) ?_
      refine r_iconst F.hx F.hb d_MO_stayOf_44 ?_
      refine r_icmp_ne (tgt := 52) F.hx F.hb hx1 (inr_c rfl) d_MO_stayOf_45 (by decide) (fun c6 => ?_) (fun c6 => ?_)
      · replace hT := (if_neg c6).symm.trans hT
        refine r_bipush F.hx F.hb d_MO_stayOf_52 rfl ?_
        cases hT
        exact r_iret F hlk hr rfl hS (inr_c rfl) d_MO_stayOf_54
      · replace hT := (if_pos c6).symm.trans hT
        refine lv_iload_n F.hx F.hb d_MO_stayOf_48 rfl (lv_at hl 2 rfl) ?_
        refine lv_goto (tgt := 54) F.hx F.hb d_MO_stayOf_49 (by decide) ?_
        cases hT
        exact r_iret F hlk hr rfl hS hv2_ d_MO_stayOf_54
    · replace hT := (if_neg c5).symm.trans hT
      refine lv_aload_n F.hx F.hb d_MO_stayOf_16 rfl (lv_at hl 0 rfl) ?_
      refine lv_iload_n F.hx F.hb d_MO_stayOf_17 rfl (lv_at hl 3 rfl) ?_
      obtain ⟨q7, hq7, hT⟩ := q_obind hT
      refine r_backZ F hS (r_runV (k := 191) (N := 68) (T := T1) (As := [vI v3_]) F hS (show 191 < 231 by decide) (show shK 191 = 5 from rfl) rfl (c_MO_isStay l F.2.2.1 M v3_ hv3_ _ hq7) gs_MO_492 hd_MO_isStay ⟨Nat.le_of_ble_eq_true rfl, Nat.le_of_ble_eq_true rfl⟩ rfl hl.1 (Nat.le_of_ble_eq_true rfl) ⟨Nat.zero_le _, Nat.zero_le _⟩ rfl d_MO_stayOf_18) (fun H locs hS h8 => ?_)
      refine r_if_ne (tgt := 27) F.hx F.hb (inr_z h8) d_MO_stayOf_21 (by decide) (fun c9 => ?_) (fun c9 => ?_)
      · replace hT := (if_neg c9).symm.trans hT
        refine lv_iload_n F.hx F.hb d_MO_stayOf_27 rfl (lv_at hl 2 rfl) ?_
        refine lv_iload_n F.hx F.hb d_MO_stayOf_28 rfl (lv_at hl 1 rfl) ?_
        refine r_icmp_ne (tgt := 34) F.hx F.hb hv2_ hx1 d_MO_stayOf_29 (by decide) (fun c10 => ?_) (fun c10 => ?_)
        · replace hT := (if_neg c10).symm.trans hT
          refine lv_iinc (v := Int32.ofInt (w32 (v2_ + 1))) (lv' := [(2, vI (w32 (v2_ + 1))), (0, .ref (b + 191)), (1, vI x1), (3, vI v3_)]) F.hx F.hb d_MO_stayOf_34 hl (k := 2) rfl (q_of_add _ _) (Nat.le_of_ble_eq_true rfl) rfl (fun ls hl => ?_)
          exact k_MO_stayOf_L37 l hlo x1 hx1 F hlk hr (fun a0_ a1_ a2_ => t_MO_stayOf_L8 x1 fu a0_ a1_ a2_) ih M (w32 (v2_ + 1)) (inr_w32 _) v3_ hv3_ _ _ _ hS (lv_sub hl [1, 2, 0, 3] rfl) hT
        · replace hT := (if_pos c10).symm.trans hT
          refine lv_iload_n F.hx F.hb d_MO_stayOf_32 rfl (lv_at hl 3 rfl) ?_
          cases hT
          exact r_iret F hlk hr rfl hS hv3_ d_MO_stayOf_33
      · replace hT := (if_pos c9).symm.trans hT
        refine lv_goto (tgt := 37) F.hx F.hb d_MO_stayOf_24 (by decide) ?_
        exact k_MO_stayOf_L37 l hlo x1 hx1 F hlk hr (fun a0_ a1_ a2_ => t_MO_stayOf_L8 x1 fu a0_ a1_ a2_) ih M v2_ hv2_ v3_ hv3_ _ _ _ hS (lv_sub hl [0, 1, 2, 3] rfl) hT
set_option maxHeartbeats 4000000 in
set_option maxRecDepth 100000 in
theorem c_MO_stayOf (l : Launch) {b n : Nat} {C : CT} (hlo : 231 ≤ n) (M : Mem) (x1 : Int) (hx1 : InR x1) (res : Mem × Int) (hT : t_MO_stayOf M x1 = some res) : CM l b C n 6 y_MO_stayOf b_MO_stayOf 4 (some .int) [.ref (b + 191), vI x1] M (QI b C n res.1 res.2) := by
  refine CM.of (lo := 231) (ow := "WardFallsModel") (by decide) rfl (Nat.le_of_ble_eq_true rfl) hlo (fun p e s m below meth c F hlk hr hS ls hl => ?_)
  have hl : lv_has ls 4 [(0, .ref (b + 191)), (1, vI x1)] := hl
  unfold t_MO_stayOf at hT
  refine lv_aload_n F.hx F.hb d_MO_stayOf_0 rfl (lv_at hl 0 rfl) ?_
  obtain ⟨q1, hq1, hT⟩ := q_obind hT
  refine r_backV F hS (r_runV (k := 191) (N := 68) (T := T1) (As := []) F hS (show 191 < 231 by decide) (show shK 191 = 5 from rfl) rfl (c_MO_layJoys l F.2.2.1 M _ hq1) gs_MO_489 hd_MO_layJoys ⟨Nat.le_of_ble_eq_true rfl, Nat.le_of_ble_eq_true rfl⟩ rfl hl.1 (Nat.le_of_ble_eq_true rfl) ⟨Nat.zero_le _, Nat.zero_le _⟩ rfl d_MO_stayOf_1) (fun H locs hS => ?_)
  refine r_iconst F.hx F.hb d_MO_stayOf_4 ?_
  refine lv_istore_n (lv' := [(2, vI 0), (0, .ref (b + 191)), (1, vI x1)]) F.hx F.hb d_MO_stayOf_5 rfl hl (Nat.le_of_ble_eq_true rfl) rfl (fun ls hl => ?_)
  refine r_iconst F.hx F.hb d_MO_stayOf_6 ?_
  refine lv_istore_n (lv' := [(3, vI 0), (2, vI 0), (0, .ref (b + 191)), (1, vI x1)]) F.hx F.hb d_MO_stayOf_7 rfl hl (Nat.le_of_ble_eq_true rfl) rfl (fun ls hl => ?_)
  exact k_MO_stayOf_L8 l hlo x1 hx1 F hlk hr FU q1 0 (inr_c rfl) 0 (inr_c rfl) _ _ _ hS (lv_sub hl [2, 3, 1, 0] rfl) hT
theorem d_MO_stays_0 : decode b_MO_stays 0 = .ok (.aload_n 0, 1) := dc_42 (by decide +kernel)
theorem d_MO_stays_1 : decode b_MO_stays 1 = .ok (.iconst 0, 1) := dc_3 (by decide +kernel)
theorem d_MO_stays_2 : decode b_MO_stays 2 = .ok (.putfield 145, 3) := dc_181 (by decide +kernel)
theorem d_MO_stays_5 : decode b_MO_stays 5 = .ok (.aload_n 0, 1) := dc_42 (by decide +kernel)
theorem d_MO_stays_6 : decode b_MO_stays 6 = .ok (.iconst (-1), 1) := dc_2 (by decide +kernel)
theorem d_MO_stays_7 : decode b_MO_stays 7 = .ok (.invokevirtual 495, 3) := dc_182 (by decide +kernel)
theorem d_MO_stays_10 : decode b_MO_stays 10 = .ok (.ireturn, 1) := dc_172 (by decide +kernel)
def t_MO_stays (M : Mem)  : Option (Mem × Int) := (qlet (setI M 191 0 0) fun M1 => (obind (t_MO_stayOf M1 (-1)) fun q2 => (some ((q2.1), (q2.2)))))
set_option maxHeartbeats 4000000 in
set_option maxRecDepth 100000 in
theorem c_MO_stays (l : Launch) {b n : Nat} {C : CT} (hlo : 231 ≤ n) (M : Mem)   (res : Mem × Int) (hT : t_MO_stays M  = some res) : CM l b C n 7 y_MO_stays b_MO_stays 1 (some .int) [.ref (b + 191)] M (QI b C n res.1 res.2) := by
  refine CM.of (lo := 231) (ow := "WardFallsModel") (by decide) rfl (Nat.le_of_ble_eq_true rfl) hlo (fun p e s m below meth c F hlk hr hS ls hl => ?_)
  have hl : lv_has ls 1 [(0, .ref (b + 191))] := hl
  unfold t_MO_stays at hT
  refine lv_aload_n F.hx F.hb d_MO_stays_0 rfl (lv_at hl 0 rfl) ?_
  refine r_iconst F.hx F.hb d_MO_stays_1 ?_
  refine r_putI (N := 68) (T := T1) (j := 0) F hS (show 191 < 231 by decide) (show shK 191 = 5 from rfl) (show shN 191 = 68 from rfl) rfl (Nat.le_of_ble_eq_true rfl) ing1 tyok1 nm1 rfl rfl rfl rfl rfl rfl mw_1389 (inr_c rfl) d_MO_stays_2 (fun H locs hS => ?_)
  obtain ⟨M1, eM1⟩ : ∃ q, q = (setI M 191 0 0) := ⟨_, rfl⟩
  replace hS : St b C n M1 s H locs := by rw [eM1]; exact hS
  replace hT := qlet_eq hT eM1
  refine lv_aload_n F.hx F.hb d_MO_stays_5 rfl (lv_at hl 0 rfl) ?_
  refine r_iconst F.hx F.hb d_MO_stays_6 ?_
  obtain ⟨q2, hq2, hT⟩ := q_obind hT
  refine r_backI F hS (r_runV (k := 191) (N := 68) (T := T1) (As := [vI (-1)]) F hS (show 191 < 231 by decide) (show shK 191 = 5 from rfl) rfl (c_MO_stayOf l F.2.2.1 M1 (-1) (inr_c rfl) _ hq2) gs_MO_495 hd_MO_stayOf ⟨Nat.le_of_ble_eq_true rfl, Nat.le_of_ble_eq_true rfl⟩ rfl hl.1 (Nat.le_of_ble_eq_true rfl) ⟨Nat.zero_le _, Nat.zero_le _⟩ rfl d_MO_stays_7) (fun H locs hS h3 => ?_)
  cases hT
  exact r_iret F hlk hr rfl hS h3 d_MO_stays_10
theorem d_MO_stay_0 : decode b_MO_stay 0 = .ok (.aload_n 0, 1) := dc_42 (by decide +kernel)
theorem d_MO_stay_1 : decode b_MO_stay 1 = .ok (.iconst 0, 1) := dc_3 (by decide +kernel)
theorem d_MO_stay_2 : decode b_MO_stay 2 = .ok (.putfield 145, 3) := dc_181 (by decide +kernel)
theorem d_MO_stay_5 : decode b_MO_stay 5 = .ok (.iload_n 1, 1) := dc_27 (by decide +kernel)
theorem d_MO_stay_6 : decode b_MO_stay 6 = .ok (.ifCond .ge 7, 3) := dc_156 (by decide +kernel)
theorem d_MO_stay_9 : decode b_MO_stay 9 = .ok (.iconst (-1), 1) := dc_2 (by decide +kernel)
theorem d_MO_stay_10 : decode b_MO_stay 10 = .ok (.goto 8, 3) := dc_167 (by decide +kernel)
theorem d_MO_stay_13 : decode b_MO_stay 13 = .ok (.aload_n 0, 1) := dc_42 (by decide +kernel)
theorem d_MO_stay_14 : decode b_MO_stay 14 = .ok (.iload_n 1, 1) := dc_27 (by decide +kernel)
theorem d_MO_stay_15 : decode b_MO_stay 15 = .ok (.invokevirtual 495, 3) := dc_182 (by decide +kernel)
theorem d_MO_stay_18 : decode b_MO_stay 18 = .ok (.ireturn, 1) := dc_172 (by decide +kernel)
def t_MO_stay (M : Mem) (x1 : Int) : Option (Mem × Int) := (qlet (setI M 191 0 0) fun M1 => (if 0 ≤ x1 then (obind (t_MO_stayOf M1 x1) fun q3 => (some ((q3.1), (q3.2)))) else (some (M1, (-1)))))
set_option maxHeartbeats 4000000 in
set_option maxRecDepth 100000 in
theorem c_MO_stay (l : Launch) {b n : Nat} {C : CT} (hlo : 231 ≤ n) (M : Mem) (x1 : Int) (hx1 : InR x1) (res : Mem × Int) (hT : t_MO_stay M x1 = some res) : CM l b C n 7 y_MO_stay b_MO_stay 2 (some .int) [.ref (b + 191), vI x1] M (QI b C n res.1 res.2) := by
  refine CM.of (lo := 231) (ow := "WardFallsModel") (by decide) rfl (Nat.le_of_ble_eq_true rfl) hlo (fun p e s m below meth c F hlk hr hS ls hl => ?_)
  have hl : lv_has ls 2 [(0, .ref (b + 191)), (1, vI x1)] := hl
  unfold t_MO_stay at hT
  refine lv_aload_n F.hx F.hb d_MO_stay_0 rfl (lv_at hl 0 rfl) ?_
  refine r_iconst F.hx F.hb d_MO_stay_1 ?_
  refine r_putI (N := 68) (T := T1) (j := 0) F hS (show 191 < 231 by decide) (show shK 191 = 5 from rfl) (show shN 191 = 68 from rfl) rfl (Nat.le_of_ble_eq_true rfl) ing1 tyok1 nm1 rfl rfl rfl rfl rfl rfl mw_1389 (inr_c rfl) d_MO_stay_2 (fun H locs hS => ?_)
  obtain ⟨M1, eM1⟩ : ∃ q, q = (setI M 191 0 0) := ⟨_, rfl⟩
  replace hS : St b C n M1 s H locs := by rw [eM1]; exact hS
  replace hT := qlet_eq hT eM1
  refine lv_iload_n F.hx F.hb d_MO_stay_5 rfl (lv_at hl 1 rfl) ?_
  refine r_if_ge (tgt := 13) F.hx F.hb hx1 d_MO_stay_6 (by decide) (fun c2 => ?_) (fun c2 => ?_)
  · replace hT := (if_pos c2).symm.trans hT
    refine lv_aload_n F.hx F.hb d_MO_stay_13 rfl (lv_at hl 0 rfl) ?_
    refine lv_iload_n F.hx F.hb d_MO_stay_14 rfl (lv_at hl 1 rfl) ?_
    obtain ⟨q3, hq3, hT⟩ := q_obind hT
    refine r_backI F hS (r_runV (k := 191) (N := 68) (T := T1) (As := [vI x1]) F hS (show 191 < 231 by decide) (show shK 191 = 5 from rfl) rfl (c_MO_stayOf l F.2.2.1 M1 x1 hx1 _ hq3) gs_MO_495 hd_MO_stayOf ⟨Nat.le_of_ble_eq_true rfl, Nat.le_of_ble_eq_true rfl⟩ rfl hl.1 (Nat.le_of_ble_eq_true rfl) ⟨Nat.zero_le _, Nat.zero_le _⟩ rfl d_MO_stay_15) (fun H locs hS h4 => ?_)
    cases hT
    exact r_iret F hlk hr rfl hS h4 d_MO_stay_18
  · replace hT := (if_neg c2).symm.trans hT
    refine r_iconst F.hx F.hb d_MO_stay_9 ?_
    refine lv_goto (tgt := 18) F.hx F.hb d_MO_stay_10 (by decide) ?_
    cases hT
    exact r_iret F hlk hr rfl hS (inr_c rfl) d_MO_stay_18
theorem wn_MO_treaty_0 : ∀ i, i < 94 → bA b_MO_treaty (0 + i) = wB [42, 3, 181, 0, 145, 27, 155, 0, 8, 27, 4, 164, 0, 5, 2, 172, 3, 61, 28, 42, 180, 0, 13, 5, 46, 162, 0, 21, 42, 180, 0, 121, 28, 42, 3, 28, 182, 1, 119, 79, 132, 2, 1, 167, 255, 231, 42, 182, 1, 233, 2, 61, 3, 62, 3, 54, 4, 21, 4, 42, 182, 1, 227, 162, 0, 114, 42, 21, 4, 182, 1, 236, 54, 5, 3, 54, 6, 3, 54, 7, 21, 7, 42, 180, 0, 13, 5, 46, 162, 0, 58, 21, 5, 42] i := wB_of (by decide +kernel)
theorem d_MO_treaty_0 : decode b_MO_treaty 0 = .ok (.aload_n 0, 1) := dc_42 (q0_win (r := 0) wn_MO_treaty_0 (by decide +kernel))
theorem d_MO_treaty_1 : decode b_MO_treaty 1 = .ok (.iconst 0, 1) := dc_3 (q0_win (r := 1) wn_MO_treaty_0 (by decide +kernel))
theorem d_MO_treaty_2 : decode b_MO_treaty 2 = .ok (.putfield 145, 3) := dc_181 (qU2_win (r := 2) wn_MO_treaty_0 (by decide +kernel))
theorem d_MO_treaty_5 : decode b_MO_treaty 5 = .ok (.iload_n 1, 1) := dc_27 (q0_win (r := 5) wn_MO_treaty_0 (by decide +kernel))
theorem d_MO_treaty_6 : decode b_MO_treaty 6 = .ok (.ifCond .lt 8, 3) := dc_155 (qS2_win (r := 6) wn_MO_treaty_0 (by decide +kernel))
theorem d_MO_treaty_9 : decode b_MO_treaty 9 = .ok (.iload_n 1, 1) := dc_27 (q0_win (r := 9) wn_MO_treaty_0 (by decide +kernel))
theorem d_MO_treaty_10 : decode b_MO_treaty 10 = .ok (.iconst 1, 1) := dc_4 (q0_win (r := 10) wn_MO_treaty_0 (by decide +kernel))
theorem d_MO_treaty_11 : decode b_MO_treaty 11 = .ok (.if_icmp .le 5, 3) := dc_164 (qS2_win (r := 11) wn_MO_treaty_0 (by decide +kernel))
theorem d_MO_treaty_14 : decode b_MO_treaty 14 = .ok (.iconst (-1), 1) := dc_2 (q0_win (r := 14) wn_MO_treaty_0 (by decide +kernel))
theorem d_MO_treaty_15 : decode b_MO_treaty 15 = .ok (.ireturn, 1) := dc_172 (q0_win (r := 15) wn_MO_treaty_0 (by decide +kernel))
theorem d_MO_treaty_16 : decode b_MO_treaty 16 = .ok (.iconst 0, 1) := dc_3 (q0_win (r := 16) wn_MO_treaty_0 (by decide +kernel))
theorem d_MO_treaty_17 : decode b_MO_treaty 17 = .ok (.istore_n 2, 1) := dc_61 (q0_win (r := 17) wn_MO_treaty_0 (by decide +kernel))
theorem d_MO_treaty_18 : decode b_MO_treaty 18 = .ok (.iload_n 2, 1) := dc_28 (q0_win (r := 18) wn_MO_treaty_0 (by decide +kernel))
theorem d_MO_treaty_19 : decode b_MO_treaty 19 = .ok (.aload_n 0, 1) := dc_42 (q0_win (r := 19) wn_MO_treaty_0 (by decide +kernel))
theorem d_MO_treaty_20 : decode b_MO_treaty 20 = .ok (.getfield 13, 3) := dc_180 (qU2_win (r := 20) wn_MO_treaty_0 (by decide +kernel))
theorem d_MO_treaty_23 : decode b_MO_treaty 23 = .ok (.iconst 2, 1) := dc_5 (q0_win (r := 23) wn_MO_treaty_0 (by decide +kernel))
theorem d_MO_treaty_24 : decode b_MO_treaty 24 = .ok (.iaload, 1) := dc_46 (q0_win (r := 24) wn_MO_treaty_0 (by decide +kernel))
theorem d_MO_treaty_25 : decode b_MO_treaty 25 = .ok (.if_icmp .ge 21, 3) := dc_162 (qS2_win (r := 25) wn_MO_treaty_0 (by decide +kernel))
theorem d_MO_treaty_28 : decode b_MO_treaty 28 = .ok (.aload_n 0, 1) := dc_42 (q0_win (r := 28) wn_MO_treaty_0 (by decide +kernel))
theorem d_MO_treaty_29 : decode b_MO_treaty 29 = .ok (.getfield 121, 3) := dc_180 (qU2_win (r := 29) wn_MO_treaty_0 (by decide +kernel))
theorem d_MO_treaty_32 : decode b_MO_treaty 32 = .ok (.iload_n 2, 1) := dc_28 (q0_win (r := 32) wn_MO_treaty_0 (by decide +kernel))
theorem d_MO_treaty_33 : decode b_MO_treaty 33 = .ok (.aload_n 0, 1) := dc_42 (q0_win (r := 33) wn_MO_treaty_0 (by decide +kernel))
theorem d_MO_treaty_34 : decode b_MO_treaty 34 = .ok (.iconst 0, 1) := dc_3 (q0_win (r := 34) wn_MO_treaty_0 (by decide +kernel))
theorem d_MO_treaty_35 : decode b_MO_treaty 35 = .ok (.iload_n 2, 1) := dc_28 (q0_win (r := 35) wn_MO_treaty_0 (by decide +kernel))
theorem d_MO_treaty_36 : decode b_MO_treaty 36 = .ok (.invokevirtual 375, 3) := dc_182 (qU2_win (r := 36) wn_MO_treaty_0 (by decide +kernel))
theorem d_MO_treaty_39 : decode b_MO_treaty 39 = .ok (.iastore, 1) := dc_79 (q0_win (r := 39) wn_MO_treaty_0 (by decide +kernel))
theorem d_MO_treaty_40 : decode b_MO_treaty 40 = .ok (.iinc 2 1, 3) := dc_132 (qI_win (r := 40) wn_MO_treaty_0 (by decide +kernel))
theorem d_MO_treaty_43 : decode b_MO_treaty 43 = .ok (.goto (-25), 3) := dc_167 (qS2_win (r := 43) wn_MO_treaty_0 (by decide +kernel))
theorem d_MO_treaty_46 : decode b_MO_treaty 46 = .ok (.aload_n 0, 1) := dc_42 (q0_win (r := 46) wn_MO_treaty_0 (by decide +kernel))
theorem d_MO_treaty_47 : decode b_MO_treaty 47 = .ok (.invokevirtual 489, 3) := dc_182 (qU2_win (r := 47) wn_MO_treaty_0 (by decide +kernel))
theorem d_MO_treaty_50 : decode b_MO_treaty 50 = .ok (.iconst (-1), 1) := dc_2 (q0_win (r := 50) wn_MO_treaty_0 (by decide +kernel))
theorem d_MO_treaty_51 : decode b_MO_treaty 51 = .ok (.istore_n 2, 1) := dc_61 (q0_win (r := 51) wn_MO_treaty_0 (by decide +kernel))
theorem d_MO_treaty_52 : decode b_MO_treaty 52 = .ok (.iconst 0, 1) := dc_3 (q0_win (r := 52) wn_MO_treaty_0 (by decide +kernel))
theorem d_MO_treaty_53 : decode b_MO_treaty 53 = .ok (.istore_n 3, 1) := dc_62 (q0_win (r := 53) wn_MO_treaty_0 (by decide +kernel))
theorem d_MO_treaty_54 : decode b_MO_treaty 54 = .ok (.iconst 0, 1) := dc_3 (q0_win (r := 54) wn_MO_treaty_0 (by decide +kernel))
theorem d_MO_treaty_55 : decode b_MO_treaty 55 = .ok (.istore 4, 2) := dc_54 (qU1_win (r := 55) wn_MO_treaty_0 (by decide +kernel))
theorem d_MO_treaty_57 : decode b_MO_treaty 57 = .ok (.iload 4, 2) := dc_21 (qU1_win (r := 57) wn_MO_treaty_0 (by decide +kernel))
theorem d_MO_treaty_59 : decode b_MO_treaty 59 = .ok (.aload_n 0, 1) := dc_42 (q0_win (r := 59) wn_MO_treaty_0 (by decide +kernel))
theorem d_MO_treaty_60 : decode b_MO_treaty 60 = .ok (.invokevirtual 483, 3) := dc_182 (qU2_win (r := 60) wn_MO_treaty_0 (by decide +kernel))
theorem d_MO_treaty_63 : decode b_MO_treaty 63 = .ok (.if_icmp .ge 114, 3) := dc_162 (qS2_win (r := 63) wn_MO_treaty_0 (by decide +kernel))
theorem d_MO_treaty_66 : decode b_MO_treaty 66 = .ok (.aload_n 0, 1) := dc_42 (q0_win (r := 66) wn_MO_treaty_0 (by decide +kernel))
theorem d_MO_treaty_67 : decode b_MO_treaty 67 = .ok (.iload 4, 2) := dc_21 (qU1_win (r := 67) wn_MO_treaty_0 (by decide +kernel))
theorem d_MO_treaty_69 : decode b_MO_treaty 69 = .ok (.invokevirtual 492, 3) := dc_182 (qU2_win (r := 69) wn_MO_treaty_0 (by decide +kernel))
theorem d_MO_treaty_72 : decode b_MO_treaty 72 = .ok (.istore 5, 2) := dc_54 (qU1_win (r := 72) wn_MO_treaty_0 (by decide +kernel))
theorem d_MO_treaty_74 : decode b_MO_treaty 74 = .ok (.iconst 0, 1) := dc_3 (q0_win (r := 74) wn_MO_treaty_0 (by decide +kernel))
theorem d_MO_treaty_75 : decode b_MO_treaty 75 = .ok (.istore 6, 2) := dc_54 (qU1_win (r := 75) wn_MO_treaty_0 (by decide +kernel))
theorem d_MO_treaty_77 : decode b_MO_treaty 77 = .ok (.iconst 0, 1) := dc_3 (q0_win (r := 77) wn_MO_treaty_0 (by decide +kernel))
theorem d_MO_treaty_78 : decode b_MO_treaty 78 = .ok (.istore 7, 2) := dc_54 (qU1_win (r := 78) wn_MO_treaty_0 (by decide +kernel))
theorem d_MO_treaty_80 : decode b_MO_treaty 80 = .ok (.iload 7, 2) := dc_21 (qU1_win (r := 80) wn_MO_treaty_0 (by decide +kernel))
theorem d_MO_treaty_82 : decode b_MO_treaty 82 = .ok (.aload_n 0, 1) := dc_42 (q0_win (r := 82) wn_MO_treaty_0 (by decide +kernel))
theorem d_MO_treaty_83 : decode b_MO_treaty 83 = .ok (.getfield 13, 3) := dc_180 (qU2_win (r := 83) wn_MO_treaty_0 (by decide +kernel))
theorem d_MO_treaty_86 : decode b_MO_treaty 86 = .ok (.iconst 2, 1) := dc_5 (q0_win (r := 86) wn_MO_treaty_0 (by decide +kernel))
theorem d_MO_treaty_87 : decode b_MO_treaty 87 = .ok (.iaload, 1) := dc_46 (q0_win (r := 87) wn_MO_treaty_0 (by decide +kernel))
theorem d_MO_treaty_88 : decode b_MO_treaty 88 = .ok (.if_icmp .ge 58, 3) := dc_162 (qS2_win (r := 88) wn_MO_treaty_0 (by decide +kernel))
theorem d_MO_treaty_91 : decode b_MO_treaty 91 = .ok (.iload 5, 2) := dc_21 (qU1_win (r := 91) wn_MO_treaty_0 (by decide +kernel))
theorem d_MO_treaty_93 : decode b_MO_treaty 93 = .ok (.aload_n 0, 1) := dc_42 (q0_win (r := 93) wn_MO_treaty_0 (by decide +kernel))
theorem wn_MO_treaty_94 : ∀ i, i < 94 → bA b_MO_treaty (94 + i) = wB [180, 0, 118, 7, 21, 4, 104, 21, 7, 96, 46, 42, 180, 0, 121, 21, 7, 46, 161, 0, 7, 4, 167, 0, 4, 3, 126, 54, 5, 21, 6, 42, 180, 0, 118, 7, 21, 4, 104, 21, 7, 96, 46, 96, 54, 6, 132, 7, 1, 167, 255, 193, 21, 5, 153, 0, 23, 28, 2, 159, 0, 12, 21, 6, 29, 163, 0, 6, 167, 0, 9, 21, 4, 61, 21, 6, 62, 132, 4, 1, 167, 255, 139, 28, 2, 160, 0, 8, 16, 254, 167, 0, 12, 27] i := wB_of (by decide +kernel)
theorem d_MO_treaty_94 : decode b_MO_treaty 94 = .ok (.getfield 118, 3) := dc_180 (qU2_win (r := 0) wn_MO_treaty_94 (by decide +kernel))
theorem d_MO_treaty_97 : decode b_MO_treaty 97 = .ok (.iconst 4, 1) := dc_7 (q0_win (r := 3) wn_MO_treaty_94 (by decide +kernel))
theorem d_MO_treaty_98 : decode b_MO_treaty 98 = .ok (.iload 4, 2) := dc_21 (qU1_win (r := 4) wn_MO_treaty_94 (by decide +kernel))
theorem d_MO_treaty_100 : decode b_MO_treaty 100 = .ok (.imul, 1) := dc_104 (q0_win (r := 6) wn_MO_treaty_94 (by decide +kernel))
theorem d_MO_treaty_101 : decode b_MO_treaty 101 = .ok (.iload 7, 2) := dc_21 (qU1_win (r := 7) wn_MO_treaty_94 (by decide +kernel))
theorem d_MO_treaty_103 : decode b_MO_treaty 103 = .ok (.iadd, 1) := dc_96 (q0_win (r := 9) wn_MO_treaty_94 (by decide +kernel))
theorem d_MO_treaty_104 : decode b_MO_treaty 104 = .ok (.iaload, 1) := dc_46 (q0_win (r := 10) wn_MO_treaty_94 (by decide +kernel))
theorem d_MO_treaty_105 : decode b_MO_treaty 105 = .ok (.aload_n 0, 1) := dc_42 (q0_win (r := 11) wn_MO_treaty_94 (by decide +kernel))
theorem d_MO_treaty_106 : decode b_MO_treaty 106 = .ok (.getfield 121, 3) := dc_180 (qU2_win (r := 12) wn_MO_treaty_94 (by decide +kernel))
theorem d_MO_treaty_109 : decode b_MO_treaty 109 = .ok (.iload 7, 2) := dc_21 (qU1_win (r := 15) wn_MO_treaty_94 (by decide +kernel))
theorem d_MO_treaty_111 : decode b_MO_treaty 111 = .ok (.iaload, 1) := dc_46 (q0_win (r := 17) wn_MO_treaty_94 (by decide +kernel))
theorem d_MO_treaty_112 : decode b_MO_treaty 112 = .ok (.if_icmp .lt 7, 3) := dc_161 (qS2_win (r := 18) wn_MO_treaty_94 (by decide +kernel))
theorem d_MO_treaty_115 : decode b_MO_treaty 115 = .ok (.iconst 1, 1) := dc_4 (q0_win (r := 21) wn_MO_treaty_94 (by decide +kernel))
theorem d_MO_treaty_116 : decode b_MO_treaty 116 = .ok (.goto 4, 3) := dc_167 (qS2_win (r := 22) wn_MO_treaty_94 (by decide +kernel))
theorem d_MO_treaty_119 : decode b_MO_treaty 119 = .ok (.iconst 0, 1) := dc_3 (q0_win (r := 25) wn_MO_treaty_94 (by decide +kernel))
theorem d_MO_treaty_120 : decode b_MO_treaty 120 = .ok (.iand, 1) := dc_126 (q0_win (r := 26) wn_MO_treaty_94 (by decide +kernel))
theorem d_MO_treaty_121 : decode b_MO_treaty 121 = .ok (.istore 5, 2) := dc_54 (qU1_win (r := 27) wn_MO_treaty_94 (by decide +kernel))
theorem d_MO_treaty_123 : decode b_MO_treaty 123 = .ok (.iload 6, 2) := dc_21 (qU1_win (r := 29) wn_MO_treaty_94 (by decide +kernel))
theorem d_MO_treaty_125 : decode b_MO_treaty 125 = .ok (.aload_n 0, 1) := dc_42 (q0_win (r := 31) wn_MO_treaty_94 (by decide +kernel))
theorem d_MO_treaty_126 : decode b_MO_treaty 126 = .ok (.getfield 118, 3) := dc_180 (qU2_win (r := 32) wn_MO_treaty_94 (by decide +kernel))
theorem d_MO_treaty_129 : decode b_MO_treaty 129 = .ok (.iconst 4, 1) := dc_7 (q0_win (r := 35) wn_MO_treaty_94 (by decide +kernel))
theorem d_MO_treaty_130 : decode b_MO_treaty 130 = .ok (.iload 4, 2) := dc_21 (qU1_win (r := 36) wn_MO_treaty_94 (by decide +kernel))
theorem d_MO_treaty_132 : decode b_MO_treaty 132 = .ok (.imul, 1) := dc_104 (q0_win (r := 38) wn_MO_treaty_94 (by decide +kernel))
theorem d_MO_treaty_133 : decode b_MO_treaty 133 = .ok (.iload 7, 2) := dc_21 (qU1_win (r := 39) wn_MO_treaty_94 (by decide +kernel))
theorem d_MO_treaty_135 : decode b_MO_treaty 135 = .ok (.iadd, 1) := dc_96 (q0_win (r := 41) wn_MO_treaty_94 (by decide +kernel))
theorem d_MO_treaty_136 : decode b_MO_treaty 136 = .ok (.iaload, 1) := dc_46 (q0_win (r := 42) wn_MO_treaty_94 (by decide +kernel))
theorem d_MO_treaty_137 : decode b_MO_treaty 137 = .ok (.iadd, 1) := dc_96 (q0_win (r := 43) wn_MO_treaty_94 (by decide +kernel))
theorem d_MO_treaty_138 : decode b_MO_treaty 138 = .ok (.istore 6, 2) := dc_54 (qU1_win (r := 44) wn_MO_treaty_94 (by decide +kernel))
theorem d_MO_treaty_140 : decode b_MO_treaty 140 = .ok (.iinc 7 1, 3) := dc_132 (qI_win (r := 46) wn_MO_treaty_94 (by decide +kernel))
theorem d_MO_treaty_143 : decode b_MO_treaty 143 = .ok (.goto (-63), 3) := dc_167 (qS2_win (r := 49) wn_MO_treaty_94 (by decide +kernel))
theorem d_MO_treaty_146 : decode b_MO_treaty 146 = .ok (.iload 5, 2) := dc_21 (qU1_win (r := 52) wn_MO_treaty_94 (by decide +kernel))
theorem d_MO_treaty_148 : decode b_MO_treaty 148 = .ok (.ifCond .eq 23, 3) := dc_153 (qS2_win (r := 54) wn_MO_treaty_94 (by decide +kernel))
theorem d_MO_treaty_151 : decode b_MO_treaty 151 = .ok (.iload_n 2, 1) := dc_28 (q0_win (r := 57) wn_MO_treaty_94 (by decide +kernel))
theorem d_MO_treaty_152 : decode b_MO_treaty 152 = .ok (.iconst (-1), 1) := dc_2 (q0_win (r := 58) wn_MO_treaty_94 (by decide +kernel))
theorem d_MO_treaty_153 : decode b_MO_treaty 153 = .ok (.if_icmp .eq 12, 3) := dc_159 (qS2_win (r := 59) wn_MO_treaty_94 (by decide +kernel))
theorem d_MO_treaty_156 : decode b_MO_treaty 156 = .ok (.iload 6, 2) := dc_21 (qU1_win (r := 62) wn_MO_treaty_94 (by decide +kernel))
theorem d_MO_treaty_158 : decode b_MO_treaty 158 = .ok (.iload_n 3, 1) := dc_29 (q0_win (r := 64) wn_MO_treaty_94 (by decide +kernel))
theorem d_MO_treaty_159 : decode b_MO_treaty 159 = .ok (.if_icmp .gt 6, 3) := dc_163 (qS2_win (r := 65) wn_MO_treaty_94 (by decide +kernel))
theorem d_MO_treaty_162 : decode b_MO_treaty 162 = .ok (.goto 9, 3) := dc_167 (qS2_win (r := 68) wn_MO_treaty_94 (by decide +kernel))
theorem d_MO_treaty_165 : decode b_MO_treaty 165 = .ok (.iload 4, 2) := dc_21 (qU1_win (r := 71) wn_MO_treaty_94 (by decide +kernel))
theorem d_MO_treaty_167 : decode b_MO_treaty 167 = .ok (.istore_n 2, 1) := dc_61 (q0_win (r := 73) wn_MO_treaty_94 (by decide +kernel))
theorem d_MO_treaty_168 : decode b_MO_treaty 168 = .ok (.iload 6, 2) := dc_21 (qU1_win (r := 74) wn_MO_treaty_94 (by decide +kernel))
theorem d_MO_treaty_170 : decode b_MO_treaty 170 = .ok (.istore_n 3, 1) := dc_62 (q0_win (r := 76) wn_MO_treaty_94 (by decide +kernel))
theorem d_MO_treaty_171 : decode b_MO_treaty 171 = .ok (.iinc 4 1, 3) := dc_132 (qI_win (r := 77) wn_MO_treaty_94 (by decide +kernel))
theorem d_MO_treaty_174 : decode b_MO_treaty 174 = .ok (.goto (-117), 3) := dc_167 (qS2_win (r := 80) wn_MO_treaty_94 (by decide +kernel))
theorem d_MO_treaty_177 : decode b_MO_treaty 177 = .ok (.iload_n 2, 1) := dc_28 (q0_win (r := 83) wn_MO_treaty_94 (by decide +kernel))
theorem d_MO_treaty_178 : decode b_MO_treaty 178 = .ok (.iconst (-1), 1) := dc_2 (q0_win (r := 84) wn_MO_treaty_94 (by decide +kernel))
theorem d_MO_treaty_179 : decode b_MO_treaty 179 = .ok (.if_icmp .ne 8, 3) := dc_160 (qS2_win (r := 85) wn_MO_treaty_94 (by decide +kernel))
theorem d_MO_treaty_182 : decode b_MO_treaty 182 = .ok (.bipush (-2), 2) := dc_16 (qS1_win (r := 88) wn_MO_treaty_94 (by decide +kernel))
theorem d_MO_treaty_184 : decode b_MO_treaty 184 = .ok (.goto 12, 3) := dc_167 (qS2_win (r := 90) wn_MO_treaty_94 (by decide +kernel))
theorem d_MO_treaty_187 : decode b_MO_treaty 187 = .ok (.iload_n 1, 1) := dc_27 (q0_win (r := 93) wn_MO_treaty_94 (by decide +kernel))
theorem wn_MO_treaty_188 : ∀ i, i < 9 → bA b_MO_treaty (188 + i) = wB [154, 0, 7, 29, 167, 0, 4, 28, 172] i := wB_of (by decide +kernel)
theorem d_MO_treaty_188 : decode b_MO_treaty 188 = .ok (.ifCond .ne 7, 3) := dc_154 (qS2_win (r := 0) wn_MO_treaty_188 (by decide +kernel))
theorem d_MO_treaty_191 : decode b_MO_treaty 191 = .ok (.iload_n 3, 1) := dc_29 (q0_win (r := 3) wn_MO_treaty_188 (by decide +kernel))
theorem d_MO_treaty_192 : decode b_MO_treaty 192 = .ok (.goto 4, 3) := dc_167 (qS2_win (r := 4) wn_MO_treaty_188 (by decide +kernel))
theorem d_MO_treaty_195 : decode b_MO_treaty 195 = .ok (.iload_n 2, 1) := dc_28 (q0_win (r := 7) wn_MO_treaty_188 (by decide +kernel))
theorem d_MO_treaty_196 : decode b_MO_treaty 196 = .ok (.ireturn, 1) := dc_172 (q0_win (r := 8) wn_MO_treaty_188 (by decide +kernel))
def t_MO_treaty_L120 (x1 : Int) (bk57 : Mem → Int → Int → Int → Option (Mem × Int)) (bk80 : Mem → Int → Int → Int → Int → Int → Int → Option (Mem × Int)) (M : Mem) (v2_ : Int) (v3_ : Int) (v4_ : Int) (v5_ : Int) (v6_ : Int) (v7_ : Int) (v8_ : Int) : Option (Mem × Int) := (qguard (0 ≤ (w32 ((w32 (4 * v4_)) + v6_)) ∧ (w32 ((w32 (4 * v4_)) + v6_)) < 1024) (bk80 M v2_ v3_ v4_ (q_and v7_ v8_) (w32 (v5_ + (M.1 224 (w32 ((w32 (4 * v4_)) + v6_))))) (w32 (v6_ + 1))))
def t_MO_treaty_L171 (x1 : Int) (bk57 : Mem → Int → Int → Int → Option (Mem × Int)) (M : Mem) (v2_ : Int) (v3_ : Int) (v4_ : Int) : Option (Mem × Int) := (bk57 M v2_ v3_ (w32 (v4_ + 1)))
def t_MO_treaty_L165 (x1 : Int) (bk57 : Mem → Int → Int → Int → Option (Mem × Int)) (M : Mem) (v2_ : Int) (v3_ : Int) : Option (Mem × Int) := (t_MO_treaty_L171 x1 bk57 M v2_ v3_ v2_)
def t_MO_treaty_L80 (x1 : Int) (bk57 : Mem → Int → Int → Int → Option (Mem × Int)) : Nat → Mem → Int → Int → Int → Int → Int → Int → Option (Mem × Int)
  | 0, _, _, _, _, _, _, _ => none
  | fu + 1, M, v2_, v3_, v4_, v5_, v6_, v7_ => (if (M.1 193 2) ≤ v7_ then (if v5_ = 0 then (t_MO_treaty_L171 x1 bk57 M v2_ v3_ v4_) else (if v2_ = (-1) then (t_MO_treaty_L165 x1 bk57 M v4_ v6_) else (if v3_ < v6_ then (t_MO_treaty_L165 x1 bk57 M v4_ v6_) else (t_MO_treaty_L171 x1 bk57 M v2_ v3_ v4_)))) else (qguard (0 ≤ (w32 ((w32 (4 * v4_)) + v7_)) ∧ (w32 ((w32 (4 * v4_)) + v7_)) < 1024) (qguard (0 ≤ v7_ ∧ v7_ < 4) (if (M.1 224 (w32 ((w32 (4 * v4_)) + v7_))) < (M.1 225 v7_) then (t_MO_treaty_L120 x1 bk57 (fun a0_ a1_ a2_ a3_ a4_ a5_ a6_ => t_MO_treaty_L80 x1 bk57 fu a0_ a1_ a2_ a3_ a4_ a5_ a6_) M v2_ v3_ v4_ v6_ v7_ v5_ 0) else (t_MO_treaty_L120 x1 bk57 (fun a0_ a1_ a2_ a3_ a4_ a5_ a6_ => t_MO_treaty_L80 x1 bk57 fu a0_ a1_ a2_ a3_ a4_ a5_ a6_) M v2_ v3_ v4_ v6_ v7_ v5_ 1)))))
def t_MO_treaty_L57 (x1 : Int)  : Nat → Mem → Int → Int → Int → Option (Mem × Int)
  | 0, _, _, _, _ => none
  | fu + 1, M, v2_, v3_, v4_ => (qlet (t_MO_votes M) fun q12 => (if q12 ≤ v4_ then (if v2_ = (-1) then (some (M, (-2))) else (if x1 = 0 then (some (M, v3_)) else (some (M, v2_)))) else (obind (t_MO_isStay M v4_) fun q17 => (t_MO_treaty_L80 x1 (fun a0_ a1_ a2_ a3_ => t_MO_treaty_L57 x1 fu a0_ a1_ a2_ a3_) FU M v2_ v3_ v4_ q17 0 0))))
def t_MO_treaty_L18 (x1 : Int)  : Nat → Mem → Int → Option (Mem × Int)
  | 0, _, _ => none
  | fu + 1, M, v2_ => (if (M.1 193 2) ≤ v2_ then (obind (t_MO_layJoys M) fun q6 => (t_MO_treaty_L57 x1 FU q6 (-1) 0 0)) else (obind (t_MO_joyOf M 0 v2_) fun q8 => (qguard (0 ≤ v2_ ∧ v2_ < 4) (qlet (setI (q8.1) 225 v2_ (q8.2)) fun M11 => (t_MO_treaty_L18 x1 fu M11 (w32 (v2_ + 1)))))))
def t_MO_treaty (M : Mem) (x1 : Int) : Option (Mem × Int) := (qlet (setI M 191 0 0) fun M1 => (if x1 < 0 then (some (M1, (-1))) else (if x1 ≤ 1 then (t_MO_treaty_L18 x1 FU M1 0) else (some (M1, (-1))))))
set_option maxHeartbeats 4000000 in
set_option maxRecDepth 100000 in
theorem k_MO_treaty_L120 (l : Launch) {p : Program} {e : Env} {s : State} {m : MethodId} {below : List Frame} {meth : Method} {c : Code} {b n : Nat} {C : CT} (hlo : 231 ≤ n) (x1 : Int) (hx1 : InR x1) (F : Cx b p m c b_MO_treaty 8 s ([.ref (b + 191), vI x1] : List Value).toArray "WardFallsModel" C n 231) (hlk : meth.locks = false) (hr : meth.sig.returnType = some .int) {res : Mem × Int} (bk57 : Mem → Int → Int → Int → Option (Mem × Int)) (hbk57 : ∀ (M : Mem) (v2_ : Int) (hv2_ : InR v2_) (v3_ : Int) (hv3_ : InR v3_) (v4_ : Int) (hv4_ : InR v4_) (H : Heap) (locs : List Loc) (ls : Array Slot), St b C n M s H locs → lv_has ls 8 [(0, .ref (b + 191)), (1, vI x1), (2, vI v2_), (3, vI v3_), (4, vI v4_)] → bk57 M v2_ v3_ v4_ = some res → W p l e (headSpec (wsM y_MO_treaty b_MO_treaty 8 (some .int)) (rmD 6)).room s m ([.ref (b + 191), vI x1] : List Value).toArray below meth c H locs 0 0 (MQ below (QI b C n res.1 res.2) ([.ref (b + 191), vI x1] : List Value).toArray s 0 0 (frb b)) (F0 m 57 ls [])) (bk80 : Mem → Int → Int → Int → Int → Int → Int → Option (Mem × Int)) (hbk80 : ∀ (M : Mem) (v2_ : Int) (hv2_ : InR v2_) (v3_ : Int) (hv3_ : InR v3_) (v4_ : Int) (hv4_ : InR v4_) (v5_ : Int) (hv5_ : v5_ = 0 ∨ v5_ = 1) (v6_ : Int) (hv6_ : InR v6_) (v7_ : Int) (hv7_ : InR v7_) (H : Heap) (locs : List Loc) (ls : Array Slot), St b C n M s H locs → lv_has ls 8 [(0, .ref (b + 191)), (1, vI x1), (2, vI v2_), (3, vI v3_), (4, vI v4_), (5, vI v5_), (6, vI v6_), (7, vI v7_)] → bk80 M v2_ v3_ v4_ v5_ v6_ v7_ = some res → W p l e (headSpec (wsM y_MO_treaty b_MO_treaty 8 (some .int)) (rmD 6)).room s m ([.ref (b + 191), vI x1] : List Value).toArray below meth c H locs 0 0 (MQ below (QI b C n res.1 res.2) ([.ref (b + 191), vI x1] : List Value).toArray s 0 0 (frb b)) (F0 m 80 ls [])) (M : Mem) (v2_ : Int) (hv2_ : InR v2_) (v3_ : Int) (hv3_ : InR v3_) (v4_ : Int) (hv4_ : InR v4_) (v5_ : Int) (hv5_ : InR v5_) (v6_ : Int) (hv6_ : InR v6_) (v7_ : Int) (hv7_ : v7_ = 0 ∨ v7_ = 1) (v8_ : Int) (hv8_ : v8_ = 0 ∨ v8_ = 1) (H : Heap) (locs : List Loc) (ls : Array Slot) (hS : St b C n M s H locs) (hl : lv_has ls 8 [(0, .ref (b + 191)), (1, vI x1), (2, vI v2_), (3, vI v3_), (4, vI v4_), (6, vI v5_), (7, vI v6_)]) (hT : t_MO_treaty_L120 x1 bk57 bk80 M v2_ v3_ v4_ v5_ v6_ v7_ v8_ = some res) : W p l e (headSpec (wsM y_MO_treaty b_MO_treaty 8 (some .int)) (rmD 6)).room s m ([.ref (b + 191), vI x1] : List Value).toArray below meth c H locs 0 0 (MQ below (QI b C n res.1 res.2) ([.ref (b + 191), vI x1] : List Value).toArray s 0 0 (frb b)) (F0 m 120 ls [vI v8_, vI v7_]) := by
  unfold t_MO_treaty_L120 at hT
  refine r_iand F.hx F.hb d_MO_treaty_120 ?_
  refine lv_istore (lv' := [(5, vI (q_and v7_ v8_)), (0, .ref (b + 191)), (1, vI x1), (2, vI v2_), (3, vI v3_), (4, vI v4_), (6, vI v5_), (7, vI v6_)]) F.hx F.hb d_MO_treaty_121 hl (Nat.le_of_ble_eq_true rfl) rfl (fun ls hl => ?_)
  refine lv_iload F.hx F.hb d_MO_treaty_123 (lv_at hl 6 rfl) ?_
  refine lv_aload_n F.hx F.hb d_MO_treaty_125 rfl (lv_at hl 1 rfl) ?_
  refine r_get (v := .ref (b + 224)) (N := 68) (T := T1) (j := 58) F hS (show 191 < 231 by decide) (show shK 191 = 5 from rfl) (show shN 191 = 68 from rfl) rfl (Nat.le_of_ble_eq_true rfl) ing1 mw_1447 (fv_sg rfl rfl rfl) d_MO_treaty_126 ?_
  refine r_iconst F.hx F.hb d_MO_treaty_129 ?_
  refine lv_iload F.hx F.hb d_MO_treaty_130 (lv_at hl 5 rfl) ?_
  refine r_imul F.hx F.hb d_MO_treaty_132 ?_
  refine lv_iload F.hx F.hb d_MO_treaty_133 (lv_at hl 7 rfl) ?_
  refine r_iadd F.hx F.hb d_MO_treaty_135 ?_
  obtain ⟨⟨g29a, g29b⟩, hT⟩ := q_guard hT
  refine r_iald F hS (show 224 < 231 by decide) (show shK 224 = 0 from rfl) (show shN 224 = 1024 from rfl) (inr_w32 _) g29a g29b d_MO_treaty_136 ?_
  have i30 := hS.rng 224 (w32 ((w32 (4 * v4_)) + v6_))
  refine r_iadd F.hx F.hb d_MO_treaty_137 ?_
  refine lv_istore (lv' := [(6, vI (w32 (v5_ + (M.1 224 (w32 ((w32 (4 * v4_)) + v6_)))))), (5, vI (q_and v7_ v8_)), (0, .ref (b + 191)), (1, vI x1), (2, vI v2_), (3, vI v3_), (4, vI v4_), (7, vI v6_)]) F.hx F.hb d_MO_treaty_138 hl (Nat.le_of_ble_eq_true rfl) rfl (fun ls hl => ?_)
  refine lv_iinc (v := Int32.ofInt (w32 (v6_ + 1))) (lv' := [(7, vI (w32 (v6_ + 1))), (6, vI (w32 (v5_ + (M.1 224 (w32 ((w32 (4 * v4_)) + v6_)))))), (5, vI (q_and v7_ v8_)), (0, .ref (b + 191)), (1, vI x1), (2, vI v2_), (3, vI v3_), (4, vI v4_)]) F.hx F.hb d_MO_treaty_140 hl (k := 7) rfl (q_of_add _ _) (Nat.le_of_ble_eq_true rfl) rfl (fun ls hl => ?_)
  refine lv_goto (tgt := 80) F.hx F.hb d_MO_treaty_143 (by decide) ?_
  exact hbk80 M v2_ hv2_ v3_ hv3_ v4_ hv4_ (q_and v7_ v8_) (z_and hv7_ hv8_) (w32 (v5_ + (M.1 224 (w32 ((w32 (4 * v4_)) + v6_))))) (inr_w32 _) (w32 (v6_ + 1)) (inr_w32 _) _ _ _ hS (lv_sub hl [3, 4, 5, 6, 7, 2, 1, 0] rfl) hT
set_option maxHeartbeats 4000000 in
set_option maxRecDepth 100000 in
theorem k_MO_treaty_L171 (l : Launch) {p : Program} {e : Env} {s : State} {m : MethodId} {below : List Frame} {meth : Method} {c : Code} {b n : Nat} {C : CT} (hlo : 231 ≤ n) (x1 : Int) (hx1 : InR x1) (F : Cx b p m c b_MO_treaty 8 s ([.ref (b + 191), vI x1] : List Value).toArray "WardFallsModel" C n 231) (hlk : meth.locks = false) (hr : meth.sig.returnType = some .int) {res : Mem × Int} (bk57 : Mem → Int → Int → Int → Option (Mem × Int)) (hbk57 : ∀ (M : Mem) (v2_ : Int) (hv2_ : InR v2_) (v3_ : Int) (hv3_ : InR v3_) (v4_ : Int) (hv4_ : InR v4_) (H : Heap) (locs : List Loc) (ls : Array Slot), St b C n M s H locs → lv_has ls 8 [(0, .ref (b + 191)), (1, vI x1), (2, vI v2_), (3, vI v3_), (4, vI v4_)] → bk57 M v2_ v3_ v4_ = some res → W p l e (headSpec (wsM y_MO_treaty b_MO_treaty 8 (some .int)) (rmD 6)).room s m ([.ref (b + 191), vI x1] : List Value).toArray below meth c H locs 0 0 (MQ below (QI b C n res.1 res.2) ([.ref (b + 191), vI x1] : List Value).toArray s 0 0 (frb b)) (F0 m 57 ls [])) (M : Mem) (v2_ : Int) (hv2_ : InR v2_) (v3_ : Int) (hv3_ : InR v3_) (v4_ : Int) (hv4_ : InR v4_) (H : Heap) (locs : List Loc) (ls : Array Slot) (hS : St b C n M s H locs) (hl : lv_has ls 8 [(0, .ref (b + 191)), (1, vI x1), (2, vI v2_), (3, vI v3_), (4, vI v4_)]) (hT : t_MO_treaty_L171 x1 bk57 M v2_ v3_ v4_ = some res) : W p l e (headSpec (wsM y_MO_treaty b_MO_treaty 8 (some .int)) (rmD 6)).room s m ([.ref (b + 191), vI x1] : List Value).toArray below meth c H locs 0 0 (MQ below (QI b C n res.1 res.2) ([.ref (b + 191), vI x1] : List Value).toArray s 0 0 (frb b)) (F0 m 171 ls []) := by
  unfold t_MO_treaty_L171 at hT
  refine lv_iinc (v := Int32.ofInt (w32 (v4_ + 1))) (lv' := [(4, vI (w32 (v4_ + 1))), (0, .ref (b + 191)), (1, vI x1), (2, vI v2_), (3, vI v3_)]) F.hx F.hb d_MO_treaty_171 hl (k := 4) rfl (q_of_add _ _) (Nat.le_of_ble_eq_true rfl) rfl (fun ls hl => ?_)
  refine lv_goto (tgt := 57) F.hx F.hb d_MO_treaty_174 (by decide) ?_
  exact hbk57 M v2_ hv2_ v3_ hv3_ (w32 (v4_ + 1)) (inr_w32 _) _ _ _ hS (lv_sub hl [1, 2, 3, 4, 0] rfl) hT
set_option maxHeartbeats 4000000 in
set_option maxRecDepth 100000 in
theorem k_MO_treaty_L165 (l : Launch) {p : Program} {e : Env} {s : State} {m : MethodId} {below : List Frame} {meth : Method} {c : Code} {b n : Nat} {C : CT} (hlo : 231 ≤ n) (x1 : Int) (hx1 : InR x1) (F : Cx b p m c b_MO_treaty 8 s ([.ref (b + 191), vI x1] : List Value).toArray "WardFallsModel" C n 231) (hlk : meth.locks = false) (hr : meth.sig.returnType = some .int) {res : Mem × Int} (bk57 : Mem → Int → Int → Int → Option (Mem × Int)) (hbk57 : ∀ (M : Mem) (v2_ : Int) (hv2_ : InR v2_) (v3_ : Int) (hv3_ : InR v3_) (v4_ : Int) (hv4_ : InR v4_) (H : Heap) (locs : List Loc) (ls : Array Slot), St b C n M s H locs → lv_has ls 8 [(0, .ref (b + 191)), (1, vI x1), (2, vI v2_), (3, vI v3_), (4, vI v4_)] → bk57 M v2_ v3_ v4_ = some res → W p l e (headSpec (wsM y_MO_treaty b_MO_treaty 8 (some .int)) (rmD 6)).room s m ([.ref (b + 191), vI x1] : List Value).toArray below meth c H locs 0 0 (MQ below (QI b C n res.1 res.2) ([.ref (b + 191), vI x1] : List Value).toArray s 0 0 (frb b)) (F0 m 57 ls [])) (M : Mem) (v2_ : Int) (hv2_ : InR v2_) (v3_ : Int) (hv3_ : InR v3_) (H : Heap) (locs : List Loc) (ls : Array Slot) (hS : St b C n M s H locs) (hl : lv_has ls 8 [(0, .ref (b + 191)), (1, vI x1), (4, vI v2_), (6, vI v3_)]) (hT : t_MO_treaty_L165 x1 bk57 M v2_ v3_ = some res) : W p l e (headSpec (wsM y_MO_treaty b_MO_treaty 8 (some .int)) (rmD 6)).room s m ([.ref (b + 191), vI x1] : List Value).toArray below meth c H locs 0 0 (MQ below (QI b C n res.1 res.2) ([.ref (b + 191), vI x1] : List Value).toArray s 0 0 (frb b)) (F0 m 165 ls []) := by
  unfold t_MO_treaty_L165 at hT
  refine lv_iload F.hx F.hb d_MO_treaty_165 (lv_at hl 2 rfl) ?_
  refine lv_istore_n (lv' := [(2, vI v2_), (0, .ref (b + 191)), (1, vI x1), (4, vI v2_), (6, vI v3_)]) F.hx F.hb d_MO_treaty_167 rfl hl (Nat.le_of_ble_eq_true rfl) rfl (fun ls hl => ?_)
  refine lv_iload F.hx F.hb d_MO_treaty_168 (lv_at hl 4 rfl) ?_
  refine lv_istore_n (lv' := [(3, vI v3_), (2, vI v2_), (0, .ref (b + 191)), (1, vI x1), (4, vI v2_), (6, vI v3_)]) F.hx F.hb d_MO_treaty_170 rfl hl (Nat.le_of_ble_eq_true rfl) rfl (fun ls hl => ?_)
  exact k_MO_treaty_L171 l hlo x1 hx1 F hlk hr bk57 hbk57 M v2_ hv2_ v3_ hv3_ v2_ hv2_ _ _ _ hS (lv_sub hl [2, 3, 1, 0, 4] rfl) hT
set_option maxHeartbeats 4000000 in
set_option maxRecDepth 100000 in
theorem k_MO_treaty_L80 (l : Launch) {p : Program} {e : Env} {s : State} {m : MethodId} {below : List Frame} {meth : Method} {c : Code} {b n : Nat} {C : CT} (hlo : 231 ≤ n) (x1 : Int) (hx1 : InR x1) (F : Cx b p m c b_MO_treaty 8 s ([.ref (b + 191), vI x1] : List Value).toArray "WardFallsModel" C n 231) (hlk : meth.locks = false) (hr : meth.sig.returnType = some .int) {res : Mem × Int} (bk57 : Mem → Int → Int → Int → Option (Mem × Int)) (hbk57 : ∀ (M : Mem) (v2_ : Int) (hv2_ : InR v2_) (v3_ : Int) (hv3_ : InR v3_) (v4_ : Int) (hv4_ : InR v4_) (H : Heap) (locs : List Loc) (ls : Array Slot), St b C n M s H locs → lv_has ls 8 [(0, .ref (b + 191)), (1, vI x1), (2, vI v2_), (3, vI v3_), (4, vI v4_)] → bk57 M v2_ v3_ v4_ = some res → W p l e (headSpec (wsM y_MO_treaty b_MO_treaty 8 (some .int)) (rmD 6)).room s m ([.ref (b + 191), vI x1] : List Value).toArray below meth c H locs 0 0 (MQ below (QI b C n res.1 res.2) ([.ref (b + 191), vI x1] : List Value).toArray s 0 0 (frb b)) (F0 m 57 ls [])) : ∀ (fu : Nat) (M : Mem) (v2_ : Int) (hv2_ : InR v2_) (v3_ : Int) (hv3_ : InR v3_) (v4_ : Int) (hv4_ : InR v4_) (v5_ : Int) (hv5_ : v5_ = 0 ∨ v5_ = 1) (v6_ : Int) (hv6_ : InR v6_) (v7_ : Int) (hv7_ : InR v7_) (H : Heap) (locs : List Loc) (ls : Array Slot), St b C n M s H locs → lv_has ls 8 [(0, .ref (b + 191)), (1, vI x1), (2, vI v2_), (3, vI v3_), (4, vI v4_), (5, vI v5_), (6, vI v6_), (7, vI v7_)] → t_MO_treaty_L80 x1 bk57 fu M v2_ v3_ v4_ v5_ v6_ v7_ = some res → W p l e (headSpec (wsM y_MO_treaty b_MO_treaty 8 (some .int)) (rmD 6)).room s m ([.ref (b + 191), vI x1] : List Value).toArray below meth c H locs 0 0 (MQ below (QI b C n res.1 res.2) ([.ref (b + 191), vI x1] : List Value).toArray s 0 0 (frb b)) (F0 m 80 ls []) := by
  intro fu
  induction fu with
  | zero => intro M v2_ hv2_ v3_ hv3_ v4_ hv4_ v5_ hv5_ v6_ hv6_ v7_ hv7_ H locs ls hS hl hT; exact absurd hT (by simp [t_MO_treaty_L80])
  | succ fu ih =>
    intro M v2_ hv2_ v3_ hv3_ v4_ hv4_ v5_ hv5_ v6_ hv6_ v7_ hv7_ H locs ls hS hl hT
    rw [t_MO_treaty_L80] at hT
    refine lv_iload F.hx F.hb d_MO_treaty_80 (lv_at hl 7 rfl) ?_
    refine lv_aload_n F.hx F.hb d_MO_treaty_82 rfl (lv_at hl 0 rfl) ?_
    refine r_get (v := .ref (b + 193)) (N := 68) (T := T1) (j := 3) F hS (show 191 < 231 by decide) (show shK 191 = 5 from rfl) (show shN 191 = 68 from rfl) rfl (Nat.le_of_ble_eq_true rfl) ing1 mw_1392 (fv_sg rfl rfl rfl) d_MO_treaty_83 ?_
    refine r_iconst F.hx F.hb d_MO_treaty_86 ?_
    refine r_iald F hS (show 193 < 231 by decide) (show shK 193 = 0 from rfl) (show shN 193 = 18 from rfl) (inr_c rfl) (by omega) (by omega) d_MO_treaty_87 ?_
    have i19 := hS.rng 193 2
    refine r_icmp_ge (tgt := 146) F.hx F.hb hv7_ i19 d_MO_treaty_88 (by decide) (fun c20 => ?_) (fun c20 => ?_)
    · replace hT := (if_pos c20).symm.trans hT
      refine lv_iload F.hx F.hb d_MO_treaty_146 (lv_at hl 5 rfl) ?_
      refine r_if_eq (tgt := 171) F.hx F.hb (inr_z hv5_) d_MO_treaty_148 (by decide) (fun c21 => ?_) (fun c21 => ?_)
      · replace hT := (if_pos c21).symm.trans hT
        exact k_MO_treaty_L171 l hlo x1 hx1 F hlk hr bk57 hbk57 M v2_ hv2_ v3_ hv3_ v4_ hv4_ _ _ _ hS (lv_sub hl [0, 1, 2, 3, 4] rfl) hT
      · replace hT := (if_neg c21).symm.trans hT
        refine lv_iload_n F.hx F.hb d_MO_treaty_151 rfl (lv_at hl 2 rfl) ?_
        refine r_iconst F.hx F.hb d_MO_treaty_152 ?_
        refine r_icmp_eq (tgt := 165) F.hx F.hb hv2_ (inr_c rfl) d_MO_treaty_153 (by decide) (fun c22 => ?_) (fun c22 => ?_)
        · replace hT := (if_pos c22).symm.trans hT
          exact k_MO_treaty_L165 l hlo x1 hx1 F hlk hr bk57 hbk57 M v4_ hv4_ v6_ hv6_ _ _ _ hS (lv_sub hl [0, 1, 4, 6] rfl) hT
        · replace hT := (if_neg c22).symm.trans hT
          refine lv_iload F.hx F.hb d_MO_treaty_156 (lv_at hl 6 rfl) ?_
          refine lv_iload_n F.hx F.hb d_MO_treaty_158 rfl (lv_at hl 3 rfl) ?_
          refine r_icmp_gt (tgt := 165) F.hx F.hb hv6_ hv3_ d_MO_treaty_159 (by decide) (fun c23 => ?_) (fun c23 => ?_)
          · replace hT := (if_pos c23).symm.trans hT
            exact k_MO_treaty_L165 l hlo x1 hx1 F hlk hr bk57 hbk57 M v4_ hv4_ v6_ hv6_ _ _ _ hS (lv_sub hl [0, 1, 4, 6] rfl) hT
          · replace hT := (if_neg c23).symm.trans hT
            refine lv_goto (tgt := 171) F.hx F.hb d_MO_treaty_162 (by decide) ?_
            exact k_MO_treaty_L171 l hlo x1 hx1 F hlk hr bk57 hbk57 M v2_ hv2_ v3_ hv3_ v4_ hv4_ _ _ _ hS (lv_sub hl [0, 1, 2, 3, 4] rfl) hT
    · replace hT := (if_neg c20).symm.trans hT
      refine lv_iload F.hx F.hb d_MO_treaty_91 (lv_at hl 5 rfl) ?_
      refine lv_aload_n F.hx F.hb d_MO_treaty_93 rfl (lv_at hl 0 rfl) ?_
      refine r_get (v := .ref (b + 224)) (N := 68) (T := T1) (j := 58) F hS (show 191 < 231 by decide) (show shK 191 = 5 from rfl) (show shN 191 = 68 from rfl) rfl (Nat.le_of_ble_eq_true rfl) ing1 mw_1447 (fv_sg rfl rfl rfl) d_MO_treaty_94 ?_
      refine r_iconst F.hx F.hb d_MO_treaty_97 ?_
      refine lv_iload F.hx F.hb d_MO_treaty_98 (lv_at hl 4 rfl) ?_
      refine r_imul F.hx F.hb d_MO_treaty_100 ?_
      refine lv_iload F.hx F.hb d_MO_treaty_101 (lv_at hl 7 rfl) ?_
      refine r_iadd F.hx F.hb d_MO_treaty_103 ?_
      obtain ⟨⟨g24a, g24b⟩, hT⟩ := q_guard hT
      refine r_iald F hS (show 224 < 231 by decide) (show shK 224 = 0 from rfl) (show shN 224 = 1024 from rfl) (inr_w32 _) g24a g24b d_MO_treaty_104 ?_
      have i25 := hS.rng 224 (w32 ((w32 (4 * v4_)) + v7_))
      refine lv_aload_n F.hx F.hb d_MO_treaty_105 rfl (lv_at hl 0 rfl) ?_
      refine r_get (v := .ref (b + 225)) (N := 68) (T := T1) (j := 59) F hS (show 191 < 231 by decide) (show shK 191 = 5 from rfl) (show shN 191 = 68 from rfl) rfl (Nat.le_of_ble_eq_true rfl) ing1 mw_1448 (fv_sg rfl rfl rfl) d_MO_treaty_106 ?_
      refine lv_iload F.hx F.hb d_MO_treaty_109 (lv_at hl 7 rfl) ?_
      obtain ⟨⟨g26a, g26b⟩, hT⟩ := q_guard hT
      refine r_iald F hS (show 225 < 231 by decide) (show shK 225 = 0 from rfl) (show shN 225 = 4 from rfl) hv7_ g26a g26b d_MO_treaty_111 ?_
      have i27 := hS.rng 225 v7_
      refine r_icmp_lt (tgt := 119) F.hx F.hb i25 i27 d_MO_treaty_112 (by decide) (fun c28 => ?_) (fun c28 => ?_)
      · replace hT := (if_pos c28).symm.trans hT
        refine r_iconst F.hx F.hb d_MO_treaty_119 ?_
        exact k_MO_treaty_L120 l hlo x1 hx1 F hlk hr bk57 hbk57 (fun a0_ a1_ a2_ a3_ a4_ a5_ a6_ => t_MO_treaty_L80 x1 bk57 fu a0_ a1_ a2_ a3_ a4_ a5_ a6_) ih M v2_ hv2_ v3_ hv3_ v4_ hv4_ v6_ hv6_ v7_ hv7_ v5_ hv5_ 0 (Or.inl rfl) _ _ _ hS (lv_sub hl [0, 1, 2, 3, 4, 6, 7] rfl) hT
      · replace hT := (if_neg c28).symm.trans hT
        refine r_iconst F.hx F.hb d_MO_treaty_115 ?_
        refine lv_goto (tgt := 120) F.hx F.hb d_MO_treaty_116 (by decide) ?_
        exact k_MO_treaty_L120 l hlo x1 hx1 F hlk hr bk57 hbk57 (fun a0_ a1_ a2_ a3_ a4_ a5_ a6_ => t_MO_treaty_L80 x1 bk57 fu a0_ a1_ a2_ a3_ a4_ a5_ a6_) ih M v2_ hv2_ v3_ hv3_ v4_ hv4_ v6_ hv6_ v7_ hv7_ v5_ hv5_ 1 (Or.inr rfl) _ _ _ hS (lv_sub hl [0, 1, 2, 3, 4, 6, 7] rfl) hT
set_option maxHeartbeats 4000000 in
set_option maxRecDepth 100000 in
theorem k_MO_treaty_L57 (l : Launch) {p : Program} {e : Env} {s : State} {m : MethodId} {below : List Frame} {meth : Method} {c : Code} {b n : Nat} {C : CT} (hlo : 231 ≤ n) (x1 : Int) (hx1 : InR x1) (F : Cx b p m c b_MO_treaty 8 s ([.ref (b + 191), vI x1] : List Value).toArray "WardFallsModel" C n 231) (hlk : meth.locks = false) (hr : meth.sig.returnType = some .int) {res : Mem × Int} : ∀ (fu : Nat) (M : Mem) (v2_ : Int) (hv2_ : InR v2_) (v3_ : Int) (hv3_ : InR v3_) (v4_ : Int) (hv4_ : InR v4_) (H : Heap) (locs : List Loc) (ls : Array Slot), St b C n M s H locs → lv_has ls 8 [(0, .ref (b + 191)), (1, vI x1), (2, vI v2_), (3, vI v3_), (4, vI v4_)] → t_MO_treaty_L57 x1 fu M v2_ v3_ v4_ = some res → W p l e (headSpec (wsM y_MO_treaty b_MO_treaty 8 (some .int)) (rmD 6)).room s m ([.ref (b + 191), vI x1] : List Value).toArray below meth c H locs 0 0 (MQ below (QI b C n res.1 res.2) ([.ref (b + 191), vI x1] : List Value).toArray s 0 0 (frb b)) (F0 m 57 ls []) := by
  intro fu
  induction fu with
  | zero => intro M v2_ hv2_ v3_ hv3_ v4_ hv4_ H locs ls hS hl hT; exact absurd hT (by simp [t_MO_treaty_L57])
  | succ fu ih =>
    intro M v2_ hv2_ v3_ hv3_ v4_ hv4_ H locs ls hS hl hT
    rw [t_MO_treaty_L57] at hT
    refine lv_iload F.hx F.hb d_MO_treaty_57 (lv_at hl 4 rfl) ?_
    refine lv_aload_n F.hx F.hb d_MO_treaty_59 rfl (lv_at hl 0 rfl) ?_
    obtain ⟨q12, hq12⟩ : ∃ q, q = (t_MO_votes M) := ⟨_, rfl⟩
    replace hT := qlet_eq hT hq12
    refine r_backI F hS (r_runV (k := 191) (N := 68) (T := T1) (As := []) F hS (show 191 < 231 by decide) (show shK 191 = 5 from rfl) rfl (c_MO_votes l F.2.2.1 M _ hq12.symm) gs_MO_483 hd_MO_votes ⟨Nat.le_of_ble_eq_true rfl, Nat.le_of_ble_eq_true rfl⟩ rfl hl.1 (Nat.le_of_ble_eq_true rfl) ⟨Nat.zero_le _, Nat.zero_le _⟩ rfl d_MO_treaty_60) (fun H locs hS h13 => ?_)
    refine r_icmp_ge (tgt := 177) F.hx F.hb hv4_ h13 d_MO_treaty_63 (by decide) (fun c14 => ?_) (fun c14 => ?_)
    · replace hT := (if_pos c14).symm.trans hT
      refine lv_iload_n F.hx F.hb d_MO_treaty_177 rfl (lv_at hl 2 rfl) ?_
      refine r_iconst F.hx F.hb d_MO_treaty_178 ?_
      refine r_icmp_ne (tgt := 187) F.hx F.hb hv2_ (inr_c rfl) d_MO_treaty_179 (by decide) (fun c15 => ?_) (fun c15 => ?_)
      · replace hT := (if_neg c15).symm.trans hT
        refine lv_iload_n F.hx F.hb d_MO_treaty_187 rfl (lv_at hl 1 rfl) ?_
        refine r_if_ne (tgt := 195) F.hx F.hb hx1 d_MO_treaty_188 (by decide) (fun c16 => ?_) (fun c16 => ?_)
        · replace hT := (if_neg c16).symm.trans hT
          refine lv_iload_n F.hx F.hb d_MO_treaty_195 rfl (lv_at hl 2 rfl) ?_
          cases hT
          exact r_iret F hlk hr rfl hS hv2_ d_MO_treaty_196
        · replace hT := (if_pos c16).symm.trans hT
          refine lv_iload_n F.hx F.hb d_MO_treaty_191 rfl (lv_at hl 3 rfl) ?_
          refine lv_goto (tgt := 196) F.hx F.hb d_MO_treaty_192 (by decide) ?_
          cases hT
          exact r_iret F hlk hr rfl hS hv3_ d_MO_treaty_196
      · replace hT := (if_pos c15).symm.trans hT
        refine r_bipush F.hx F.hb d_MO_treaty_182 rfl ?_
        refine lv_goto (tgt := 196) F.hx F.hb d_MO_treaty_184 (by decide) ?_
        cases hT
        exact r_iret F hlk hr rfl hS (inr_c rfl) d_MO_treaty_196
    · replace hT := (if_neg c14).symm.trans hT
      refine lv_aload_n F.hx F.hb d_MO_treaty_66 rfl (lv_at hl 0 rfl) ?_
      refine lv_iload F.hx F.hb d_MO_treaty_67 (lv_at hl 4 rfl) ?_
      obtain ⟨q17, hq17, hT⟩ := q_obind hT
      refine r_backZ F hS (r_runV (k := 191) (N := 68) (T := T1) (As := [vI v4_]) F hS (show 191 < 231 by decide) (show shK 191 = 5 from rfl) rfl (c_MO_isStay l F.2.2.1 M v4_ hv4_ _ hq17) gs_MO_492 hd_MO_isStay ⟨Nat.le_of_ble_eq_true rfl, Nat.le_of_ble_eq_true rfl⟩ rfl hl.1 (Nat.le_of_ble_eq_true rfl) ⟨Nat.zero_le _, Nat.zero_le _⟩ rfl d_MO_treaty_69) (fun H locs hS h18 => ?_)
      refine lv_istore (lv' := [(5, vI q17), (0, .ref (b + 191)), (1, vI x1), (2, vI v2_), (3, vI v3_), (4, vI v4_)]) F.hx F.hb d_MO_treaty_72 hl (Nat.le_of_ble_eq_true rfl) rfl (fun ls hl => ?_)
      refine r_iconst F.hx F.hb d_MO_treaty_74 ?_
      refine lv_istore (lv' := [(6, vI 0), (5, vI q17), (0, .ref (b + 191)), (1, vI x1), (2, vI v2_), (3, vI v3_), (4, vI v4_)]) F.hx F.hb d_MO_treaty_75 hl (Nat.le_of_ble_eq_true rfl) rfl (fun ls hl => ?_)
      refine r_iconst F.hx F.hb d_MO_treaty_77 ?_
      refine lv_istore (lv' := [(7, vI 0), (6, vI 0), (5, vI q17), (0, .ref (b + 191)), (1, vI x1), (2, vI v2_), (3, vI v3_), (4, vI v4_)]) F.hx F.hb d_MO_treaty_78 hl (Nat.le_of_ble_eq_true rfl) rfl (fun ls hl => ?_)
      exact k_MO_treaty_L80 l hlo x1 hx1 F hlk hr (fun a0_ a1_ a2_ a3_ => t_MO_treaty_L57 x1 fu a0_ a1_ a2_ a3_) ih FU M v2_ hv2_ v3_ hv3_ v4_ hv4_ q17 h18 0 (inr_c rfl) 0 (inr_c rfl) _ _ _ hS (lv_sub hl [3, 4, 5, 6, 7, 2, 1, 0] rfl) hT
set_option maxHeartbeats 4000000 in
set_option maxRecDepth 100000 in
theorem k_MO_treaty_L18 (l : Launch) {p : Program} {e : Env} {s : State} {m : MethodId} {below : List Frame} {meth : Method} {c : Code} {b n : Nat} {C : CT} (hlo : 231 ≤ n) (x1 : Int) (hx1 : InR x1) (F : Cx b p m c b_MO_treaty 8 s ([.ref (b + 191), vI x1] : List Value).toArray "WardFallsModel" C n 231) (hlk : meth.locks = false) (hr : meth.sig.returnType = some .int) {res : Mem × Int} : ∀ (fu : Nat) (M : Mem) (v2_ : Int) (hv2_ : InR v2_) (H : Heap) (locs : List Loc) (ls : Array Slot), St b C n M s H locs → lv_has ls 8 [(0, .ref (b + 191)), (1, vI x1), (2, vI v2_)] → t_MO_treaty_L18 x1 fu M v2_ = some res → W p l e (headSpec (wsM y_MO_treaty b_MO_treaty 8 (some .int)) (rmD 6)).room s m ([.ref (b + 191), vI x1] : List Value).toArray below meth c H locs 0 0 (MQ below (QI b C n res.1 res.2) ([.ref (b + 191), vI x1] : List Value).toArray s 0 0 (frb b)) (F0 m 18 ls []) := by
  intro fu
  induction fu with
  | zero => intro M v2_ hv2_ H locs ls hS hl hT; exact absurd hT (by simp [t_MO_treaty_L18])
  | succ fu ih =>
    intro M v2_ hv2_ H locs ls hS hl hT
    rw [t_MO_treaty_L18] at hT
    refine lv_iload_n F.hx F.hb d_MO_treaty_18 rfl (lv_at hl 2 rfl) ?_
    refine lv_aload_n F.hx F.hb d_MO_treaty_19 rfl (lv_at hl 0 rfl) ?_
    refine r_get (v := .ref (b + 193)) (N := 68) (T := T1) (j := 3) F hS (show 191 < 231 by decide) (show shK 191 = 5 from rfl) (show shN 191 = 68 from rfl) rfl (Nat.le_of_ble_eq_true rfl) ing1 mw_1392 (fv_sg rfl rfl rfl) d_MO_treaty_20 ?_
    refine r_iconst F.hx F.hb d_MO_treaty_23 ?_
    refine r_iald F hS (show 193 < 231 by decide) (show shK 193 = 0 from rfl) (show shN 193 = 18 from rfl) (inr_c rfl) (by omega) (by omega) d_MO_treaty_24 ?_
    have i4 := hS.rng 193 2
    refine r_icmp_ge (tgt := 46) F.hx F.hb hv2_ i4 d_MO_treaty_25 (by decide) (fun c5 => ?_) (fun c5 => ?_)
    · replace hT := (if_pos c5).symm.trans hT
      refine lv_aload_n F.hx F.hb d_MO_treaty_46 rfl (lv_at hl 0 rfl) ?_
      obtain ⟨q6, hq6, hT⟩ := q_obind hT
      refine r_backV F hS (r_runV (k := 191) (N := 68) (T := T1) (As := []) F hS (show 191 < 231 by decide) (show shK 191 = 5 from rfl) rfl (c_MO_layJoys l F.2.2.1 M _ hq6) gs_MO_489 hd_MO_layJoys ⟨Nat.le_of_ble_eq_true rfl, Nat.le_of_ble_eq_true rfl⟩ rfl hl.1 (Nat.le_of_ble_eq_true rfl) ⟨Nat.zero_le _, Nat.zero_le _⟩ rfl d_MO_treaty_47) (fun H locs hS => ?_)
      refine r_iconst F.hx F.hb d_MO_treaty_50 ?_
      refine lv_istore_n (lv' := [(2, vI (-1)), (0, .ref (b + 191)), (1, vI x1)]) F.hx F.hb d_MO_treaty_51 rfl hl (Nat.le_of_ble_eq_true rfl) rfl (fun ls hl => ?_)
      refine r_iconst F.hx F.hb d_MO_treaty_52 ?_
      refine lv_istore_n (lv' := [(3, vI 0), (2, vI (-1)), (0, .ref (b + 191)), (1, vI x1)]) F.hx F.hb d_MO_treaty_53 rfl hl (Nat.le_of_ble_eq_true rfl) rfl (fun ls hl => ?_)
      refine r_iconst F.hx F.hb d_MO_treaty_54 ?_
      refine lv_istore (lv' := [(4, vI 0), (3, vI 0), (2, vI (-1)), (0, .ref (b + 191)), (1, vI x1)]) F.hx F.hb d_MO_treaty_55 hl (Nat.le_of_ble_eq_true rfl) rfl (fun ls hl => ?_)
      exact k_MO_treaty_L57 l hlo x1 hx1 F hlk hr FU q6 (-1) (inr_c rfl) 0 (inr_c rfl) 0 (inr_c rfl) _ _ _ hS (lv_sub hl [3, 4, 2, 1, 0] rfl) hT
    · replace hT := (if_neg c5).symm.trans hT
      refine lv_aload_n F.hx F.hb d_MO_treaty_28 rfl (lv_at hl 0 rfl) ?_
      refine r_get (v := .ref (b + 225)) (N := 68) (T := T1) (j := 59) F hS (show 191 < 231 by decide) (show shK 191 = 5 from rfl) (show shN 191 = 68 from rfl) rfl (Nat.le_of_ble_eq_true rfl) ing1 mw_1448 (fv_sg rfl rfl rfl) d_MO_treaty_29 ?_
      refine lv_iload_n F.hx F.hb d_MO_treaty_32 rfl (lv_at hl 2 rfl) ?_
      refine lv_aload_n F.hx F.hb d_MO_treaty_33 rfl (lv_at hl 0 rfl) ?_
      refine r_iconst F.hx F.hb d_MO_treaty_34 ?_
      refine lv_iload_n F.hx F.hb d_MO_treaty_35 rfl (lv_at hl 2 rfl) ?_
      obtain ⟨q8, hq8, hT⟩ := q_obind hT
      refine r_backI F hS (r_runV (k := 191) (N := 68) (T := T1) (As := [vI 0, vI v2_]) F hS (show 191 < 231 by decide) (show shK 191 = 5 from rfl) rfl (c_MO_joyOf l F.2.2.1 M 0 v2_ (inr_c rfl) hv2_ _ hq8) gs_MO_375 hd_MO_joyOf ⟨Nat.le_of_ble_eq_true rfl, Nat.le_of_ble_eq_true rfl⟩ rfl hl.1 (Nat.le_of_ble_eq_true rfl) ⟨Nat.zero_le _, Nat.zero_le _⟩ rfl d_MO_treaty_36) (fun H locs hS h9 => ?_)
      obtain ⟨⟨g10a, g10b⟩, hT⟩ := q_guard hT
      refine r_iast F hS (show 225 < 231 by decide) (show shK 225 = 0 from rfl) (show shN 225 = 4 from rfl) hv2_ h9 g10a g10b d_MO_treaty_39 (fun H locs hS => ?_)
      obtain ⟨M11, eM11⟩ : ∃ q, q = (setI (q8.1) 225 v2_ (q8.2)) := ⟨_, rfl⟩
      replace hS : St b C n M11 s H locs := by rw [eM11]; exact hS
      replace hT := qlet_eq hT eM11
      refine lv_iinc (v := Int32.ofInt (w32 (v2_ + 1))) (lv' := [(2, vI (w32 (v2_ + 1))), (0, .ref (b + 191)), (1, vI x1)]) F.hx F.hb d_MO_treaty_40 hl (k := 2) rfl (q_of_add _ _) (Nat.le_of_ble_eq_true rfl) rfl (fun ls hl => ?_)
      refine lv_goto (tgt := 18) F.hx F.hb d_MO_treaty_43 (by decide) ?_
      exact ih M11 (w32 (v2_ + 1)) (inr_w32 _) _ _ _ hS (lv_sub hl [1, 2, 0] rfl) hT
set_option maxHeartbeats 4000000 in
set_option maxRecDepth 100000 in
theorem c_MO_treaty (l : Launch) {b n : Nat} {C : CT} (hlo : 231 ≤ n) (M : Mem) (x1 : Int) (hx1 : InR x1) (res : Mem × Int) (hT : t_MO_treaty M x1 = some res) : CM l b C n 6 y_MO_treaty b_MO_treaty 8 (some .int) [.ref (b + 191), vI x1] M (QI b C n res.1 res.2) := by
  refine CM.of (lo := 231) (ow := "WardFallsModel") (by decide) rfl (Nat.le_of_ble_eq_true rfl) hlo (fun p e s m below meth c F hlk hr hS ls hl => ?_)
  have hl : lv_has ls 8 [(0, .ref (b + 191)), (1, vI x1)] := hl
  unfold t_MO_treaty at hT
  refine lv_aload_n F.hx F.hb d_MO_treaty_0 rfl (lv_at hl 0 rfl) ?_
  refine r_iconst F.hx F.hb d_MO_treaty_1 ?_
  refine r_putI (N := 68) (T := T1) (j := 0) F hS (show 191 < 231 by decide) (show shK 191 = 5 from rfl) (show shN 191 = 68 from rfl) rfl (Nat.le_of_ble_eq_true rfl) ing1 tyok1 nm1 rfl rfl rfl rfl rfl rfl mw_1389 (inr_c rfl) d_MO_treaty_2 (fun H locs hS => ?_)
  obtain ⟨M1, eM1⟩ : ∃ q, q = (setI M 191 0 0) := ⟨_, rfl⟩
  replace hS : St b C n M1 s H locs := by rw [eM1]; exact hS
  replace hT := qlet_eq hT eM1
  refine lv_iload_n F.hx F.hb d_MO_treaty_5 rfl (lv_at hl 1 rfl) ?_
  refine r_if_lt (tgt := 14) F.hx F.hb hx1 d_MO_treaty_6 (by decide) (fun c2 => ?_) (fun c2 => ?_)
  · replace hT := (if_pos c2).symm.trans hT
    refine r_iconst F.hx F.hb d_MO_treaty_14 ?_
    cases hT
    exact r_iret F hlk hr rfl hS (inr_c rfl) d_MO_treaty_15
  · replace hT := (if_neg c2).symm.trans hT
    refine lv_iload_n F.hx F.hb d_MO_treaty_9 rfl (lv_at hl 1 rfl) ?_
    refine r_iconst F.hx F.hb d_MO_treaty_10 ?_
    refine r_icmp_le (tgt := 16) F.hx F.hb hx1 (inr_c rfl) d_MO_treaty_11 (by decide) (fun c3 => ?_) (fun c3 => ?_)
    · replace hT := (if_pos c3).symm.trans hT
      refine r_iconst F.hx F.hb d_MO_treaty_16 ?_
      refine lv_istore_n (lv' := [(2, vI 0), (0, .ref (b + 191)), (1, vI x1)]) F.hx F.hb d_MO_treaty_17 rfl hl (Nat.le_of_ble_eq_true rfl) rfl (fun ls hl => ?_)
      exact k_MO_treaty_L18 l hlo x1 hx1 F hlk hr FU M1 0 (inr_c rfl) _ _ _ hS (lv_sub hl [1, 2, 0] rfl) hT
    · replace hT := (if_neg c3).symm.trans hT
      refine r_iconst F.hx F.hb d_MO_treaty_14 ?_
      cases hT
      exact r_iret F hlk hr rfl hS (inr_c rfl) d_MO_treaty_15
theorem d_MO_moved_0 : decode b_MO_moved 0 = .ok (.iconst 0, 1) := dc_3 (by decide +kernel)
theorem d_MO_moved_1 : decode b_MO_moved 1 = .ok (.istore_n 2, 1) := dc_61 (by decide +kernel)
theorem d_MO_moved_2 : decode b_MO_moved 2 = .ok (.iload_n 2, 1) := dc_28 (by decide +kernel)
theorem d_MO_moved_3 : decode b_MO_moved 3 = .ok (.aload_n 0, 1) := dc_42 (by decide +kernel)
theorem d_MO_moved_4 : decode b_MO_moved 4 = .ok (.getfield 13, 3) := dc_180 (by decide +kernel)
theorem d_MO_moved_7 : decode b_MO_moved 7 = .ok (.iconst 2, 1) := dc_5 (by decide +kernel)
theorem d_MO_moved_8 : decode b_MO_moved 8 = .ok (.iaload, 1) := dc_46 (by decide +kernel)
theorem d_MO_moved_9 : decode b_MO_moved 9 = .ok (.if_icmp .ge 99, 3) := dc_162 (by decide +kernel)
theorem d_MO_moved_12 : decode b_MO_moved 12 = .ok (.iconst (-1), 1) := dc_2 (by decide +kernel)
theorem d_MO_moved_13 : decode b_MO_moved 13 = .ok (.istore_n 3, 1) := dc_62 (by decide +kernel)
theorem d_MO_moved_14 : decode b_MO_moved 14 = .ok (.iconst 0, 1) := dc_3 (by decide +kernel)
theorem d_MO_moved_15 : decode b_MO_moved 15 = .ok (.istore 4, 2) := dc_54 (by decide +kernel)
theorem d_MO_moved_17 : decode b_MO_moved 17 = .ok (.iload 4, 2) := dc_21 (by decide +kernel)
theorem d_MO_moved_19 : decode b_MO_moved 19 = .ok (.iconst 4, 1) := dc_7 (by decide +kernel)
theorem d_MO_moved_20 : decode b_MO_moved 20 = .ok (.if_icmp .ge 70, 3) := dc_162 (by decide +kernel)
theorem d_MO_moved_23 : decode b_MO_moved 23 = .ok (.aload_n 0, 1) := dc_42 (by decide +kernel)
theorem d_MO_moved_24 : decode b_MO_moved 24 = .ok (.getfield 118, 3) := dc_180 (by decide +kernel)
theorem d_MO_moved_27 : decode b_MO_moved 27 = .ok (.iconst 4, 1) := dc_7 (by decide +kernel)
theorem d_MO_moved_28 : decode b_MO_moved 28 = .ok (.iload_n 1, 1) := dc_27 (by decide +kernel)
theorem d_MO_moved_29 : decode b_MO_moved 29 = .ok (.iload_n 2, 1) := dc_28 (by decide +kernel)
theorem d_MO_moved_30 : decode b_MO_moved 30 = .ok (.iload 4, 2) := dc_21 (by decide +kernel)
theorem d_MO_moved_32 : decode b_MO_moved 32 = .ok (.invokestatic 486, 3) := dc_184 (by decide +kernel)
theorem d_MO_moved_35 : decode b_MO_moved 35 = .ok (.imul, 1) := dc_104 (by decide +kernel)
theorem d_MO_moved_36 : decode b_MO_moved 36 = .ok (.iload_n 2, 1) := dc_28 (by decide +kernel)
theorem d_MO_moved_37 : decode b_MO_moved 37 = .ok (.iadd, 1) := dc_96 (by decide +kernel)
theorem d_MO_moved_38 : decode b_MO_moved 38 = .ok (.iaload, 1) := dc_46 (by decide +kernel)
theorem d_MO_moved_39 : decode b_MO_moved 39 = .ok (.istore 5, 2) := dc_54 (by decide +kernel)
theorem d_MO_moved_41 : decode b_MO_moved 41 = .ok (.iload 5, 2) := dc_21 (by decide +kernel)
theorem d_MO_moved_43 : decode b_MO_moved 43 = .ok (.aload_n 0, 1) := dc_42 (by decide +kernel)
theorem d_MO_moved_44 : decode b_MO_moved 44 = .ok (.getfield 118, 3) := dc_180 (by decide +kernel)
theorem d_MO_moved_47 : decode b_MO_moved 47 = .ok (.iconst 4, 1) := dc_7 (by decide +kernel)
theorem d_MO_moved_48 : decode b_MO_moved 48 = .ok (.iload_n 1, 1) := dc_27 (by decide +kernel)
theorem d_MO_moved_49 : decode b_MO_moved 49 = .ok (.imul, 1) := dc_104 (by decide +kernel)
theorem d_MO_moved_50 : decode b_MO_moved 50 = .ok (.iload_n 2, 1) := dc_28 (by decide +kernel)
theorem d_MO_moved_51 : decode b_MO_moved 51 = .ok (.iadd, 1) := dc_96 (by decide +kernel)
theorem d_MO_moved_52 : decode b_MO_moved 52 = .ok (.iaload, 1) := dc_46 (by decide +kernel)
theorem d_MO_moved_53 : decode b_MO_moved 53 = .ok (.if_icmp .le 31, 3) := dc_164 (by decide +kernel)
theorem d_MO_moved_56 : decode b_MO_moved 56 = .ok (.iload_n 3, 1) := dc_29 (by decide +kernel)
theorem d_MO_moved_57 : decode b_MO_moved 57 = .ok (.iconst (-1), 1) := dc_2 (by decide +kernel)
theorem d_MO_moved_58 : decode b_MO_moved 58 = .ok (.if_icmp .eq 23, 3) := dc_159 (by decide +kernel)
theorem d_MO_moved_61 : decode b_MO_moved 61 = .ok (.iload 5, 2) := dc_21 (by decide +kernel)
theorem d_MO_moved_63 : decode b_MO_moved 63 = .ok (.aload_n 0, 1) := dc_42 (by decide +kernel)
theorem d_MO_moved_64 : decode b_MO_moved 64 = .ok (.getfield 118, 3) := dc_180 (by decide +kernel)
theorem d_MO_moved_67 : decode b_MO_moved 67 = .ok (.iconst 4, 1) := dc_7 (by decide +kernel)
theorem d_MO_moved_68 : decode b_MO_moved 68 = .ok (.iload_n 1, 1) := dc_27 (by decide +kernel)
theorem d_MO_moved_69 : decode b_MO_moved 69 = .ok (.iload_n 2, 1) := dc_28 (by decide +kernel)
theorem d_MO_moved_70 : decode b_MO_moved 70 = .ok (.iload_n 3, 1) := dc_29 (by decide +kernel)
theorem d_MO_moved_71 : decode b_MO_moved 71 = .ok (.invokestatic 486, 3) := dc_184 (by decide +kernel)
theorem d_MO_moved_74 : decode b_MO_moved 74 = .ok (.imul, 1) := dc_104 (by decide +kernel)
theorem d_MO_moved_75 : decode b_MO_moved 75 = .ok (.iload_n 2, 1) := dc_28 (by decide +kernel)
theorem d_MO_moved_76 : decode b_MO_moved 76 = .ok (.iadd, 1) := dc_96 (by decide +kernel)
theorem d_MO_moved_77 : decode b_MO_moved 77 = .ok (.iaload, 1) := dc_46 (by decide +kernel)
theorem d_MO_moved_78 : decode b_MO_moved 78 = .ok (.if_icmp .le 6, 3) := dc_164 (by decide +kernel)
theorem d_MO_moved_81 : decode b_MO_moved 81 = .ok (.iload 4, 2) := dc_21 (by decide +kernel)
theorem d_MO_moved_83 : decode b_MO_moved 83 = .ok (.istore_n 3, 1) := dc_62 (by decide +kernel)
theorem d_MO_moved_84 : decode b_MO_moved 84 = .ok (.iinc 4 1, 3) := dc_132 (by decide +kernel)
theorem d_MO_moved_87 : decode b_MO_moved 87 = .ok (.goto (-70), 3) := dc_167 (by decide +kernel)
theorem d_MO_moved_90 : decode b_MO_moved 90 = .ok (.iload_n 3, 1) := dc_29 (by decide +kernel)
theorem d_MO_moved_91 : decode b_MO_moved 91 = .ok (.iconst (-1), 1) := dc_2 (by decide +kernel)
theorem d_MO_moved_92 : decode b_MO_moved 92 = .ok (.if_icmp .eq 10, 3) := dc_159 (by decide +kernel)
theorem d_MO_moved_95 : decode b_MO_moved 95 = .ok (.iload_n 1, 1) := dc_27 (by decide +kernel)
theorem d_MO_moved_96 : decode b_MO_moved 96 = .ok (.iload_n 2, 1) := dc_28 (by decide +kernel)
theorem d_MO_moved_97 : decode b_MO_moved 97 = .ok (.iload_n 3, 1) := dc_29 (by decide +kernel)
theorem d_MO_moved_98 : decode b_MO_moved 98 = .ok (.invokestatic 486, 3) := dc_184 (by decide +kernel)
theorem d_MO_moved_101 : decode b_MO_moved 101 = .ok (.ireturn, 1) := dc_172 (by decide +kernel)
theorem d_MO_moved_102 : decode b_MO_moved 102 = .ok (.iinc 2 1, 3) := dc_132 (by decide +kernel)
theorem d_MO_moved_105 : decode b_MO_moved 105 = .ok (.goto (-103), 3) := dc_167 (by decide +kernel)
theorem d_MO_moved_108 : decode b_MO_moved 108 = .ok (.iload_n 1, 1) := dc_27 (by decide +kernel)
theorem d_MO_moved_109 : decode b_MO_moved 109 = .ok (.ireturn, 1) := dc_172 (by decide +kernel)
def t_MO_moved_L84 (x1 : Int) (bk2 : Mem → Int → Option (Int)) (bk17 : Mem → Int → Int → Int → Option (Int)) (M : Mem) (v2_ : Int) (v3_ : Int) (v4_ : Int) : Option (Int) := (bk17 M v2_ v3_ (w32 (v4_ + 1)))
def t_MO_moved_L81 (x1 : Int) (bk2 : Mem → Int → Option (Int)) (bk17 : Mem → Int → Int → Int → Option (Int)) (M : Mem) (v2_ : Int) (v3_ : Int) : Option (Int) := (t_MO_moved_L84 x1 bk2 bk17 M v2_ v3_ v3_)
def t_MO_moved_L17 (x1 : Int) (bk2 : Mem → Int → Option (Int)) : Nat → Mem → Int → Int → Int → Option (Int)
  | 0, _, _, _, _ => none
  | fu + 1, M, v2_, v3_, v4_ => (if 4 ≤ v4_ then (if v3_ = (-1) then (bk2 M (w32 (v2_ + 1))) else (qlet (t_MO_with M x1 v2_ v3_) fun q5 => (some q5))) else (qlet (t_MO_with M x1 v2_ v4_) fun q7 => (qguard (0 ≤ (w32 ((w32 (4 * q7)) + v2_)) ∧ (w32 ((w32 (4 * q7)) + v2_)) < 1024) (qguard (0 ≤ (w32 ((w32 (4 * x1)) + v2_)) ∧ (w32 ((w32 (4 * x1)) + v2_)) < 1024) (if (M.1 224 (w32 ((w32 (4 * q7)) + v2_))) ≤ (M.1 224 (w32 ((w32 (4 * x1)) + v2_))) then (t_MO_moved_L84 x1 bk2 (fun a0_ a1_ a2_ a3_ => t_MO_moved_L17 x1 bk2 fu a0_ a1_ a2_ a3_) M v2_ v3_ v4_) else (if v3_ = (-1) then (t_MO_moved_L81 x1 bk2 (fun a0_ a1_ a2_ a3_ => t_MO_moved_L17 x1 bk2 fu a0_ a1_ a2_ a3_) M v2_ v4_) else (qlet (t_MO_with M x1 v2_ v3_) fun q15 => (qguard (0 ≤ (w32 ((w32 (4 * q15)) + v2_)) ∧ (w32 ((w32 (4 * q15)) + v2_)) < 1024) (if (M.1 224 (w32 ((w32 (4 * q7)) + v2_))) ≤ (M.1 224 (w32 ((w32 (4 * q15)) + v2_))) then (t_MO_moved_L84 x1 bk2 (fun a0_ a1_ a2_ a3_ => t_MO_moved_L17 x1 bk2 fu a0_ a1_ a2_ a3_) M v2_ v3_ v4_) else (t_MO_moved_L81 x1 bk2 (fun a0_ a1_ a2_ a3_ => t_MO_moved_L17 x1 bk2 fu a0_ a1_ a2_ a3_) M v2_ v4_))))))))))
def t_MO_moved_L2 (x1 : Int)  : Nat → Mem → Int → Option (Int)
  | 0, _, _ => none
  | fu + 1, M, v2_ => (if (M.1 193 2) ≤ v2_ then (some x1) else (t_MO_moved_L17 x1 (fun a0_ a1_ => t_MO_moved_L2 x1 fu a0_ a1_) FU M v2_ (-1) 0))
def t_MO_moved (M : Mem) (x1 : Int) : Option (Int) := (t_MO_moved_L2 x1 FU M 0)
set_option maxHeartbeats 4000000 in
set_option maxRecDepth 100000 in
theorem k_MO_moved_L84 (l : Launch) {p : Program} {e : Env} {s : State} {m : MethodId} {below : List Frame} {meth : Method} {c : Code} {b n : Nat} {C : CT} (hlo : 231 ≤ n) (x1 : Int) (hx1 : InR x1) (F : Cx b p m c b_MO_moved 6 s ([.ref (b + 191), vI x1] : List Value).toArray "WardFallsModel" C n 231) (hlk : meth.locks = false) (hr : meth.sig.returnType = some .int) {res : Int} (bk2 : Mem → Int → Option (Int)) (hbk2 : ∀ (M : Mem) (v2_ : Int) (hv2_ : InR v2_) (H : Heap) (locs : List Loc) (ls : Array Slot), St b C n M s H locs → lv_has ls 6 [(0, .ref (b + 191)), (1, vI x1), (2, vI v2_)] → bk2 M v2_ = some res → W p l e (headSpec (wsM y_MO_moved b_MO_moved 6 (some .int)) (rmD 1)).room s m ([.ref (b + 191), vI x1] : List Value).toArray below meth c H locs 0 0 (MQ below (QI b C n M res) ([.ref (b + 191), vI x1] : List Value).toArray s 0 0 (frb b)) (F0 m 2 ls [])) (bk17 : Mem → Int → Int → Int → Option (Int)) (hbk17 : ∀ (M : Mem) (v2_ : Int) (hv2_ : InR v2_) (v3_ : Int) (hv3_ : InR v3_) (v4_ : Int) (hv4_ : InR v4_) (H : Heap) (locs : List Loc) (ls : Array Slot), St b C n M s H locs → lv_has ls 6 [(0, .ref (b + 191)), (1, vI x1), (2, vI v2_), (3, vI v3_), (4, vI v4_)] → bk17 M v2_ v3_ v4_ = some res → W p l e (headSpec (wsM y_MO_moved b_MO_moved 6 (some .int)) (rmD 1)).room s m ([.ref (b + 191), vI x1] : List Value).toArray below meth c H locs 0 0 (MQ below (QI b C n M res) ([.ref (b + 191), vI x1] : List Value).toArray s 0 0 (frb b)) (F0 m 17 ls [])) (M : Mem) (v2_ : Int) (hv2_ : InR v2_) (v3_ : Int) (hv3_ : InR v3_) (v4_ : Int) (hv4_ : InR v4_) (H : Heap) (locs : List Loc) (ls : Array Slot) (hS : St b C n M s H locs) (hl : lv_has ls 6 [(0, .ref (b + 191)), (1, vI x1), (2, vI v2_), (3, vI v3_), (4, vI v4_)]) (hT : t_MO_moved_L84 x1 bk2 bk17 M v2_ v3_ v4_ = some res) : W p l e (headSpec (wsM y_MO_moved b_MO_moved 6 (some .int)) (rmD 1)).room s m ([.ref (b + 191), vI x1] : List Value).toArray below meth c H locs 0 0 (MQ below (QI b C n M res) ([.ref (b + 191), vI x1] : List Value).toArray s 0 0 (frb b)) (F0 m 84 ls []) := by
  unfold t_MO_moved_L84 at hT
  refine lv_iinc (v := Int32.ofInt (w32 (v4_ + 1))) (lv' := [(4, vI (w32 (v4_ + 1))), (0, .ref (b + 191)), (1, vI x1), (2, vI v2_), (3, vI v3_)]) F.hx F.hb d_MO_moved_84 hl (k := 4) rfl (q_of_add _ _) (Nat.le_of_ble_eq_true rfl) rfl (fun ls hl => ?_)
  refine lv_goto (tgt := 17) F.hx F.hb d_MO_moved_87 (by decide) ?_
  exact hbk17 M v2_ hv2_ v3_ hv3_ (w32 (v4_ + 1)) (inr_w32 _) _ _ _ hS (lv_sub hl [1, 2, 3, 4, 0] rfl) hT
set_option maxHeartbeats 4000000 in
set_option maxRecDepth 100000 in
theorem k_MO_moved_L81 (l : Launch) {p : Program} {e : Env} {s : State} {m : MethodId} {below : List Frame} {meth : Method} {c : Code} {b n : Nat} {C : CT} (hlo : 231 ≤ n) (x1 : Int) (hx1 : InR x1) (F : Cx b p m c b_MO_moved 6 s ([.ref (b + 191), vI x1] : List Value).toArray "WardFallsModel" C n 231) (hlk : meth.locks = false) (hr : meth.sig.returnType = some .int) {res : Int} (bk2 : Mem → Int → Option (Int)) (hbk2 : ∀ (M : Mem) (v2_ : Int) (hv2_ : InR v2_) (H : Heap) (locs : List Loc) (ls : Array Slot), St b C n M s H locs → lv_has ls 6 [(0, .ref (b + 191)), (1, vI x1), (2, vI v2_)] → bk2 M v2_ = some res → W p l e (headSpec (wsM y_MO_moved b_MO_moved 6 (some .int)) (rmD 1)).room s m ([.ref (b + 191), vI x1] : List Value).toArray below meth c H locs 0 0 (MQ below (QI b C n M res) ([.ref (b + 191), vI x1] : List Value).toArray s 0 0 (frb b)) (F0 m 2 ls [])) (bk17 : Mem → Int → Int → Int → Option (Int)) (hbk17 : ∀ (M : Mem) (v2_ : Int) (hv2_ : InR v2_) (v3_ : Int) (hv3_ : InR v3_) (v4_ : Int) (hv4_ : InR v4_) (H : Heap) (locs : List Loc) (ls : Array Slot), St b C n M s H locs → lv_has ls 6 [(0, .ref (b + 191)), (1, vI x1), (2, vI v2_), (3, vI v3_), (4, vI v4_)] → bk17 M v2_ v3_ v4_ = some res → W p l e (headSpec (wsM y_MO_moved b_MO_moved 6 (some .int)) (rmD 1)).room s m ([.ref (b + 191), vI x1] : List Value).toArray below meth c H locs 0 0 (MQ below (QI b C n M res) ([.ref (b + 191), vI x1] : List Value).toArray s 0 0 (frb b)) (F0 m 17 ls [])) (M : Mem) (v2_ : Int) (hv2_ : InR v2_) (v3_ : Int) (hv3_ : InR v3_) (H : Heap) (locs : List Loc) (ls : Array Slot) (hS : St b C n M s H locs) (hl : lv_has ls 6 [(0, .ref (b + 191)), (1, vI x1), (2, vI v2_), (4, vI v3_)]) (hT : t_MO_moved_L81 x1 bk2 bk17 M v2_ v3_ = some res) : W p l e (headSpec (wsM y_MO_moved b_MO_moved 6 (some .int)) (rmD 1)).room s m ([.ref (b + 191), vI x1] : List Value).toArray below meth c H locs 0 0 (MQ below (QI b C n M res) ([.ref (b + 191), vI x1] : List Value).toArray s 0 0 (frb b)) (F0 m 81 ls []) := by
  unfold t_MO_moved_L81 at hT
  refine lv_iload F.hx F.hb d_MO_moved_81 (lv_at hl 3 rfl) ?_
  refine lv_istore_n (lv' := [(3, vI v3_), (0, .ref (b + 191)), (1, vI x1), (2, vI v2_), (4, vI v3_)]) F.hx F.hb d_MO_moved_83 rfl hl (Nat.le_of_ble_eq_true rfl) rfl (fun ls hl => ?_)
  exact k_MO_moved_L84 l hlo x1 hx1 F hlk hr bk2 hbk2 bk17 hbk17 M v2_ hv2_ v3_ hv3_ v3_ hv3_ _ _ _ hS (lv_sub hl [1, 2, 3, 0, 4] rfl) hT
set_option maxHeartbeats 4000000 in
set_option maxRecDepth 100000 in
theorem k_MO_moved_L17 (l : Launch) {p : Program} {e : Env} {s : State} {m : MethodId} {below : List Frame} {meth : Method} {c : Code} {b n : Nat} {C : CT} (hlo : 231 ≤ n) (x1 : Int) (hx1 : InR x1) (F : Cx b p m c b_MO_moved 6 s ([.ref (b + 191), vI x1] : List Value).toArray "WardFallsModel" C n 231) (hlk : meth.locks = false) (hr : meth.sig.returnType = some .int) {res : Int} (bk2 : Mem → Int → Option (Int)) (hbk2 : ∀ (M : Mem) (v2_ : Int) (hv2_ : InR v2_) (H : Heap) (locs : List Loc) (ls : Array Slot), St b C n M s H locs → lv_has ls 6 [(0, .ref (b + 191)), (1, vI x1), (2, vI v2_)] → bk2 M v2_ = some res → W p l e (headSpec (wsM y_MO_moved b_MO_moved 6 (some .int)) (rmD 1)).room s m ([.ref (b + 191), vI x1] : List Value).toArray below meth c H locs 0 0 (MQ below (QI b C n M res) ([.ref (b + 191), vI x1] : List Value).toArray s 0 0 (frb b)) (F0 m 2 ls [])) : ∀ (fu : Nat) (M : Mem) (v2_ : Int) (hv2_ : InR v2_) (v3_ : Int) (hv3_ : InR v3_) (v4_ : Int) (hv4_ : InR v4_) (H : Heap) (locs : List Loc) (ls : Array Slot), St b C n M s H locs → lv_has ls 6 [(0, .ref (b + 191)), (1, vI x1), (2, vI v2_), (3, vI v3_), (4, vI v4_)] → t_MO_moved_L17 x1 bk2 fu M v2_ v3_ v4_ = some res → W p l e (headSpec (wsM y_MO_moved b_MO_moved 6 (some .int)) (rmD 1)).room s m ([.ref (b + 191), vI x1] : List Value).toArray below meth c H locs 0 0 (MQ below (QI b C n M res) ([.ref (b + 191), vI x1] : List Value).toArray s 0 0 (frb b)) (F0 m 17 ls []) := by
  intro fu
  induction fu with
  | zero => intro M v2_ hv2_ v3_ hv3_ v4_ hv4_ H locs ls hS hl hT; exact absurd hT (by simp [t_MO_moved_L17])
  | succ fu ih =>
    intro M v2_ hv2_ v3_ hv3_ v4_ hv4_ H locs ls hS hl hT
    rw [t_MO_moved_L17] at hT
    refine lv_iload F.hx F.hb d_MO_moved_17 (lv_at hl 4 rfl) ?_
    refine r_iconst F.hx F.hb d_MO_moved_19 ?_
    refine r_icmp_ge (tgt := 90) F.hx F.hb hv4_ (inr_c rfl) d_MO_moved_20 (by decide) (fun c3 => ?_) (fun c3 => ?_)
    · replace hT := (if_pos c3).symm.trans hT
      refine lv_iload_n F.hx F.hb d_MO_moved_90 rfl (lv_at hl 3 rfl) ?_
      refine r_iconst F.hx F.hb d_MO_moved_91 ?_
      refine r_icmp_eq (tgt := 102) F.hx F.hb hv3_ (inr_c rfl) d_MO_moved_92 (by decide) (fun c4 => ?_) (fun c4 => ?_)
      · replace hT := (if_pos c4).symm.trans hT
        refine lv_iinc (v := Int32.ofInt (w32 (v2_ + 1))) (lv' := [(2, vI (w32 (v2_ + 1))), (0, .ref (b + 191)), (1, vI x1), (3, vI v3_), (4, vI v4_)]) F.hx F.hb d_MO_moved_102 hl (k := 2) rfl (q_of_add _ _) (Nat.le_of_ble_eq_true rfl) rfl (fun ls hl => ?_)
        refine lv_goto (tgt := 2) F.hx F.hb d_MO_moved_105 (by decide) ?_
        exact hbk2 M (w32 (v2_ + 1)) (inr_w32 _) _ _ _ hS (lv_sub hl [1, 2, 0] rfl) hT
      · replace hT := (if_neg c4).symm.trans hT
        refine lv_iload_n F.hx F.hb d_MO_moved_95 rfl (lv_at hl 1 rfl) ?_
        refine lv_iload_n F.hx F.hb d_MO_moved_96 rfl (lv_at hl 2 rfl) ?_
        refine lv_iload_n F.hx F.hb d_MO_moved_97 rfl (lv_at hl 3 rfl) ?_
        obtain ⟨q5, hq5⟩ : ∃ q, q = (t_MO_with M x1 v2_ v3_) := ⟨_, rfl⟩
        replace hT := qlet_eq hT hq5
        refine r_backI F hS (r_runS (As := [vI x1, vI v2_, vI v3_]) F hS (c_MO_with l F.2.2.1 M x1 v2_ v3_ hx1 hv2_ hv3_ _ hq5.symm) gs_MO_486 hd_MO_with ⟨Nat.le_of_ble_eq_true rfl, Nat.le_of_ble_eq_true rfl⟩ rfl hl.1 (Nat.le_of_ble_eq_true rfl) ⟨Nat.zero_le _, Nat.zero_le _⟩ rfl d_MO_moved_98) (fun H locs hS h6 => ?_)
        cases hT
        exact r_iret F hlk hr rfl hS h6 d_MO_moved_101
    · replace hT := (if_neg c3).symm.trans hT
      refine lv_aload_n F.hx F.hb d_MO_moved_23 rfl (lv_at hl 0 rfl) ?_
      refine r_get (v := .ref (b + 224)) (N := 68) (T := T1) (j := 58) F hS (show 191 < 231 by decide) (show shK 191 = 5 from rfl) (show shN 191 = 68 from rfl) rfl (Nat.le_of_ble_eq_true rfl) ing1 mw_1447 (fv_sg rfl rfl rfl) d_MO_moved_24 ?_
      refine r_iconst F.hx F.hb d_MO_moved_27 ?_
      refine lv_iload_n F.hx F.hb d_MO_moved_28 rfl (lv_at hl 1 rfl) ?_
      refine lv_iload_n F.hx F.hb d_MO_moved_29 rfl (lv_at hl 2 rfl) ?_
      refine lv_iload F.hx F.hb d_MO_moved_30 (lv_at hl 4 rfl) ?_
      obtain ⟨q7, hq7⟩ : ∃ q, q = (t_MO_with M x1 v2_ v4_) := ⟨_, rfl⟩
      replace hT := qlet_eq hT hq7
      refine r_backI F hS (r_runS (As := [vI x1, vI v2_, vI v4_]) F hS (c_MO_with l F.2.2.1 M x1 v2_ v4_ hx1 hv2_ hv4_ _ hq7.symm) gs_MO_486 hd_MO_with ⟨Nat.le_of_ble_eq_true rfl, Nat.le_of_ble_eq_true rfl⟩ rfl hl.1 (Nat.le_of_ble_eq_true rfl) ⟨Nat.zero_le _, Nat.zero_le _⟩ rfl d_MO_moved_32) (fun H locs hS h8 => ?_)
      refine r_imul F.hx F.hb d_MO_moved_35 ?_
      refine lv_iload_n F.hx F.hb d_MO_moved_36 rfl (lv_at hl 2 rfl) ?_
      refine r_iadd F.hx F.hb d_MO_moved_37 ?_
      obtain ⟨⟨g9a, g9b⟩, hT⟩ := q_guard hT
      refine r_iald F hS (show 224 < 231 by decide) (show shK 224 = 0 from rfl) (show shN 224 = 1024 from rfl) (inr_w32 _) g9a g9b d_MO_moved_38 ?_
      have i10 := hS.rng 224 (w32 ((w32 (4 * q7)) + v2_))
      refine lv_istore (lv' := [(5, vI (M.1 224 (w32 ((w32 (4 * q7)) + v2_)))), (0, .ref (b + 191)), (1, vI x1), (2, vI v2_), (3, vI v3_), (4, vI v4_)]) F.hx F.hb d_MO_moved_39 hl (Nat.le_of_ble_eq_true rfl) rfl (fun ls hl => ?_)
      refine lv_iload F.hx F.hb d_MO_moved_41 (lv_at hl 0 rfl) ?_
      refine lv_aload_n F.hx F.hb d_MO_moved_43 rfl (lv_at hl 1 rfl) ?_
      refine r_get (v := .ref (b + 224)) (N := 68) (T := T1) (j := 58) F hS (show 191 < 231 by decide) (show shK 191 = 5 from rfl) (show shN 191 = 68 from rfl) rfl (Nat.le_of_ble_eq_true rfl) ing1 mw_1447 (fv_sg rfl rfl rfl) d_MO_moved_44 ?_
      refine r_iconst F.hx F.hb d_MO_moved_47 ?_
      refine lv_iload_n F.hx F.hb d_MO_moved_48 rfl (lv_at hl 2 rfl) ?_
      refine r_imul F.hx F.hb d_MO_moved_49 ?_
      refine lv_iload_n F.hx F.hb d_MO_moved_50 rfl (lv_at hl 3 rfl) ?_
      refine r_iadd F.hx F.hb d_MO_moved_51 ?_
      obtain ⟨⟨g11a, g11b⟩, hT⟩ := q_guard hT
      refine r_iald F hS (show 224 < 231 by decide) (show shK 224 = 0 from rfl) (show shN 224 = 1024 from rfl) (inr_w32 _) g11a g11b d_MO_moved_52 ?_
      have i12 := hS.rng 224 (w32 ((w32 (4 * x1)) + v2_))
      refine r_icmp_le (tgt := 84) F.hx F.hb i10 i12 d_MO_moved_53 (by decide) (fun c13 => ?_) (fun c13 => ?_)
      · replace hT := (if_pos c13).symm.trans hT
        exact k_MO_moved_L84 l hlo x1 hx1 F hlk hr bk2 hbk2 (fun a0_ a1_ a2_ a3_ => t_MO_moved_L17 x1 bk2 fu a0_ a1_ a2_ a3_) ih M v2_ hv2_ v3_ hv3_ v4_ hv4_ _ _ _ hS (lv_sub hl [1, 2, 3, 4, 5] rfl) hT
      · replace hT := (if_neg c13).symm.trans hT
        refine lv_iload_n F.hx F.hb d_MO_moved_56 rfl (lv_at hl 4 rfl) ?_
        refine r_iconst F.hx F.hb d_MO_moved_57 ?_
        refine r_icmp_eq (tgt := 81) F.hx F.hb hv3_ (inr_c rfl) d_MO_moved_58 (by decide) (fun c14 => ?_) (fun c14 => ?_)
        · replace hT := (if_pos c14).symm.trans hT
          exact k_MO_moved_L81 l hlo x1 hx1 F hlk hr bk2 hbk2 (fun a0_ a1_ a2_ a3_ => t_MO_moved_L17 x1 bk2 fu a0_ a1_ a2_ a3_) ih M v2_ hv2_ v4_ hv4_ _ _ _ hS (lv_sub hl [1, 2, 3, 5] rfl) hT
        · replace hT := (if_neg c14).symm.trans hT
          refine lv_iload F.hx F.hb d_MO_moved_61 (lv_at hl 0 rfl) ?_
          refine lv_aload_n F.hx F.hb d_MO_moved_63 rfl (lv_at hl 1 rfl) ?_
          refine r_get (v := .ref (b + 224)) (N := 68) (T := T1) (j := 58) F hS (show 191 < 231 by decide) (show shK 191 = 5 from rfl) (show shN 191 = 68 from rfl) rfl (Nat.le_of_ble_eq_true rfl) ing1 mw_1447 (fv_sg rfl rfl rfl) d_MO_moved_64 ?_
          refine r_iconst F.hx F.hb d_MO_moved_67 ?_
          refine lv_iload_n F.hx F.hb d_MO_moved_68 rfl (lv_at hl 2 rfl) ?_
          refine lv_iload_n F.hx F.hb d_MO_moved_69 rfl (lv_at hl 3 rfl) ?_
          refine lv_iload_n F.hx F.hb d_MO_moved_70 rfl (lv_at hl 4 rfl) ?_
          obtain ⟨q15, hq15⟩ : ∃ q, q = (t_MO_with M x1 v2_ v3_) := ⟨_, rfl⟩
          replace hT := qlet_eq hT hq15
          refine r_backI F hS (r_runS (As := [vI x1, vI v2_, vI v3_]) F hS (c_MO_with l F.2.2.1 M x1 v2_ v3_ hx1 hv2_ hv3_ _ hq15.symm) gs_MO_486 hd_MO_with ⟨Nat.le_of_ble_eq_true rfl, Nat.le_of_ble_eq_true rfl⟩ rfl hl.1 (Nat.le_of_ble_eq_true rfl) ⟨Nat.zero_le _, Nat.zero_le _⟩ rfl d_MO_moved_71) (fun H locs hS h16 => ?_)
          refine r_imul F.hx F.hb d_MO_moved_74 ?_
          refine lv_iload_n F.hx F.hb d_MO_moved_75 rfl (lv_at hl 3 rfl) ?_
          refine r_iadd F.hx F.hb d_MO_moved_76 ?_
          obtain ⟨⟨g17a, g17b⟩, hT⟩ := q_guard hT
          refine r_iald F hS (show 224 < 231 by decide) (show shK 224 = 0 from rfl) (show shN 224 = 1024 from rfl) (inr_w32 _) g17a g17b d_MO_moved_77 ?_
          have i18 := hS.rng 224 (w32 ((w32 (4 * q15)) + v2_))
          refine r_icmp_le (tgt := 84) F.hx F.hb i10 i18 d_MO_moved_78 (by decide) (fun c19 => ?_) (fun c19 => ?_)
          · replace hT := (if_pos c19).symm.trans hT
            exact k_MO_moved_L84 l hlo x1 hx1 F hlk hr bk2 hbk2 (fun a0_ a1_ a2_ a3_ => t_MO_moved_L17 x1 bk2 fu a0_ a1_ a2_ a3_) ih M v2_ hv2_ v3_ hv3_ v4_ hv4_ _ _ _ hS (lv_sub hl [1, 2, 3, 4, 5] rfl) hT
          · replace hT := (if_neg c19).symm.trans hT
            exact k_MO_moved_L81 l hlo x1 hx1 F hlk hr bk2 hbk2 (fun a0_ a1_ a2_ a3_ => t_MO_moved_L17 x1 bk2 fu a0_ a1_ a2_ a3_) ih M v2_ hv2_ v4_ hv4_ _ _ _ hS (lv_sub hl [1, 2, 3, 5] rfl) hT
set_option maxHeartbeats 4000000 in
set_option maxRecDepth 100000 in
theorem k_MO_moved_L2 (l : Launch) {p : Program} {e : Env} {s : State} {m : MethodId} {below : List Frame} {meth : Method} {c : Code} {b n : Nat} {C : CT} (hlo : 231 ≤ n) (x1 : Int) (hx1 : InR x1) (F : Cx b p m c b_MO_moved 6 s ([.ref (b + 191), vI x1] : List Value).toArray "WardFallsModel" C n 231) (hlk : meth.locks = false) (hr : meth.sig.returnType = some .int) {res : Int} : ∀ (fu : Nat) (M : Mem) (v2_ : Int) (hv2_ : InR v2_) (H : Heap) (locs : List Loc) (ls : Array Slot), St b C n M s H locs → lv_has ls 6 [(0, .ref (b + 191)), (1, vI x1), (2, vI v2_)] → t_MO_moved_L2 x1 fu M v2_ = some res → W p l e (headSpec (wsM y_MO_moved b_MO_moved 6 (some .int)) (rmD 1)).room s m ([.ref (b + 191), vI x1] : List Value).toArray below meth c H locs 0 0 (MQ below (QI b C n M res) ([.ref (b + 191), vI x1] : List Value).toArray s 0 0 (frb b)) (F0 m 2 ls []) := by
  intro fu
  induction fu with
  | zero => intro M v2_ hv2_ H locs ls hS hl hT; exact absurd hT (by simp [t_MO_moved_L2])
  | succ fu ih =>
    intro M v2_ hv2_ H locs ls hS hl hT
    rw [t_MO_moved_L2] at hT
    refine lv_iload_n F.hx F.hb d_MO_moved_2 rfl (lv_at hl 2 rfl) ?_
    refine lv_aload_n F.hx F.hb d_MO_moved_3 rfl (lv_at hl 0 rfl) ?_
    refine r_get (v := .ref (b + 193)) (N := 68) (T := T1) (j := 3) F hS (show 191 < 231 by decide) (show shK 191 = 5 from rfl) (show shN 191 = 68 from rfl) rfl (Nat.le_of_ble_eq_true rfl) ing1 mw_1392 (fv_sg rfl rfl rfl) d_MO_moved_4 ?_
    refine r_iconst F.hx F.hb d_MO_moved_7 ?_
    refine r_iald F hS (show 193 < 231 by decide) (show shK 193 = 0 from rfl) (show shN 193 = 18 from rfl) (inr_c rfl) (by omega) (by omega) d_MO_moved_8 ?_
    have i1 := hS.rng 193 2
    refine r_icmp_ge (tgt := 108) F.hx F.hb hv2_ i1 d_MO_moved_9 (by decide) (fun c2 => ?_) (fun c2 => ?_)
    · replace hT := (if_pos c2).symm.trans hT
      refine lv_iload_n F.hx F.hb d_MO_moved_108 rfl (lv_at hl 1 rfl) ?_
      cases hT
      exact r_iret F hlk hr rfl hS hx1 d_MO_moved_109
    · replace hT := (if_neg c2).symm.trans hT
      refine r_iconst F.hx F.hb d_MO_moved_12 ?_
      refine lv_istore_n (lv' := [(3, vI (-1)), (0, .ref (b + 191)), (1, vI x1), (2, vI v2_)]) F.hx F.hb d_MO_moved_13 rfl hl (Nat.le_of_ble_eq_true rfl) rfl (fun ls hl => ?_)
      refine r_iconst F.hx F.hb d_MO_moved_14 ?_
      refine lv_istore (lv' := [(4, vI 0), (3, vI (-1)), (0, .ref (b + 191)), (1, vI x1), (2, vI v2_)]) F.hx F.hb d_MO_moved_15 hl (Nat.le_of_ble_eq_true rfl) rfl (fun ls hl => ?_)
      exact k_MO_moved_L17 l hlo x1 hx1 F hlk hr (fun a0_ a1_ => t_MO_moved_L2 x1 fu a0_ a1_) ih FU M v2_ hv2_ (-1) (inr_c rfl) 0 (inr_c rfl) _ _ _ hS (lv_sub hl [2, 3, 4, 1, 0] rfl) hT
set_option maxHeartbeats 4000000 in
set_option maxRecDepth 100000 in
theorem c_MO_moved (l : Launch) {b n : Nat} {C : CT} (hlo : 231 ≤ n) (M : Mem) (x1 : Int) (hx1 : InR x1) (res : Int) (hT : t_MO_moved M x1 = some res) : CM l b C n 1 y_MO_moved b_MO_moved 6 (some .int) [.ref (b + 191), vI x1] M (QI b C n M res) := by
  refine CM.of (lo := 231) (ow := "WardFallsModel") (by decide) rfl (Nat.le_of_ble_eq_true rfl) hlo (fun p e s m below meth c F hlk hr hS ls hl => ?_)
  have hl : lv_has ls 6 [(0, .ref (b + 191)), (1, vI x1)] := hl
  unfold t_MO_moved at hT
  refine r_iconst F.hx F.hb d_MO_moved_0 ?_
  refine lv_istore_n (lv' := [(2, vI 0), (0, .ref (b + 191)), (1, vI x1)]) F.hx F.hb d_MO_moved_1 rfl hl (Nat.le_of_ble_eq_true rfl) rfl (fun ls hl => ?_)
  exact k_MO_moved_L2 l hlo x1 hx1 F hlk hr FU M 0 (inr_c rfl) _ _ _ hS (lv_sub hl [1, 2, 0] rfl) hT
theorem d_MO_moves_0 : decode b_MO_moves 0 = .ok (.aload_n 0, 1) := dc_42 (by decide +kernel)
theorem d_MO_moves_1 : decode b_MO_moves 1 = .ok (.iconst 0, 1) := dc_3 (by decide +kernel)
theorem d_MO_moves_2 : decode b_MO_moves 2 = .ok (.putfield 145, 3) := dc_181 (by decide +kernel)
theorem d_MO_moves_5 : decode b_MO_moves 5 = .ok (.iload_n 1, 1) := dc_27 (by decide +kernel)
theorem d_MO_moves_6 : decode b_MO_moves 6 = .ok (.ifCond .lt 20, 3) := dc_155 (by decide +kernel)
theorem d_MO_moves_9 : decode b_MO_moves 9 = .ok (.iload_n 1, 1) := dc_27 (by decide +kernel)
theorem d_MO_moves_10 : decode b_MO_moves 10 = .ok (.aload_n 0, 1) := dc_42 (by decide +kernel)
theorem d_MO_moves_11 : decode b_MO_moves 11 = .ok (.invokevirtual 483, 3) := dc_182 (by decide +kernel)
theorem d_MO_moves_14 : decode b_MO_moves 14 = .ok (.if_icmp .ge 12, 3) := dc_162 (by decide +kernel)
theorem d_MO_moves_17 : decode b_MO_moves 17 = .ok (.iload_n 2, 1) := dc_28 (by decide +kernel)
theorem d_MO_moves_18 : decode b_MO_moves 18 = .ok (.ifCond .lt 8, 3) := dc_155 (by decide +kernel)
theorem d_MO_moves_21 : decode b_MO_moves 21 = .ok (.iload_n 2, 1) := dc_28 (by decide +kernel)
theorem d_MO_moves_22 : decode b_MO_moves 22 = .ok (.iconst 1, 1) := dc_4 (by decide +kernel)
theorem d_MO_moves_23 : decode b_MO_moves 23 = .ok (.if_icmp .le 5, 3) := dc_164 (by decide +kernel)
theorem d_MO_moves_26 : decode b_MO_moves 26 = .ok (.iconst (-1), 1) := dc_2 (by decide +kernel)
theorem d_MO_moves_27 : decode b_MO_moves 27 = .ok (.ireturn, 1) := dc_172 (by decide +kernel)
theorem d_MO_moves_28 : decode b_MO_moves 28 = .ok (.aload_n 0, 1) := dc_42 (by decide +kernel)
theorem d_MO_moves_29 : decode b_MO_moves 29 = .ok (.invokevirtual 489, 3) := dc_182 (by decide +kernel)
theorem d_MO_moves_32 : decode b_MO_moves 32 = .ok (.iload_n 1, 1) := dc_27 (by decide +kernel)
theorem d_MO_moves_33 : decode b_MO_moves 33 = .ok (.istore_n 3, 1) := dc_62 (by decide +kernel)
theorem d_MO_moves_34 : decode b_MO_moves 34 = .ok (.iconst 0, 1) := dc_3 (by decide +kernel)
theorem d_MO_moves_35 : decode b_MO_moves 35 = .ok (.istore 4, 2) := dc_54 (by decide +kernel)
theorem d_MO_moves_37 : decode b_MO_moves 37 = .ok (.aload_n 0, 1) := dc_42 (by decide +kernel)
theorem d_MO_moves_38 : decode b_MO_moves 38 = .ok (.iload_n 3, 1) := dc_29 (by decide +kernel)
theorem d_MO_moves_39 : decode b_MO_moves 39 = .ok (.invokevirtual 498, 3) := dc_182 (by decide +kernel)
theorem d_MO_moves_42 : decode b_MO_moves 42 = .ok (.iload_n 3, 1) := dc_29 (by decide +kernel)
theorem d_MO_moves_43 : decode b_MO_moves 43 = .ok (.if_icmp .eq 25, 3) := dc_159 (by decide +kernel)
theorem d_MO_moves_46 : decode b_MO_moves 46 = .ok (.iload 4, 2) := dc_21 (by decide +kernel)
theorem d_MO_moves_48 : decode b_MO_moves 48 = .ok (.bipush 40, 2) := dc_16 (by decide +kernel)
theorem d_MO_moves_50 : decode b_MO_moves 50 = .ok (.if_icmp .ne 6, 3) := dc_160 (by decide +kernel)
theorem d_MO_moves_53 : decode b_MO_moves 53 = .ok (.bipush (-2), 2) := dc_16 (by decide +kernel)
theorem d_MO_moves_55 : decode b_MO_moves 55 = .ok (.ireturn, 1) := dc_172 (by decide +kernel)
theorem d_MO_moves_56 : decode b_MO_moves 56 = .ok (.aload_n 0, 1) := dc_42 (by decide +kernel)
theorem d_MO_moves_57 : decode b_MO_moves 57 = .ok (.iload_n 3, 1) := dc_29 (by decide +kernel)
theorem d_MO_moves_58 : decode b_MO_moves 58 = .ok (.invokevirtual 498, 3) := dc_182 (by decide +kernel)
theorem d_MO_moves_61 : decode b_MO_moves 61 = .ok (.istore_n 3, 1) := dc_62 (by decide +kernel)
theorem d_MO_moves_62 : decode b_MO_moves 62 = .ok (.iinc 4 1, 3) := dc_132 (by decide +kernel)
theorem d_MO_moves_65 : decode b_MO_moves 65 = .ok (.goto (-28), 3) := dc_167 (by decide +kernel)
theorem d_MO_moves_68 : decode b_MO_moves 68 = .ok (.iload_n 2, 1) := dc_28 (by decide +kernel)
theorem d_MO_moves_69 : decode b_MO_moves 69 = .ok (.ifCond .ne 8, 3) := dc_154 (by decide +kernel)
theorem d_MO_moves_72 : decode b_MO_moves 72 = .ok (.iload 4, 2) := dc_21 (by decide +kernel)
theorem d_MO_moves_74 : decode b_MO_moves 74 = .ok (.goto 4, 3) := dc_167 (by decide +kernel)
theorem d_MO_moves_77 : decode b_MO_moves 77 = .ok (.iload_n 3, 1) := dc_29 (by decide +kernel)
theorem d_MO_moves_78 : decode b_MO_moves 78 = .ok (.ireturn, 1) := dc_172 (by decide +kernel)
def t_MO_moves_L37 (x1 : Int) (x2 : Int)  : Nat → Mem → Int → Int → Option (Mem × Int)
  | 0, _, _, _ => none
  | fu + 1, M, v2_, v3_ => (obind (t_MO_moved M v2_) fun q10 => (if q10 = v2_ then (if x2 = 0 then (some (M, v3_)) else (some (M, v2_))) else (if v3_ = 40 then (some (M, (-2))) else (obind (t_MO_moved M v2_) fun q15 => (t_MO_moves_L37 x1 x2 fu M q15 (w32 (v3_ + 1)))))))
def t_MO_moves (M : Mem) (x1 : Int) (x2 : Int) : Option (Mem × Int) := (qlet (setI M 191 0 0) fun M1 => (if x1 < 0 then (some (M1, (-1))) else (qlet (t_MO_votes M1) fun q3 => (if q3 ≤ x1 then (some (M1, (-1))) else (if x2 < 0 then (some (M1, (-1))) else (if x2 ≤ 1 then (obind (t_MO_layJoys M1) fun q8 => (t_MO_moves_L37 x1 x2 FU q8 x1 0)) else (some (M1, (-1)))))))))
set_option maxHeartbeats 4000000 in
set_option maxRecDepth 100000 in
theorem k_MO_moves_L37 (l : Launch) {p : Program} {e : Env} {s : State} {m : MethodId} {below : List Frame} {meth : Method} {c : Code} {b n : Nat} {C : CT} (hlo : 231 ≤ n) (x1 : Int) (x2 : Int) (hx1 : InR x1) (hx2 : InR x2) (F : Cx b p m c b_MO_moves 5 s ([.ref (b + 191), vI x1, vI x2] : List Value).toArray "WardFallsModel" C n 231) (hlk : meth.locks = false) (hr : meth.sig.returnType = some .int) {res : Mem × Int} : ∀ (fu : Nat) (M : Mem) (v2_ : Int) (hv2_ : InR v2_) (v3_ : Int) (hv3_ : InR v3_) (H : Heap) (locs : List Loc) (ls : Array Slot), St b C n M s H locs → lv_has ls 5 [(0, .ref (b + 191)), (2, vI x2), (3, vI v2_), (4, vI v3_)] → t_MO_moves_L37 x1 x2 fu M v2_ v3_ = some res → W p l e (headSpec (wsM y_MO_moves b_MO_moves 5 (some .int)) (rmD 6)).room s m ([.ref (b + 191), vI x1, vI x2] : List Value).toArray below meth c H locs 0 0 (MQ below (QI b C n res.1 res.2) ([.ref (b + 191), vI x1, vI x2] : List Value).toArray s 0 0 (frb b)) (F0 m 37 ls []) := by
  intro fu
  induction fu with
  | zero => intro M v2_ hv2_ v3_ hv3_ H locs ls hS hl hT; exact absurd hT (by simp [t_MO_moves_L37])
  | succ fu ih =>
    intro M v2_ hv2_ v3_ hv3_ H locs ls hS hl hT
    rw [t_MO_moves_L37] at hT
    refine lv_aload_n F.hx F.hb d_MO_moves_37 rfl (lv_at hl 0 rfl) ?_
    refine lv_iload_n F.hx F.hb d_MO_moves_38 rfl (lv_at hl 2 rfl) ?_
    obtain ⟨q10, hq10, hT⟩ := q_obind hT
    refine r_backI F hS (r_runV (k := 191) (N := 68) (T := T1) (As := [vI v2_]) F hS (show 191 < 231 by decide) (show shK 191 = 5 from rfl) rfl (c_MO_moved l F.2.2.1 M v2_ hv2_ _ hq10) gs_MO_498 hd_MO_moved ⟨Nat.le_of_ble_eq_true rfl, Nat.le_of_ble_eq_true rfl⟩ rfl hl.1 (Nat.le_of_ble_eq_true rfl) ⟨Nat.zero_le _, Nat.zero_le _⟩ rfl d_MO_moves_39) (fun H locs hS h11 => ?_)
    refine lv_iload_n F.hx F.hb d_MO_moves_42 rfl (lv_at hl 2 rfl) ?_
    refine r_icmp_eq (tgt := 68) F.hx F.hb h11 hv2_ d_MO_moves_43 (by decide) (fun c12 => ?_) (fun c12 => ?_)
    · replace hT := (if_pos c12).symm.trans hT
      refine lv_iload_n F.hx F.hb d_MO_moves_68 rfl (lv_at hl 1 rfl) ?_
      refine r_if_ne (tgt := 77) F.hx F.hb hx2 d_MO_moves_69 (by decide) (fun c13 => ?_) (fun c13 => ?_)
      · replace hT := (if_neg c13).symm.trans hT
        refine lv_iload_n F.hx F.hb d_MO_moves_77 rfl (lv_at hl 2 rfl) ?_
        cases hT
        exact r_iret F hlk hr rfl hS hv2_ d_MO_moves_78
      · replace hT := (if_pos c13).symm.trans hT
        refine lv_iload F.hx F.hb d_MO_moves_72 (lv_at hl 3 rfl) ?_
        refine lv_goto (tgt := 78) F.hx F.hb d_MO_moves_74 (by decide) ?_
        cases hT
        exact r_iret F hlk hr rfl hS hv3_ d_MO_moves_78
    · replace hT := (if_neg c12).symm.trans hT
      refine lv_iload F.hx F.hb d_MO_moves_46 (lv_at hl 3 rfl) ?_
      refine r_bipush F.hx F.hb d_MO_moves_48 rfl ?_
      refine r_icmp_ne (tgt := 56) F.hx F.hb hv3_ (inr_c rfl) d_MO_moves_50 (by decide) (fun c14 => ?_) (fun c14 => ?_)
      · replace hT := (if_neg c14).symm.trans hT
        refine lv_aload_n F.hx F.hb d_MO_moves_56 rfl (lv_at hl 0 rfl) ?_
        refine lv_iload_n F.hx F.hb d_MO_moves_57 rfl (lv_at hl 2 rfl) ?_
        obtain ⟨q15, hq15, hT⟩ := q_obind hT
        refine r_backI F hS (r_runV (k := 191) (N := 68) (T := T1) (As := [vI v2_]) F hS (show 191 < 231 by decide) (show shK 191 = 5 from rfl) rfl (c_MO_moved l F.2.2.1 M v2_ hv2_ _ hq15) gs_MO_498 hd_MO_moved ⟨Nat.le_of_ble_eq_true rfl, Nat.le_of_ble_eq_true rfl⟩ rfl hl.1 (Nat.le_of_ble_eq_true rfl) ⟨Nat.zero_le _, Nat.zero_le _⟩ rfl d_MO_moves_58) (fun H locs hS h16 => ?_)
        refine lv_istore_n (lv' := [(3, vI q15), (0, .ref (b + 191)), (2, vI x2), (4, vI v3_)]) F.hx F.hb d_MO_moves_61 rfl hl (Nat.le_of_ble_eq_true rfl) rfl (fun ls hl => ?_)
        refine lv_iinc (v := Int32.ofInt (w32 (v3_ + 1))) (lv' := [(4, vI (w32 (v3_ + 1))), (3, vI q15), (0, .ref (b + 191)), (2, vI x2)]) F.hx F.hb d_MO_moves_62 hl (k := 3) rfl (q_of_add _ _) (Nat.le_of_ble_eq_true rfl) rfl (fun ls hl => ?_)
        refine lv_goto (tgt := 37) F.hx F.hb d_MO_moves_65 (by decide) ?_
        exact ih M q15 h16 (w32 (v3_ + 1)) (inr_w32 _) _ _ _ hS (lv_sub hl [2, 3, 1, 0] rfl) hT
      · replace hT := (if_pos c14).symm.trans hT
        refine r_bipush F.hx F.hb d_MO_moves_53 rfl ?_
        cases hT
        exact r_iret F hlk hr rfl hS (inr_c rfl) d_MO_moves_55
set_option maxHeartbeats 4000000 in
set_option maxRecDepth 100000 in
theorem c_MO_moves (l : Launch) {b n : Nat} {C : CT} (hlo : 231 ≤ n) (M : Mem) (x1 : Int) (x2 : Int) (hx1 : InR x1) (hx2 : InR x2) (res : Mem × Int) (hT : t_MO_moves M x1 x2 = some res) : CM l b C n 6 y_MO_moves b_MO_moves 5 (some .int) [.ref (b + 191), vI x1, vI x2] M (QI b C n res.1 res.2) := by
  refine CM.of (lo := 231) (ow := "WardFallsModel") (by decide) rfl (Nat.le_of_ble_eq_true rfl) hlo (fun p e s m below meth c F hlk hr hS ls hl => ?_)
  have hl : lv_has ls 5 [(0, .ref (b + 191)), (1, vI x1), (2, vI x2)] := hl
  unfold t_MO_moves at hT
  refine lv_aload_n F.hx F.hb d_MO_moves_0 rfl (lv_at hl 0 rfl) ?_
  refine r_iconst F.hx F.hb d_MO_moves_1 ?_
  refine r_putI (N := 68) (T := T1) (j := 0) F hS (show 191 < 231 by decide) (show shK 191 = 5 from rfl) (show shN 191 = 68 from rfl) rfl (Nat.le_of_ble_eq_true rfl) ing1 tyok1 nm1 rfl rfl rfl rfl rfl rfl mw_1389 (inr_c rfl) d_MO_moves_2 (fun H locs hS => ?_)
  obtain ⟨M1, eM1⟩ : ∃ q, q = (setI M 191 0 0) := ⟨_, rfl⟩
  replace hS : St b C n M1 s H locs := by rw [eM1]; exact hS
  replace hT := qlet_eq hT eM1
  refine lv_iload_n F.hx F.hb d_MO_moves_5 rfl (lv_at hl 1 rfl) ?_
  refine r_if_lt (tgt := 26) F.hx F.hb hx1 d_MO_moves_6 (by decide) (fun c2 => ?_) (fun c2 => ?_)
  · replace hT := (if_pos c2).symm.trans hT
    refine r_iconst F.hx F.hb d_MO_moves_26 ?_
    cases hT
    exact r_iret F hlk hr rfl hS (inr_c rfl) d_MO_moves_27
  · replace hT := (if_neg c2).symm.trans hT
    refine lv_iload_n F.hx F.hb d_MO_moves_9 rfl (lv_at hl 1 rfl) ?_
    refine lv_aload_n F.hx F.hb d_MO_moves_10 rfl (lv_at hl 0 rfl) ?_
    obtain ⟨q3, hq3⟩ : ∃ q, q = (t_MO_votes M1) := ⟨_, rfl⟩
    replace hT := qlet_eq hT hq3
    refine r_backI F hS (r_runV (k := 191) (N := 68) (T := T1) (As := []) F hS (show 191 < 231 by decide) (show shK 191 = 5 from rfl) rfl (c_MO_votes l F.2.2.1 M1 _ hq3.symm) gs_MO_483 hd_MO_votes ⟨Nat.le_of_ble_eq_true rfl, Nat.le_of_ble_eq_true rfl⟩ rfl hl.1 (Nat.le_of_ble_eq_true rfl) ⟨Nat.zero_le _, Nat.zero_le _⟩ rfl d_MO_moves_11) (fun H locs hS h4 => ?_)
    refine r_icmp_ge (tgt := 26) F.hx F.hb hx1 h4 d_MO_moves_14 (by decide) (fun c5 => ?_) (fun c5 => ?_)
    · replace hT := (if_pos c5).symm.trans hT
      refine r_iconst F.hx F.hb d_MO_moves_26 ?_
      cases hT
      exact r_iret F hlk hr rfl hS (inr_c rfl) d_MO_moves_27
    · replace hT := (if_neg c5).symm.trans hT
      refine lv_iload_n F.hx F.hb d_MO_moves_17 rfl (lv_at hl 2 rfl) ?_
      refine r_if_lt (tgt := 26) F.hx F.hb hx2 d_MO_moves_18 (by decide) (fun c6 => ?_) (fun c6 => ?_)
      · replace hT := (if_pos c6).symm.trans hT
        refine r_iconst F.hx F.hb d_MO_moves_26 ?_
        cases hT
        exact r_iret F hlk hr rfl hS (inr_c rfl) d_MO_moves_27
      · replace hT := (if_neg c6).symm.trans hT
        refine lv_iload_n F.hx F.hb d_MO_moves_21 rfl (lv_at hl 2 rfl) ?_
        refine r_iconst F.hx F.hb d_MO_moves_22 ?_
        refine r_icmp_le (tgt := 28) F.hx F.hb hx2 (inr_c rfl) d_MO_moves_23 (by decide) (fun c7 => ?_) (fun c7 => ?_)
        · replace hT := (if_pos c7).symm.trans hT
          refine lv_aload_n F.hx F.hb d_MO_moves_28 rfl (lv_at hl 0 rfl) ?_
          obtain ⟨q8, hq8, hT⟩ := q_obind hT
          refine r_backV F hS (r_runV (k := 191) (N := 68) (T := T1) (As := []) F hS (show 191 < 231 by decide) (show shK 191 = 5 from rfl) rfl (c_MO_layJoys l F.2.2.1 M1 _ hq8) gs_MO_489 hd_MO_layJoys ⟨Nat.le_of_ble_eq_true rfl, Nat.le_of_ble_eq_true rfl⟩ rfl hl.1 (Nat.le_of_ble_eq_true rfl) ⟨Nat.zero_le _, Nat.zero_le _⟩ rfl d_MO_moves_29) (fun H locs hS => ?_)
          refine lv_iload_n F.hx F.hb d_MO_moves_32 rfl (lv_at hl 1 rfl) ?_
          refine lv_istore_n (lv' := [(3, vI x1), (0, .ref (b + 191)), (1, vI x1), (2, vI x2)]) F.hx F.hb d_MO_moves_33 rfl hl (Nat.le_of_ble_eq_true rfl) rfl (fun ls hl => ?_)
          refine r_iconst F.hx F.hb d_MO_moves_34 ?_
          refine lv_istore (lv' := [(4, vI 0), (3, vI x1), (0, .ref (b + 191)), (1, vI x1), (2, vI x2)]) F.hx F.hb d_MO_moves_35 hl (Nat.le_of_ble_eq_true rfl) rfl (fun ls hl => ?_)
          exact k_MO_moves_L37 l hlo x1 x2 hx1 hx2 F hlk hr FU q8 x1 hx1 0 (inr_c rfl) _ _ _ hS (lv_sub hl [2, 4, 1, 0] rfl) hT
        · replace hT := (if_neg c7).symm.trans hT
          refine r_iconst F.hx F.hb d_MO_moves_26 ?_
          cases hT
          exact r_iret F hlk hr rfl hS (inr_c rfl) d_MO_moves_27
theorem d_MO_note_0 : decode b_MO_note 0 = .ok (.aload_n 0, 1) := dc_42 (by decide +kernel)
theorem d_MO_note_1 : decode b_MO_note 1 = .ok (.iconst 0, 1) := dc_3 (by decide +kernel)
theorem d_MO_note_2 : decode b_MO_note 2 = .ok (.putfield 145, 3) := dc_181 (by decide +kernel)
theorem d_MO_note_5 : decode b_MO_note 5 = .ok (.aload_n 0, 1) := dc_42 (by decide +kernel)
theorem d_MO_note_6 : decode b_MO_note 6 = .ok (.iload_n 1, 1) := dc_27 (by decide +kernel)
theorem d_MO_note_7 : decode b_MO_note 7 = .ok (.invokevirtual 428, 3) := dc_182 (by decide +kernel)
theorem d_MO_note_10 : decode b_MO_note 10 = .ok (.ifCond .eq 25, 3) := dc_153 (by decide +kernel)
theorem d_MO_note_13 : decode b_MO_note 13 = .ok (.iload_n 2, 1) := dc_28 (by decide +kernel)
theorem d_MO_note_14 : decode b_MO_note 14 = .ok (.iconst (-1), 1) := dc_2 (by decide +kernel)
theorem d_MO_note_15 : decode b_MO_note 15 = .ok (.if_icmp .eq 11, 3) := dc_159 (by decide +kernel)
theorem d_MO_note_18 : decode b_MO_note 18 = .ok (.aload_n 0, 1) := dc_42 (by decide +kernel)
theorem d_MO_note_19 : decode b_MO_note 19 = .ok (.iload_n 2, 1) := dc_28 (by decide +kernel)
theorem d_MO_note_20 : decode b_MO_note 20 = .ok (.invokevirtual 428, 3) := dc_182 (by decide +kernel)
theorem d_MO_note_23 : decode b_MO_note 23 = .ok (.ifCond .eq 12, 3) := dc_153 (by decide +kernel)
theorem d_MO_note_26 : decode b_MO_note 26 = .ok (.aload_n 0, 1) := dc_42 (by decide +kernel)
theorem d_MO_note_27 : decode b_MO_note 27 = .ok (.getfield 319, 3) := dc_180 (by decide +kernel)
theorem d_MO_note_30 : decode b_MO_note 30 = .ok (.bipush 24, 2) := dc_16 (by decide +kernel)
theorem d_MO_note_32 : decode b_MO_note 32 = .ok (.if_icmp .ne 5, 3) := dc_160 (by decide +kernel)
theorem d_MO_note_35 : decode b_MO_note 35 = .ok (.iconst (-1), 1) := dc_2 (by decide +kernel)
theorem d_MO_note_36 : decode b_MO_note 36 = .ok (.ireturn, 1) := dc_172 (by decide +kernel)
theorem d_MO_note_37 : decode b_MO_note 37 = .ok (.aload_n 0, 1) := dc_42 (by decide +kernel)
theorem d_MO_note_38 : decode b_MO_note 38 = .ok (.getfield 127, 3) := dc_180 (by decide +kernel)
theorem d_MO_note_41 : decode b_MO_note 41 = .ok (.aload_n 0, 1) := dc_42 (by decide +kernel)
theorem d_MO_note_42 : decode b_MO_note 42 = .ok (.getfield 319, 3) := dc_180 (by decide +kernel)
theorem d_MO_note_45 : decode b_MO_note 45 = .ok (.iload_n 1, 1) := dc_27 (by decide +kernel)
theorem d_MO_note_46 : decode b_MO_note 46 = .ok (.iastore, 1) := dc_79 (by decide +kernel)
theorem d_MO_note_47 : decode b_MO_note 47 = .ok (.aload_n 0, 1) := dc_42 (by decide +kernel)
theorem d_MO_note_48 : decode b_MO_note 48 = .ok (.getfield 130, 3) := dc_180 (by decide +kernel)
theorem d_MO_note_51 : decode b_MO_note 51 = .ok (.aload_n 0, 1) := dc_42 (by decide +kernel)
theorem d_MO_note_52 : decode b_MO_note 52 = .ok (.getfield 319, 3) := dc_180 (by decide +kernel)
theorem d_MO_note_55 : decode b_MO_note 55 = .ok (.iload_n 2, 1) := dc_28 (by decide +kernel)
theorem d_MO_note_56 : decode b_MO_note 56 = .ok (.iastore, 1) := dc_79 (by decide +kernel)
theorem d_MO_note_57 : decode b_MO_note 57 = .ok (.aload_n 0, 1) := dc_42 (by decide +kernel)
theorem d_MO_note_58 : decode b_MO_note 58 = .ok (.getfield 133, 3) := dc_180 (by decide +kernel)
theorem d_MO_note_61 : decode b_MO_note 61 = .ok (.aload_n 0, 1) := dc_42 (by decide +kernel)
theorem d_MO_note_62 : decode b_MO_note 62 = .ok (.getfield 319, 3) := dc_180 (by decide +kernel)
theorem d_MO_note_65 : decode b_MO_note 65 = .ok (.iconst 0, 1) := dc_3 (by decide +kernel)
theorem d_MO_note_66 : decode b_MO_note 66 = .ok (.bastore, 1) := dc_84 (by decide +kernel)
theorem d_MO_note_67 : decode b_MO_note 67 = .ok (.aload_n 0, 1) := dc_42 (by decide +kernel)
theorem d_MO_note_68 : decode b_MO_note 68 = .ok (.dup, 1) := dc_89 (by decide +kernel)
theorem d_MO_note_69 : decode b_MO_note 69 = .ok (.getfield 319, 3) := dc_180 (by decide +kernel)
theorem d_MO_note_72 : decode b_MO_note 72 = .ok (.iconst 1, 1) := dc_4 (by decide +kernel)
theorem d_MO_note_73 : decode b_MO_note 73 = .ok (.iadd, 1) := dc_96 (by decide +kernel)
theorem d_MO_note_74 : decode b_MO_note 74 = .ok (.putfield 319, 3) := dc_181 (by decide +kernel)
theorem d_MO_note_77 : decode b_MO_note 77 = .ok (.aload_n 0, 1) := dc_42 (by decide +kernel)
theorem d_MO_note_78 : decode b_MO_note 78 = .ok (.getfield 319, 3) := dc_180 (by decide +kernel)
theorem d_MO_note_81 : decode b_MO_note 81 = .ok (.iconst 1, 1) := dc_4 (by decide +kernel)
theorem d_MO_note_82 : decode b_MO_note 82 = .ok (.isub, 1) := dc_100 (by decide +kernel)
theorem d_MO_note_83 : decode b_MO_note 83 = .ok (.ireturn, 1) := dc_172 (by decide +kernel)
def t_MO_note_L26 (x1 : Int) (x2 : Int)  (M : Mem)  : Option (Mem × Int) := (if (M.1 191 60) = 24 then (some (M, (-1))) else (qguard (0 ≤ (M.1 191 60) ∧ (M.1 191 60) < 24) (qlet (setI M 226 (M.1 191 60) x1) fun M13 => (qguard (0 ≤ (M13.1 191 60) ∧ (M13.1 191 60) < 24) (qlet (setI M13 227 (M13.1 191 60) x2) fun M16 => (qguard (0 ≤ (M16.1 191 60) ∧ (M16.1 191 60) < 24) (qlet (setI M16 228 (M16.1 191 60) 0) fun M19 => (qlet (setI M19 191 60 (w32 ((M19.1 191 60) + 1))) fun M21 => (some (M21, (w32 ((M21.1 191 60) - 1))))))))))))
def t_MO_note (M : Mem) (x1 : Int) (x2 : Int) : Option (Mem × Int) := (qlet (setI M 191 0 0) fun M1 => (obind (t_MO_isOpen M1 x1) fun q2 => (if q2 = 0 then (some (M1, (-1))) else (if x2 = (-1) then (t_MO_note_L26 x1 x2 M1) else (obind (t_MO_isOpen M1 x2) fun q6 => (if q6 = 0 then (some (M1, (-1))) else (t_MO_note_L26 x1 x2 M1)))))))
set_option maxHeartbeats 4000000 in
set_option maxRecDepth 100000 in
theorem k_MO_note_L26 (l : Launch) {p : Program} {e : Env} {s : State} {m : MethodId} {below : List Frame} {meth : Method} {c : Code} {b n : Nat} {C : CT} (hlo : 231 ≤ n) (x1 : Int) (x2 : Int) (hx1 : InR x1) (hx2 : InR x2) (F : Cx b p m c b_MO_note 3 s ([.ref (b + 191), vI x1, vI x2] : List Value).toArray "WardFallsModel" C n 231) (hlk : meth.locks = false) (hr : meth.sig.returnType = some .int) {res : Mem × Int} (M : Mem)  (H : Heap) (locs : List Loc) (ls : Array Slot) (hS : St b C n M s H locs) (hl : lv_has ls 3 [(0, .ref (b + 191)), (1, vI x1), (2, vI x2)]) (hT : t_MO_note_L26 x1 x2 M = some res) : W p l e (headSpec (wsM y_MO_note b_MO_note 3 (some .int)) (rmD 3)).room s m ([.ref (b + 191), vI x1, vI x2] : List Value).toArray below meth c H locs 0 0 (MQ below (QI b C n res.1 res.2) ([.ref (b + 191), vI x1, vI x2] : List Value).toArray s 0 0 (frb b)) (F0 m 26 ls []) := by
  unfold t_MO_note_L26 at hT
  refine lv_aload_n F.hx F.hb d_MO_note_26 rfl (lv_at hl 0 rfl) ?_
  refine r_get (v := vI (M.1 191 60)) (N := 68) (T := T1) (j := 60) F hS (show 191 < 231 by decide) (show shK 191 = 5 from rfl) (show shN 191 = 68 from rfl) rfl (Nat.le_of_ble_eq_true rfl) ing1 mw_1449 (fv_int rfl) d_MO_note_27 ?_
  have i9 := hS.rng 191 60
  refine r_bipush F.hx F.hb d_MO_note_30 rfl ?_
  refine r_icmp_ne (tgt := 37) F.hx F.hb i9 (inr_c rfl) d_MO_note_32 (by decide) (fun c10 => ?_) (fun c10 => ?_)
  · replace hT := (if_neg c10).symm.trans hT
    refine lv_aload_n F.hx F.hb d_MO_note_37 rfl (lv_at hl 0 rfl) ?_
    refine r_get (v := .ref (b + 226)) (N := 68) (T := T1) (j := 62) F hS (show 191 < 231 by decide) (show shK 191 = 5 from rfl) (show shN 191 = 68 from rfl) rfl (Nat.le_of_ble_eq_true rfl) ing1 mw_1451 (fv_sg rfl rfl rfl) d_MO_note_38 ?_
    refine lv_aload_n F.hx F.hb d_MO_note_41 rfl (lv_at hl 0 rfl) ?_
    refine r_get (v := vI (M.1 191 60)) (N := 68) (T := T1) (j := 60) F hS (show 191 < 231 by decide) (show shK 191 = 5 from rfl) (show shN 191 = 68 from rfl) rfl (Nat.le_of_ble_eq_true rfl) ing1 mw_1449 (fv_int rfl) d_MO_note_42 ?_
    have i11 := hS.rng 191 60
    refine lv_iload_n F.hx F.hb d_MO_note_45 rfl (lv_at hl 1 rfl) ?_
    obtain ⟨⟨g12a, g12b⟩, hT⟩ := q_guard hT
    refine r_iast F hS (show 226 < 231 by decide) (show shK 226 = 0 from rfl) (show shN 226 = 24 from rfl) i11 hx1 g12a g12b d_MO_note_46 (fun H locs hS => ?_)
    obtain ⟨M13, eM13⟩ : ∃ q, q = (setI M 226 (M.1 191 60) x1) := ⟨_, rfl⟩
    replace hS : St b C n M13 s H locs := by rw [eM13]; exact hS
    replace hT := qlet_eq hT eM13
    refine lv_aload_n F.hx F.hb d_MO_note_47 rfl (lv_at hl 0 rfl) ?_
    refine r_get (v := .ref (b + 227)) (N := 68) (T := T1) (j := 63) F hS (show 191 < 231 by decide) (show shK 191 = 5 from rfl) (show shN 191 = 68 from rfl) rfl (Nat.le_of_ble_eq_true rfl) ing1 mw_1452 (fv_sg rfl rfl rfl) d_MO_note_48 ?_
    refine lv_aload_n F.hx F.hb d_MO_note_51 rfl (lv_at hl 0 rfl) ?_
    refine r_get (v := vI (M13.1 191 60)) (N := 68) (T := T1) (j := 60) F hS (show 191 < 231 by decide) (show shK 191 = 5 from rfl) (show shN 191 = 68 from rfl) rfl (Nat.le_of_ble_eq_true rfl) ing1 mw_1449 (fv_int rfl) d_MO_note_52 ?_
    have i14 := hS.rng 191 60
    refine lv_iload_n F.hx F.hb d_MO_note_55 rfl (lv_at hl 2 rfl) ?_
    obtain ⟨⟨g15a, g15b⟩, hT⟩ := q_guard hT
    refine r_iast F hS (show 227 < 231 by decide) (show shK 227 = 0 from rfl) (show shN 227 = 24 from rfl) i14 hx2 g15a g15b d_MO_note_56 (fun H locs hS => ?_)
    obtain ⟨M16, eM16⟩ : ∃ q, q = (setI M13 227 (M13.1 191 60) x2) := ⟨_, rfl⟩
    replace hS : St b C n M16 s H locs := by rw [eM16]; exact hS
    replace hT := qlet_eq hT eM16
    refine lv_aload_n F.hx F.hb d_MO_note_57 rfl (lv_at hl 0 rfl) ?_
    refine r_get (v := .ref (b + 228)) (N := 68) (T := T1) (j := 64) F hS (show 191 < 231 by decide) (show shK 191 = 5 from rfl) (show shN 191 = 68 from rfl) rfl (Nat.le_of_ble_eq_true rfl) ing1 mw_1453 (fv_sg rfl rfl rfl) d_MO_note_58 ?_
    refine lv_aload_n F.hx F.hb d_MO_note_61 rfl (lv_at hl 0 rfl) ?_
    refine r_get (v := vI (M16.1 191 60)) (N := 68) (T := T1) (j := 60) F hS (show 191 < 231 by decide) (show shK 191 = 5 from rfl) (show shN 191 = 68 from rfl) rfl (Nat.le_of_ble_eq_true rfl) ing1 mw_1449 (fv_int rfl) d_MO_note_62 ?_
    have i17 := hS.rng 191 60
    refine r_iconst F.hx F.hb d_MO_note_65 ?_
    obtain ⟨⟨g18a, g18b⟩, hT⟩ := q_guard hT
    refine r_zast F hS (show 228 < 231 by decide) (show shK 228 = 1 from rfl) (show shN 228 = 24 from rfl) i17 (Or.inl rfl) g18a g18b d_MO_note_66 (fun H locs hS => ?_)
    obtain ⟨M19, eM19⟩ : ∃ q, q = (setI M16 228 (M16.1 191 60) 0) := ⟨_, rfl⟩
    replace hS : St b C n M19 s H locs := by rw [eM19]; exact hS
    replace hT := qlet_eq hT eM19
    refine lv_aload_n F.hx F.hb d_MO_note_67 rfl (lv_at hl 0 rfl) ?_
    refine lv_dup F.hx F.hb d_MO_note_68 rfl ?_
    refine r_get (v := vI (M19.1 191 60)) (N := 68) (T := T1) (j := 60) F hS (show 191 < 231 by decide) (show shK 191 = 5 from rfl) (show shN 191 = 68 from rfl) rfl (Nat.le_of_ble_eq_true rfl) ing1 mw_1449 (fv_int rfl) d_MO_note_69 ?_
    have i20 := hS.rng 191 60
    refine r_iconst F.hx F.hb d_MO_note_72 ?_
    refine r_iadd F.hx F.hb d_MO_note_73 ?_
    refine r_putI (N := 68) (T := T1) (j := 60) F hS (show 191 < 231 by decide) (show shK 191 = 5 from rfl) (show shN 191 = 68 from rfl) rfl (Nat.le_of_ble_eq_true rfl) ing1 tyok1 nm1 rfl rfl rfl rfl rfl rfl mw_1449 (inr_w32 _) d_MO_note_74 (fun H locs hS => ?_)
    obtain ⟨M21, eM21⟩ : ∃ q, q = (setI M19 191 60 (w32 ((M19.1 191 60) + 1))) := ⟨_, rfl⟩
    replace hS : St b C n M21 s H locs := by rw [eM21]; exact hS
    replace hT := qlet_eq hT eM21
    refine lv_aload_n F.hx F.hb d_MO_note_77 rfl (lv_at hl 0 rfl) ?_
    refine r_get (v := vI (M21.1 191 60)) (N := 68) (T := T1) (j := 60) F hS (show 191 < 231 by decide) (show shK 191 = 5 from rfl) (show shN 191 = 68 from rfl) rfl (Nat.le_of_ble_eq_true rfl) ing1 mw_1449 (fv_int rfl) d_MO_note_78 ?_
    have i22 := hS.rng 191 60
    refine r_iconst F.hx F.hb d_MO_note_81 ?_
    refine r_isub F.hx F.hb d_MO_note_82 ?_
    cases hT
    exact r_iret F hlk hr rfl hS (inr_w32 _) d_MO_note_83
  · replace hT := (if_pos c10).symm.trans hT
    refine r_iconst F.hx F.hb d_MO_note_35 ?_
    cases hT
    exact r_iret F hlk hr rfl hS (inr_c rfl) d_MO_note_36
set_option maxHeartbeats 4000000 in
set_option maxRecDepth 100000 in
theorem c_MO_note (l : Launch) {b n : Nat} {C : CT} (hlo : 231 ≤ n) (M : Mem) (x1 : Int) (x2 : Int) (hx1 : InR x1) (hx2 : InR x2) (res : Mem × Int) (hT : t_MO_note M x1 x2 = some res) : CM l b C n 3 y_MO_note b_MO_note 3 (some .int) [.ref (b + 191), vI x1, vI x2] M (QI b C n res.1 res.2) := by
  refine CM.of (lo := 231) (ow := "WardFallsModel") (by decide) rfl (Nat.le_of_ble_eq_true rfl) hlo (fun p e s m below meth c F hlk hr hS ls hl => ?_)
  have hl : lv_has ls 3 [(0, .ref (b + 191)), (1, vI x1), (2, vI x2)] := hl
  unfold t_MO_note at hT
  refine lv_aload_n F.hx F.hb d_MO_note_0 rfl (lv_at hl 0 rfl) ?_
  refine r_iconst F.hx F.hb d_MO_note_1 ?_
  refine r_putI (N := 68) (T := T1) (j := 0) F hS (show 191 < 231 by decide) (show shK 191 = 5 from rfl) (show shN 191 = 68 from rfl) rfl (Nat.le_of_ble_eq_true rfl) ing1 tyok1 nm1 rfl rfl rfl rfl rfl rfl mw_1389 (inr_c rfl) d_MO_note_2 (fun H locs hS => ?_)
  obtain ⟨M1, eM1⟩ : ∃ q, q = (setI M 191 0 0) := ⟨_, rfl⟩
  replace hS : St b C n M1 s H locs := by rw [eM1]; exact hS
  replace hT := qlet_eq hT eM1
  refine lv_aload_n F.hx F.hb d_MO_note_5 rfl (lv_at hl 0 rfl) ?_
  refine lv_iload_n F.hx F.hb d_MO_note_6 rfl (lv_at hl 1 rfl) ?_
  obtain ⟨q2, hq2, hT⟩ := q_obind hT
  refine r_backZ F hS (r_runV (k := 191) (N := 68) (T := T1) (As := [vI x1]) F hS (show 191 < 231 by decide) (show shK 191 = 5 from rfl) rfl (c_MO_isOpen l F.2.2.1 M1 x1 hx1 _ hq2) gs_MO_428 hd_MO_isOpen ⟨Nat.le_of_ble_eq_true rfl, Nat.le_of_ble_eq_true rfl⟩ rfl hl.1 (Nat.le_of_ble_eq_true rfl) ⟨Nat.zero_le _, Nat.zero_le _⟩ rfl d_MO_note_7) (fun H locs hS h3 => ?_)
  refine r_if_eq (tgt := 35) F.hx F.hb (inr_z h3) d_MO_note_10 (by decide) (fun c4 => ?_) (fun c4 => ?_)
  · replace hT := (if_pos c4).symm.trans hT
    refine r_iconst F.hx F.hb d_MO_note_35 ?_
    cases hT
    exact r_iret F hlk hr rfl hS (inr_c rfl) d_MO_note_36
  · replace hT := (if_neg c4).symm.trans hT
    refine lv_iload_n F.hx F.hb d_MO_note_13 rfl (lv_at hl 2 rfl) ?_
    refine r_iconst F.hx F.hb d_MO_note_14 ?_
    refine r_icmp_eq (tgt := 26) F.hx F.hb hx2 (inr_c rfl) d_MO_note_15 (by decide) (fun c5 => ?_) (fun c5 => ?_)
    · replace hT := (if_pos c5).symm.trans hT
      exact k_MO_note_L26 l hlo x1 x2 hx1 hx2 F hlk hr M1 _ _ _ hS (lv_sub hl [0, 1, 2] rfl) hT
    · replace hT := (if_neg c5).symm.trans hT
      refine lv_aload_n F.hx F.hb d_MO_note_18 rfl (lv_at hl 0 rfl) ?_
      refine lv_iload_n F.hx F.hb d_MO_note_19 rfl (lv_at hl 2 rfl) ?_
      obtain ⟨q6, hq6, hT⟩ := q_obind hT
      refine r_backZ F hS (r_runV (k := 191) (N := 68) (T := T1) (As := [vI x2]) F hS (show 191 < 231 by decide) (show shK 191 = 5 from rfl) rfl (c_MO_isOpen l F.2.2.1 M1 x2 hx2 _ hq6) gs_MO_428 hd_MO_isOpen ⟨Nat.le_of_ble_eq_true rfl, Nat.le_of_ble_eq_true rfl⟩ rfl hl.1 (Nat.le_of_ble_eq_true rfl) ⟨Nat.zero_le _, Nat.zero_le _⟩ rfl d_MO_note_20) (fun H locs hS h7 => ?_)
      refine r_if_eq (tgt := 35) F.hx F.hb (inr_z h7) d_MO_note_23 (by decide) (fun c8 => ?_) (fun c8 => ?_)
      · replace hT := (if_pos c8).symm.trans hT
        refine r_iconst F.hx F.hb d_MO_note_35 ?_
        cases hT
        exact r_iret F hlk hr rfl hS (inr_c rfl) d_MO_note_36
      · replace hT := (if_neg c8).symm.trans hT
        exact k_MO_note_L26 l hlo x1 x2 hx1 hx2 F hlk hr M1 _ _ _ hS (lv_sub hl [0, 1, 2] rfl) hT
theorem d_MO_strike_0 : decode b_MO_strike 0 = .ok (.aload_n 0, 1) := dc_42 (by decide +kernel)
theorem d_MO_strike_1 : decode b_MO_strike 1 = .ok (.iconst 0, 1) := dc_3 (by decide +kernel)
theorem d_MO_strike_2 : decode b_MO_strike 2 = .ok (.putfield 145, 3) := dc_181 (by decide +kernel)
theorem d_MO_strike_5 : decode b_MO_strike 5 = .ok (.iload_n 1, 1) := dc_27 (by decide +kernel)
theorem d_MO_strike_6 : decode b_MO_strike 6 = .ok (.ifCond .lt 20, 3) := dc_155 (by decide +kernel)
theorem d_MO_strike_9 : decode b_MO_strike 9 = .ok (.iload_n 1, 1) := dc_27 (by decide +kernel)
theorem d_MO_strike_10 : decode b_MO_strike 10 = .ok (.aload_n 0, 1) := dc_42 (by decide +kernel)
theorem d_MO_strike_11 : decode b_MO_strike 11 = .ok (.getfield 319, 3) := dc_180 (by decide +kernel)
theorem d_MO_strike_14 : decode b_MO_strike 14 = .ok (.if_icmp .ge 12, 3) := dc_162 (by decide +kernel)
theorem d_MO_strike_17 : decode b_MO_strike 17 = .ok (.aload_n 0, 1) := dc_42 (by decide +kernel)
theorem d_MO_strike_18 : decode b_MO_strike 18 = .ok (.getfield 319, 3) := dc_180 (by decide +kernel)
theorem d_MO_strike_21 : decode b_MO_strike 21 = .ok (.bipush 24, 2) := dc_16 (by decide +kernel)
theorem d_MO_strike_23 : decode b_MO_strike 23 = .ok (.if_icmp .ne 5, 3) := dc_160 (by decide +kernel)
theorem d_MO_strike_26 : decode b_MO_strike 26 = .ok (.iconst (-1), 1) := dc_2 (by decide +kernel)
theorem d_MO_strike_27 : decode b_MO_strike 27 = .ok (.ireturn, 1) := dc_172 (by decide +kernel)
theorem d_MO_strike_28 : decode b_MO_strike 28 = .ok (.aload_n 0, 1) := dc_42 (by decide +kernel)
theorem d_MO_strike_29 : decode b_MO_strike 29 = .ok (.getfield 127, 3) := dc_180 (by decide +kernel)
theorem d_MO_strike_32 : decode b_MO_strike 32 = .ok (.aload_n 0, 1) := dc_42 (by decide +kernel)
theorem d_MO_strike_33 : decode b_MO_strike 33 = .ok (.getfield 319, 3) := dc_180 (by decide +kernel)
theorem d_MO_strike_36 : decode b_MO_strike 36 = .ok (.iload_n 1, 1) := dc_27 (by decide +kernel)
theorem d_MO_strike_37 : decode b_MO_strike 37 = .ok (.iastore, 1) := dc_79 (by decide +kernel)
theorem d_MO_strike_38 : decode b_MO_strike 38 = .ok (.aload_n 0, 1) := dc_42 (by decide +kernel)
theorem d_MO_strike_39 : decode b_MO_strike 39 = .ok (.getfield 133, 3) := dc_180 (by decide +kernel)
theorem d_MO_strike_42 : decode b_MO_strike 42 = .ok (.aload_n 0, 1) := dc_42 (by decide +kernel)
theorem d_MO_strike_43 : decode b_MO_strike 43 = .ok (.getfield 319, 3) := dc_180 (by decide +kernel)
theorem d_MO_strike_46 : decode b_MO_strike 46 = .ok (.iconst 1, 1) := dc_4 (by decide +kernel)
theorem d_MO_strike_47 : decode b_MO_strike 47 = .ok (.bastore, 1) := dc_84 (by decide +kernel)
theorem d_MO_strike_48 : decode b_MO_strike 48 = .ok (.aload_n 0, 1) := dc_42 (by decide +kernel)
theorem d_MO_strike_49 : decode b_MO_strike 49 = .ok (.dup, 1) := dc_89 (by decide +kernel)
theorem d_MO_strike_50 : decode b_MO_strike 50 = .ok (.getfield 319, 3) := dc_180 (by decide +kernel)
theorem d_MO_strike_53 : decode b_MO_strike 53 = .ok (.iconst 1, 1) := dc_4 (by decide +kernel)
theorem d_MO_strike_54 : decode b_MO_strike 54 = .ok (.iadd, 1) := dc_96 (by decide +kernel)
theorem d_MO_strike_55 : decode b_MO_strike 55 = .ok (.putfield 319, 3) := dc_181 (by decide +kernel)
theorem d_MO_strike_58 : decode b_MO_strike 58 = .ok (.aload_n 0, 1) := dc_42 (by decide +kernel)
theorem d_MO_strike_59 : decode b_MO_strike 59 = .ok (.getfield 319, 3) := dc_180 (by decide +kernel)
theorem d_MO_strike_62 : decode b_MO_strike 62 = .ok (.iconst 1, 1) := dc_4 (by decide +kernel)
theorem d_MO_strike_63 : decode b_MO_strike 63 = .ok (.isub, 1) := dc_100 (by decide +kernel)
theorem d_MO_strike_64 : decode b_MO_strike 64 = .ok (.ireturn, 1) := dc_172 (by decide +kernel)
def t_MO_strike (M : Mem) (x1 : Int) : Option (Mem × Int) := (qlet (setI M 191 0 0) fun M1 => (if x1 < 0 then (some (M1, (-1))) else (if (M1.1 191 60) ≤ x1 then (some (M1, (-1))) else (if (M1.1 191 60) = 24 then (some (M1, (-1))) else (qguard (0 ≤ (M1.1 191 60) ∧ (M1.1 191 60) < 24) (qlet (setI M1 226 (M1.1 191 60) x1) fun M9 => (qguard (0 ≤ (M9.1 191 60) ∧ (M9.1 191 60) < 24) (qlet (setI M9 228 (M9.1 191 60) 1) fun M12 => (qlet (setI M12 191 60 (w32 ((M12.1 191 60) + 1))) fun M14 => (some (M14, (w32 ((M14.1 191 60) - 1)))))))))))))
set_option maxHeartbeats 4000000 in
set_option maxRecDepth 100000 in
theorem c_MO_strike (l : Launch) {b n : Nat} {C : CT} (hlo : 231 ≤ n) (M : Mem) (x1 : Int) (hx1 : InR x1) (res : Mem × Int) (hT : t_MO_strike M x1 = some res) : CM l b C n 0 y_MO_strike b_MO_strike 2 (some .int) [.ref (b + 191), vI x1] M (QI b C n res.1 res.2) := by
  refine CM.of (lo := 231) (ow := "WardFallsModel") (by decide) rfl (Nat.le_of_ble_eq_true rfl) hlo (fun p e s m below meth c F hlk hr hS ls hl => ?_)
  have hl : lv_has ls 2 [(0, .ref (b + 191)), (1, vI x1)] := hl
  unfold t_MO_strike at hT
  refine lv_aload_n F.hx F.hb d_MO_strike_0 rfl (lv_at hl 0 rfl) ?_
  refine r_iconst F.hx F.hb d_MO_strike_1 ?_
  refine r_putI (N := 68) (T := T1) (j := 0) F hS (show 191 < 231 by decide) (show shK 191 = 5 from rfl) (show shN 191 = 68 from rfl) rfl (Nat.le_of_ble_eq_true rfl) ing1 tyok1 nm1 rfl rfl rfl rfl rfl rfl mw_1389 (inr_c rfl) d_MO_strike_2 (fun H locs hS => ?_)
  obtain ⟨M1, eM1⟩ : ∃ q, q = (setI M 191 0 0) := ⟨_, rfl⟩
  replace hS : St b C n M1 s H locs := by rw [eM1]; exact hS
  replace hT := qlet_eq hT eM1
  refine lv_iload_n F.hx F.hb d_MO_strike_5 rfl (lv_at hl 1 rfl) ?_
  refine r_if_lt (tgt := 26) F.hx F.hb hx1 d_MO_strike_6 (by decide) (fun c2 => ?_) (fun c2 => ?_)
  · replace hT := (if_pos c2).symm.trans hT
    refine r_iconst F.hx F.hb d_MO_strike_26 ?_
    cases hT
    exact r_iret F hlk hr rfl hS (inr_c rfl) d_MO_strike_27
  · replace hT := (if_neg c2).symm.trans hT
    refine lv_iload_n F.hx F.hb d_MO_strike_9 rfl (lv_at hl 1 rfl) ?_
    refine lv_aload_n F.hx F.hb d_MO_strike_10 rfl (lv_at hl 0 rfl) ?_
    refine r_get (v := vI (M1.1 191 60)) (N := 68) (T := T1) (j := 60) F hS (show 191 < 231 by decide) (show shK 191 = 5 from rfl) (show shN 191 = 68 from rfl) rfl (Nat.le_of_ble_eq_true rfl) ing1 mw_1449 (fv_int rfl) d_MO_strike_11 ?_
    have i3 := hS.rng 191 60
    refine r_icmp_ge (tgt := 26) F.hx F.hb hx1 i3 d_MO_strike_14 (by decide) (fun c4 => ?_) (fun c4 => ?_)
    · replace hT := (if_pos c4).symm.trans hT
      refine r_iconst F.hx F.hb d_MO_strike_26 ?_
      cases hT
      exact r_iret F hlk hr rfl hS (inr_c rfl) d_MO_strike_27
    · replace hT := (if_neg c4).symm.trans hT
      refine lv_aload_n F.hx F.hb d_MO_strike_17 rfl (lv_at hl 0 rfl) ?_
      refine r_get (v := vI (M1.1 191 60)) (N := 68) (T := T1) (j := 60) F hS (show 191 < 231 by decide) (show shK 191 = 5 from rfl) (show shN 191 = 68 from rfl) rfl (Nat.le_of_ble_eq_true rfl) ing1 mw_1449 (fv_int rfl) d_MO_strike_18 ?_
      have i5 := hS.rng 191 60
      refine r_bipush F.hx F.hb d_MO_strike_21 rfl ?_
      refine r_icmp_ne (tgt := 28) F.hx F.hb i5 (inr_c rfl) d_MO_strike_23 (by decide) (fun c6 => ?_) (fun c6 => ?_)
      · replace hT := (if_neg c6).symm.trans hT
        refine lv_aload_n F.hx F.hb d_MO_strike_28 rfl (lv_at hl 0 rfl) ?_
        refine r_get (v := .ref (b + 226)) (N := 68) (T := T1) (j := 62) F hS (show 191 < 231 by decide) (show shK 191 = 5 from rfl) (show shN 191 = 68 from rfl) rfl (Nat.le_of_ble_eq_true rfl) ing1 mw_1451 (fv_sg rfl rfl rfl) d_MO_strike_29 ?_
        refine lv_aload_n F.hx F.hb d_MO_strike_32 rfl (lv_at hl 0 rfl) ?_
        refine r_get (v := vI (M1.1 191 60)) (N := 68) (T := T1) (j := 60) F hS (show 191 < 231 by decide) (show shK 191 = 5 from rfl) (show shN 191 = 68 from rfl) rfl (Nat.le_of_ble_eq_true rfl) ing1 mw_1449 (fv_int rfl) d_MO_strike_33 ?_
        have i7 := hS.rng 191 60
        refine lv_iload_n F.hx F.hb d_MO_strike_36 rfl (lv_at hl 1 rfl) ?_
        obtain ⟨⟨g8a, g8b⟩, hT⟩ := q_guard hT
        refine r_iast F hS (show 226 < 231 by decide) (show shK 226 = 0 from rfl) (show shN 226 = 24 from rfl) i7 hx1 g8a g8b d_MO_strike_37 (fun H locs hS => ?_)
        obtain ⟨M9, eM9⟩ : ∃ q, q = (setI M1 226 (M1.1 191 60) x1) := ⟨_, rfl⟩
        replace hS : St b C n M9 s H locs := by rw [eM9]; exact hS
        replace hT := qlet_eq hT eM9
        refine lv_aload_n F.hx F.hb d_MO_strike_38 rfl (lv_at hl 0 rfl) ?_
        refine r_get (v := .ref (b + 228)) (N := 68) (T := T1) (j := 64) F hS (show 191 < 231 by decide) (show shK 191 = 5 from rfl) (show shN 191 = 68 from rfl) rfl (Nat.le_of_ble_eq_true rfl) ing1 mw_1453 (fv_sg rfl rfl rfl) d_MO_strike_39 ?_
        refine lv_aload_n F.hx F.hb d_MO_strike_42 rfl (lv_at hl 0 rfl) ?_
        refine r_get (v := vI (M9.1 191 60)) (N := 68) (T := T1) (j := 60) F hS (show 191 < 231 by decide) (show shK 191 = 5 from rfl) (show shN 191 = 68 from rfl) rfl (Nat.le_of_ble_eq_true rfl) ing1 mw_1449 (fv_int rfl) d_MO_strike_43 ?_
        have i10 := hS.rng 191 60
        refine r_iconst F.hx F.hb d_MO_strike_46 ?_
        obtain ⟨⟨g11a, g11b⟩, hT⟩ := q_guard hT
        refine r_zast F hS (show 228 < 231 by decide) (show shK 228 = 1 from rfl) (show shN 228 = 24 from rfl) i10 (Or.inr rfl) g11a g11b d_MO_strike_47 (fun H locs hS => ?_)
        obtain ⟨M12, eM12⟩ : ∃ q, q = (setI M9 228 (M9.1 191 60) 1) := ⟨_, rfl⟩
        replace hS : St b C n M12 s H locs := by rw [eM12]; exact hS
        replace hT := qlet_eq hT eM12
        refine lv_aload_n F.hx F.hb d_MO_strike_48 rfl (lv_at hl 0 rfl) ?_
        refine lv_dup F.hx F.hb d_MO_strike_49 rfl ?_
        refine r_get (v := vI (M12.1 191 60)) (N := 68) (T := T1) (j := 60) F hS (show 191 < 231 by decide) (show shK 191 = 5 from rfl) (show shN 191 = 68 from rfl) rfl (Nat.le_of_ble_eq_true rfl) ing1 mw_1449 (fv_int rfl) d_MO_strike_50 ?_
        have i13 := hS.rng 191 60
        refine r_iconst F.hx F.hb d_MO_strike_53 ?_
        refine r_iadd F.hx F.hb d_MO_strike_54 ?_
        refine r_putI (N := 68) (T := T1) (j := 60) F hS (show 191 < 231 by decide) (show shK 191 = 5 from rfl) (show shN 191 = 68 from rfl) rfl (Nat.le_of_ble_eq_true rfl) ing1 tyok1 nm1 rfl rfl rfl rfl rfl rfl mw_1449 (inr_w32 _) d_MO_strike_55 (fun H locs hS => ?_)
        obtain ⟨M14, eM14⟩ : ∃ q, q = (setI M12 191 60 (w32 ((M12.1 191 60) + 1))) := ⟨_, rfl⟩
        replace hS : St b C n M14 s H locs := by rw [eM14]; exact hS
        replace hT := qlet_eq hT eM14
        refine lv_aload_n F.hx F.hb d_MO_strike_58 rfl (lv_at hl 0 rfl) ?_
        refine r_get (v := vI (M14.1 191 60)) (N := 68) (T := T1) (j := 60) F hS (show 191 < 231 by decide) (show shK 191 = 5 from rfl) (show shN 191 = 68 from rfl) rfl (Nat.le_of_ble_eq_true rfl) ing1 mw_1449 (fv_int rfl) d_MO_strike_59 ?_
        have i15 := hS.rng 191 60
        refine r_iconst F.hx F.hb d_MO_strike_62 ?_
        refine r_isub F.hx F.hb d_MO_strike_63 ?_
        cases hT
        exact r_iret F hlk hr rfl hS (inr_w32 _) d_MO_strike_64
      · replace hT := (if_pos c6).symm.trans hT
        refine r_iconst F.hx F.hb d_MO_strike_26 ?_
        cases hT
        exact r_iret F hlk hr rfl hS (inr_c rfl) d_MO_strike_27
theorem d_MO_known_0 : decode b_MO_known 0 = .ok (.aload_n 0, 1) := dc_42 (by decide +kernel)
theorem d_MO_known_1 : decode b_MO_known 1 = .ok (.iconst 0, 1) := dc_3 (by decide +kernel)
theorem d_MO_known_2 : decode b_MO_known 2 = .ok (.putfield 145, 3) := dc_181 (by decide +kernel)
theorem d_MO_known_5 : decode b_MO_known 5 = .ok (.iload_n 1, 1) := dc_27 (by decide +kernel)
theorem d_MO_known_6 : decode b_MO_known 6 = .ok (.iconst (-1), 1) := dc_2 (by decide +kernel)
theorem d_MO_known_7 : decode b_MO_known 7 = .ok (.if_icmp .lt 11, 3) := dc_161 (by decide +kernel)
theorem d_MO_known_10 : decode b_MO_known 10 = .ok (.iload_n 1, 1) := dc_27 (by decide +kernel)
theorem d_MO_known_11 : decode b_MO_known 11 = .ok (.aload_n 0, 1) := dc_42 (by decide +kernel)
theorem d_MO_known_12 : decode b_MO_known 12 = .ok (.getfield 319, 3) := dc_180 (by decide +kernel)
theorem d_MO_known_15 : decode b_MO_known 15 = .ok (.if_icmp .le 5, 3) := dc_164 (by decide +kernel)
theorem d_MO_known_18 : decode b_MO_known 18 = .ok (.iconst 0, 1) := dc_3 (by decide +kernel)
theorem d_MO_known_19 : decode b_MO_known 19 = .ok (.ireturn, 1) := dc_172 (by decide +kernel)
theorem d_MO_known_20 : decode b_MO_known 20 = .ok (.aload_n 0, 1) := dc_42 (by decide +kernel)
theorem d_MO_known_21 : decode b_MO_known 21 = .ok (.iload_n 1, 1) := dc_27 (by decide +kernel)
theorem d_MO_known_22 : decode b_MO_known 22 = .ok (.putfield 124, 3) := dc_181 (by decide +kernel)
theorem d_MO_known_25 : decode b_MO_known 25 = .ok (.iconst 1, 1) := dc_4 (by decide +kernel)
theorem d_MO_known_26 : decode b_MO_known 26 = .ok (.ireturn, 1) := dc_172 (by decide +kernel)
def t_MO_known (M : Mem) (x1 : Int) : Mem × Int := (qlet (setI M 191 0 0) fun M1 => (if x1 < (-1) then (M1, 0) else (if x1 ≤ (M1.1 191 60) then (qlet (setI M1 191 61 x1) fun M5 => (M5, 1)) else (M1, 0))))
set_option maxHeartbeats 4000000 in
set_option maxRecDepth 100000 in
theorem c_MO_known (l : Launch) {b n : Nat} {C : CT} (hlo : 231 ≤ n) (M : Mem) (x1 : Int) (hx1 : InR x1) (res : Mem × Int) (hT : t_MO_known M x1 = res) : CM l b C n 0 y_MO_known b_MO_known 2 (some .boolean) [.ref (b + 191), vI x1] M (QZ b C n res.1 res.2) := by
  refine CM.of (lo := 231) (ow := "WardFallsModel") (by decide) rfl (Nat.le_of_ble_eq_true rfl) hlo (fun p e s m below meth c F hlk hr hS ls hl => ?_)
  have hl : lv_has ls 2 [(0, .ref (b + 191)), (1, vI x1)] := hl
  unfold t_MO_known at hT
  refine lv_aload_n F.hx F.hb d_MO_known_0 rfl (lv_at hl 0 rfl) ?_
  refine r_iconst F.hx F.hb d_MO_known_1 ?_
  refine r_putI (N := 68) (T := T1) (j := 0) F hS (show 191 < 231 by decide) (show shK 191 = 5 from rfl) (show shN 191 = 68 from rfl) rfl (Nat.le_of_ble_eq_true rfl) ing1 tyok1 nm1 rfl rfl rfl rfl rfl rfl mw_1389 (inr_c rfl) d_MO_known_2 (fun H locs hS => ?_)
  obtain ⟨M1, eM1⟩ : ∃ q, q = (setI M 191 0 0) := ⟨_, rfl⟩
  replace hS : St b C n M1 s H locs := by rw [eM1]; exact hS
  replace hT := qlet_eq hT eM1
  refine lv_iload_n F.hx F.hb d_MO_known_5 rfl (lv_at hl 1 rfl) ?_
  refine r_iconst F.hx F.hb d_MO_known_6 ?_
  refine r_icmp_lt (tgt := 18) F.hx F.hb hx1 (inr_c rfl) d_MO_known_7 (by decide) (fun c2 => ?_) (fun c2 => ?_)
  · replace hT := (if_pos c2).symm.trans hT
    refine r_iconst F.hx F.hb d_MO_known_18 ?_
    subst hT
    exact r_zret F hlk hr hS (Or.inl rfl) d_MO_known_19
  · replace hT := (if_neg c2).symm.trans hT
    refine lv_iload_n F.hx F.hb d_MO_known_10 rfl (lv_at hl 1 rfl) ?_
    refine lv_aload_n F.hx F.hb d_MO_known_11 rfl (lv_at hl 0 rfl) ?_
    refine r_get (v := vI (M1.1 191 60)) (N := 68) (T := T1) (j := 60) F hS (show 191 < 231 by decide) (show shK 191 = 5 from rfl) (show shN 191 = 68 from rfl) rfl (Nat.le_of_ble_eq_true rfl) ing1 mw_1449 (fv_int rfl) d_MO_known_12 ?_
    have i3 := hS.rng 191 60
    refine r_icmp_le (tgt := 20) F.hx F.hb hx1 i3 d_MO_known_15 (by decide) (fun c4 => ?_) (fun c4 => ?_)
    · replace hT := (if_pos c4).symm.trans hT
      refine lv_aload_n F.hx F.hb d_MO_known_20 rfl (lv_at hl 0 rfl) ?_
      refine lv_iload_n F.hx F.hb d_MO_known_21 rfl (lv_at hl 1 rfl) ?_
      refine r_putI (N := 68) (T := T1) (j := 61) F hS (show 191 < 231 by decide) (show shK 191 = 5 from rfl) (show shN 191 = 68 from rfl) rfl (Nat.le_of_ble_eq_true rfl) ing1 tyok1 nm1 rfl rfl rfl rfl rfl rfl mw_1450 hx1 d_MO_known_22 (fun H locs hS => ?_)
      obtain ⟨M5, eM5⟩ : ∃ q, q = (setI M1 191 61 x1) := ⟨_, rfl⟩
      replace hS : St b C n M5 s H locs := by rw [eM5]; exact hS
      replace hT := qlet_eq hT eM5
      refine r_iconst F.hx F.hb d_MO_known_25 ?_
      subst hT
      exact r_zret F hlk hr hS (Or.inr rfl) d_MO_known_26
    · replace hT := (if_neg c4).symm.trans hT
      refine r_iconst F.hx F.hb d_MO_known_18 ?_
      subst hT
      exact r_zret F hlk hr hS (Or.inl rfl) d_MO_known_19
theorem d_MO_knownMany_0 : decode b_MO_knownMany 0 = .ok (.aload_n 0, 1) := dc_42 (by decide +kernel)
theorem d_MO_knownMany_1 : decode b_MO_knownMany 1 = .ok (.getfield 124, 3) := dc_180 (by decide +kernel)
theorem d_MO_knownMany_4 : decode b_MO_knownMany 4 = .ok (.iconst (-1), 1) := dc_2 (by decide +kernel)
theorem d_MO_knownMany_5 : decode b_MO_knownMany 5 = .ok (.if_icmp .ne 10, 3) := dc_160 (by decide +kernel)
theorem d_MO_knownMany_8 : decode b_MO_knownMany 8 = .ok (.aload_n 0, 1) := dc_42 (by decide +kernel)
theorem d_MO_knownMany_9 : decode b_MO_knownMany 9 = .ok (.getfield 319, 3) := dc_180 (by decide +kernel)
theorem d_MO_knownMany_12 : decode b_MO_knownMany 12 = .ok (.goto 7, 3) := dc_167 (by decide +kernel)
theorem d_MO_knownMany_15 : decode b_MO_knownMany 15 = .ok (.aload_n 0, 1) := dc_42 (by decide +kernel)
theorem d_MO_knownMany_16 : decode b_MO_knownMany 16 = .ok (.getfield 124, 3) := dc_180 (by decide +kernel)
theorem d_MO_knownMany_19 : decode b_MO_knownMany 19 = .ok (.ireturn, 1) := dc_172 (by decide +kernel)
def t_MO_knownMany (M : Mem)  : Int := (if (M.1 191 61) = (-1) then (M.1 191 60) else (M.1 191 61))
set_option maxHeartbeats 4000000 in
set_option maxRecDepth 100000 in
theorem c_MO_knownMany (l : Launch) {b n : Nat} {C : CT} (hlo : 231 ≤ n) (M : Mem)   (res : Int) (hT : t_MO_knownMany M  = res) : CM l b C n 0 y_MO_knownMany b_MO_knownMany 1 (some .int) [.ref (b + 191)] M (QI b C n M res) := by
  refine CM.of (lo := 231) (ow := "WardFallsModel") (by decide) rfl (Nat.le_of_ble_eq_true rfl) hlo (fun p e s m below meth c F hlk hr hS ls hl => ?_)
  have hl : lv_has ls 1 [(0, .ref (b + 191))] := hl
  unfold t_MO_knownMany at hT
  refine lv_aload_n F.hx F.hb d_MO_knownMany_0 rfl (lv_at hl 0 rfl) ?_
  refine r_get (v := vI (M.1 191 61)) (N := 68) (T := T1) (j := 61) F hS (show 191 < 231 by decide) (show shK 191 = 5 from rfl) (show shN 191 = 68 from rfl) rfl (Nat.le_of_ble_eq_true rfl) ing1 mw_1450 (fv_int rfl) d_MO_knownMany_1 ?_
  have i1 := hS.rng 191 61
  refine r_iconst F.hx F.hb d_MO_knownMany_4 ?_
  refine r_icmp_ne (tgt := 15) F.hx F.hb i1 (inr_c rfl) d_MO_knownMany_5 (by decide) (fun c2 => ?_) (fun c2 => ?_)
  · replace hT := (if_neg c2).symm.trans hT
    refine lv_aload_n F.hx F.hb d_MO_knownMany_15 rfl (lv_at hl 0 rfl) ?_
    refine r_get (v := vI (M.1 191 61)) (N := 68) (T := T1) (j := 61) F hS (show 191 < 231 by decide) (show shK 191 = 5 from rfl) (show shN 191 = 68 from rfl) rfl (Nat.le_of_ble_eq_true rfl) ing1 mw_1450 (fv_int rfl) d_MO_knownMany_16 ?_
    have i3 := hS.rng 191 61
    subst hT
    exact r_iret F hlk hr rfl hS i3 d_MO_knownMany_19
  · replace hT := (if_pos c2).symm.trans hT
    refine lv_aload_n F.hx F.hb d_MO_knownMany_8 rfl (lv_at hl 0 rfl) ?_
    refine r_get (v := vI (M.1 191 60)) (N := 68) (T := T1) (j := 60) F hS (show 191 < 231 by decide) (show shK 191 = 5 from rfl) (show shN 191 = 68 from rfl) rfl (Nat.le_of_ble_eq_true rfl) ing1 mw_1449 (fv_int rfl) d_MO_knownMany_9 ?_
    have i4 := hS.rng 191 60
    refine lv_goto (tgt := 19) F.hx F.hb d_MO_knownMany_12 (by decide) ?_
    subst hT
    exact r_iret F hlk hr rfl hS i4 d_MO_knownMany_19
end
