theorem wn_MO_layWalk_0 : ∀ i, i < 96 → bA b_MO_layWalk (0 + i) = wB [3, 61, 28, 16, 48, 162, 0, 27, 42, 180, 0, 112, 28, 28, 27, 160, 0, 7, 3, 167, 0, 6, 19, 1, 202, 79, 132, 2, 1, 167, 255, 229, 4, 61, 28, 153, 0, 96, 3, 61, 3, 62, 29, 42, 182, 1, 73, 162, 0, 81, 3, 54, 4, 21, 4, 7, 162, 0, 66, 42, 29, 21, 4, 182, 1, 82, 54, 5, 42, 29, 21, 5, 182, 1, 203, 153, 0, 41, 42, 180, 0, 112, 21, 5, 46, 4, 96, 42, 180, 0, 112, 29, 46, 161, 0, 6] i := wB_of (by decide +kernel)
theorem d_MO_layWalk_0 : decode b_MO_layWalk 0 = .ok (.iconst 0, 1) := dc_3 (q0_win (r := 0) wn_MO_layWalk_0 (by decide +kernel))
theorem d_MO_layWalk_1 : decode b_MO_layWalk 1 = .ok (.istore_n 2, 1) := dc_61 (q0_win (r := 1) wn_MO_layWalk_0 (by decide +kernel))
theorem d_MO_layWalk_2 : decode b_MO_layWalk 2 = .ok (.iload_n 2, 1) := dc_28 (q0_win (r := 2) wn_MO_layWalk_0 (by decide +kernel))
theorem d_MO_layWalk_3 : decode b_MO_layWalk 3 = .ok (.bipush 48, 2) := dc_16 (qS1_win (r := 3) wn_MO_layWalk_0 (by decide +kernel))
theorem d_MO_layWalk_5 : decode b_MO_layWalk 5 = .ok (.if_icmp .ge 27, 3) := dc_162 (qS2_win (r := 5) wn_MO_layWalk_0 (by decide +kernel))
theorem d_MO_layWalk_8 : decode b_MO_layWalk 8 = .ok (.aload_n 0, 1) := dc_42 (q0_win (r := 8) wn_MO_layWalk_0 (by decide +kernel))
theorem d_MO_layWalk_9 : decode b_MO_layWalk 9 = .ok (.getfield 112, 3) := dc_180 (qU2_win (r := 9) wn_MO_layWalk_0 (by decide +kernel))
theorem d_MO_layWalk_12 : decode b_MO_layWalk 12 = .ok (.iload_n 2, 1) := dc_28 (q0_win (r := 12) wn_MO_layWalk_0 (by decide +kernel))
theorem d_MO_layWalk_13 : decode b_MO_layWalk 13 = .ok (.iload_n 2, 1) := dc_28 (q0_win (r := 13) wn_MO_layWalk_0 (by decide +kernel))
theorem d_MO_layWalk_14 : decode b_MO_layWalk 14 = .ok (.iload_n 1, 1) := dc_27 (q0_win (r := 14) wn_MO_layWalk_0 (by decide +kernel))
theorem d_MO_layWalk_15 : decode b_MO_layWalk 15 = .ok (.if_icmp .ne 7, 3) := dc_160 (qS2_win (r := 15) wn_MO_layWalk_0 (by decide +kernel))
theorem d_MO_layWalk_18 : decode b_MO_layWalk 18 = .ok (.iconst 0, 1) := dc_3 (q0_win (r := 18) wn_MO_layWalk_0 (by decide +kernel))
theorem d_MO_layWalk_19 : decode b_MO_layWalk 19 = .ok (.goto 6, 3) := dc_167 (qS2_win (r := 19) wn_MO_layWalk_0 (by decide +kernel))
theorem d_MO_layWalk_22 : decode b_MO_layWalk 22 = .ok (.ldc_w 458, 3) := dc_19 (qU2_win (r := 22) wn_MO_layWalk_0 (by decide +kernel))
theorem d_MO_layWalk_25 : decode b_MO_layWalk 25 = .ok (.iastore, 1) := dc_79 (q0_win (r := 25) wn_MO_layWalk_0 (by decide +kernel))
theorem d_MO_layWalk_26 : decode b_MO_layWalk 26 = .ok (.iinc 2 1, 3) := dc_132 (qI_win (r := 26) wn_MO_layWalk_0 (by decide +kernel))
theorem d_MO_layWalk_29 : decode b_MO_layWalk 29 = .ok (.goto (-27), 3) := dc_167 (qS2_win (r := 29) wn_MO_layWalk_0 (by decide +kernel))
theorem d_MO_layWalk_32 : decode b_MO_layWalk 32 = .ok (.iconst 1, 1) := dc_4 (q0_win (r := 32) wn_MO_layWalk_0 (by decide +kernel))
theorem d_MO_layWalk_33 : decode b_MO_layWalk 33 = .ok (.istore_n 2, 1) := dc_61 (q0_win (r := 33) wn_MO_layWalk_0 (by decide +kernel))
theorem d_MO_layWalk_34 : decode b_MO_layWalk 34 = .ok (.iload_n 2, 1) := dc_28 (q0_win (r := 34) wn_MO_layWalk_0 (by decide +kernel))
theorem d_MO_layWalk_35 : decode b_MO_layWalk 35 = .ok (.ifCond .eq 96, 3) := dc_153 (qS2_win (r := 35) wn_MO_layWalk_0 (by decide +kernel))
theorem d_MO_layWalk_38 : decode b_MO_layWalk 38 = .ok (.iconst 0, 1) := dc_3 (q0_win (r := 38) wn_MO_layWalk_0 (by decide +kernel))
theorem d_MO_layWalk_39 : decode b_MO_layWalk 39 = .ok (.istore_n 2, 1) := dc_61 (q0_win (r := 39) wn_MO_layWalk_0 (by decide +kernel))
theorem d_MO_layWalk_40 : decode b_MO_layWalk 40 = .ok (.iconst 0, 1) := dc_3 (q0_win (r := 40) wn_MO_layWalk_0 (by decide +kernel))
theorem d_MO_layWalk_41 : decode b_MO_layWalk 41 = .ok (.istore_n 3, 1) := dc_62 (q0_win (r := 41) wn_MO_layWalk_0 (by decide +kernel))
theorem d_MO_layWalk_42 : decode b_MO_layWalk 42 = .ok (.iload_n 3, 1) := dc_29 (q0_win (r := 42) wn_MO_layWalk_0 (by decide +kernel))
theorem d_MO_layWalk_43 : decode b_MO_layWalk 43 = .ok (.aload_n 0, 1) := dc_42 (q0_win (r := 43) wn_MO_layWalk_0 (by decide +kernel))
theorem d_MO_layWalk_44 : decode b_MO_layWalk 44 = .ok (.invokevirtual 329, 3) := dc_182 (qU2_win (r := 44) wn_MO_layWalk_0 (by decide +kernel))
theorem d_MO_layWalk_47 : decode b_MO_layWalk 47 = .ok (.if_icmp .ge 81, 3) := dc_162 (qS2_win (r := 47) wn_MO_layWalk_0 (by decide +kernel))
theorem d_MO_layWalk_50 : decode b_MO_layWalk 50 = .ok (.iconst 0, 1) := dc_3 (q0_win (r := 50) wn_MO_layWalk_0 (by decide +kernel))
theorem d_MO_layWalk_51 : decode b_MO_layWalk 51 = .ok (.istore 4, 2) := dc_54 (qU1_win (r := 51) wn_MO_layWalk_0 (by decide +kernel))
theorem d_MO_layWalk_53 : decode b_MO_layWalk 53 = .ok (.iload 4, 2) := dc_21 (qU1_win (r := 53) wn_MO_layWalk_0 (by decide +kernel))
theorem d_MO_layWalk_55 : decode b_MO_layWalk 55 = .ok (.iconst 4, 1) := dc_7 (q0_win (r := 55) wn_MO_layWalk_0 (by decide +kernel))
theorem d_MO_layWalk_56 : decode b_MO_layWalk 56 = .ok (.if_icmp .ge 66, 3) := dc_162 (qS2_win (r := 56) wn_MO_layWalk_0 (by decide +kernel))
theorem d_MO_layWalk_59 : decode b_MO_layWalk 59 = .ok (.aload_n 0, 1) := dc_42 (q0_win (r := 59) wn_MO_layWalk_0 (by decide +kernel))
theorem d_MO_layWalk_60 : decode b_MO_layWalk 60 = .ok (.iload_n 3, 1) := dc_29 (q0_win (r := 60) wn_MO_layWalk_0 (by decide +kernel))
theorem d_MO_layWalk_61 : decode b_MO_layWalk 61 = .ok (.iload 4, 2) := dc_21 (qU1_win (r := 61) wn_MO_layWalk_0 (by decide +kernel))
theorem d_MO_layWalk_63 : decode b_MO_layWalk 63 = .ok (.invokevirtual 338, 3) := dc_182 (qU2_win (r := 63) wn_MO_layWalk_0 (by decide +kernel))
theorem d_MO_layWalk_66 : decode b_MO_layWalk 66 = .ok (.istore 5, 2) := dc_54 (qU1_win (r := 66) wn_MO_layWalk_0 (by decide +kernel))
theorem d_MO_layWalk_68 : decode b_MO_layWalk 68 = .ok (.aload_n 0, 1) := dc_42 (q0_win (r := 68) wn_MO_layWalk_0 (by decide +kernel))
theorem d_MO_layWalk_69 : decode b_MO_layWalk 69 = .ok (.iload_n 3, 1) := dc_29 (q0_win (r := 69) wn_MO_layWalk_0 (by decide +kernel))
theorem d_MO_layWalk_70 : decode b_MO_layWalk 70 = .ok (.iload 5, 2) := dc_21 (qU1_win (r := 70) wn_MO_layWalk_0 (by decide +kernel))
theorem d_MO_layWalk_72 : decode b_MO_layWalk 72 = .ok (.invokevirtual 459, 3) := dc_182 (qU2_win (r := 72) wn_MO_layWalk_0 (by decide +kernel))
theorem d_MO_layWalk_75 : decode b_MO_layWalk 75 = .ok (.ifCond .eq 41, 3) := dc_153 (qS2_win (r := 75) wn_MO_layWalk_0 (by decide +kernel))
theorem d_MO_layWalk_78 : decode b_MO_layWalk 78 = .ok (.aload_n 0, 1) := dc_42 (q0_win (r := 78) wn_MO_layWalk_0 (by decide +kernel))
theorem d_MO_layWalk_79 : decode b_MO_layWalk 79 = .ok (.getfield 112, 3) := dc_180 (qU2_win (r := 79) wn_MO_layWalk_0 (by decide +kernel))
theorem d_MO_layWalk_82 : decode b_MO_layWalk 82 = .ok (.iload 5, 2) := dc_21 (qU1_win (r := 82) wn_MO_layWalk_0 (by decide +kernel))
theorem d_MO_layWalk_84 : decode b_MO_layWalk 84 = .ok (.iaload, 1) := dc_46 (q0_win (r := 84) wn_MO_layWalk_0 (by decide +kernel))
theorem d_MO_layWalk_85 : decode b_MO_layWalk 85 = .ok (.iconst 1, 1) := dc_4 (q0_win (r := 85) wn_MO_layWalk_0 (by decide +kernel))
theorem d_MO_layWalk_86 : decode b_MO_layWalk 86 = .ok (.iadd, 1) := dc_96 (q0_win (r := 86) wn_MO_layWalk_0 (by decide +kernel))
theorem d_MO_layWalk_87 : decode b_MO_layWalk 87 = .ok (.aload_n 0, 1) := dc_42 (q0_win (r := 87) wn_MO_layWalk_0 (by decide +kernel))
theorem d_MO_layWalk_88 : decode b_MO_layWalk 88 = .ok (.getfield 112, 3) := dc_180 (qU2_win (r := 88) wn_MO_layWalk_0 (by decide +kernel))
theorem d_MO_layWalk_91 : decode b_MO_layWalk 91 = .ok (.iload_n 3, 1) := dc_29 (q0_win (r := 91) wn_MO_layWalk_0 (by decide +kernel))
theorem d_MO_layWalk_92 : decode b_MO_layWalk 92 = .ok (.iaload, 1) := dc_46 (q0_win (r := 92) wn_MO_layWalk_0 (by decide +kernel))
theorem d_MO_layWalk_93 : decode b_MO_layWalk 93 = .ok (.if_icmp .lt 6, 3) := dc_161 (qS2_win (r := 93) wn_MO_layWalk_0 (by decide +kernel))
theorem wn_MO_layWalk_96 : ∀ i, i < 36 → bA b_MO_layWalk (96 + i) = wB [167, 0, 20, 42, 180, 0, 112, 29, 42, 180, 0, 112, 21, 5, 46, 4, 96, 79, 4, 61, 132, 4, 1, 167, 255, 190, 132, 3, 1, 167, 255, 173, 167, 255, 162, 177] i := wB_of (by decide +kernel)
theorem d_MO_layWalk_96 : decode b_MO_layWalk 96 = .ok (.goto 20, 3) := dc_167 (qS2_win (r := 0) wn_MO_layWalk_96 (by decide +kernel))
theorem d_MO_layWalk_99 : decode b_MO_layWalk 99 = .ok (.aload_n 0, 1) := dc_42 (q0_win (r := 3) wn_MO_layWalk_96 (by decide +kernel))
theorem d_MO_layWalk_100 : decode b_MO_layWalk 100 = .ok (.getfield 112, 3) := dc_180 (qU2_win (r := 4) wn_MO_layWalk_96 (by decide +kernel))
theorem d_MO_layWalk_103 : decode b_MO_layWalk 103 = .ok (.iload_n 3, 1) := dc_29 (q0_win (r := 7) wn_MO_layWalk_96 (by decide +kernel))
theorem d_MO_layWalk_104 : decode b_MO_layWalk 104 = .ok (.aload_n 0, 1) := dc_42 (q0_win (r := 8) wn_MO_layWalk_96 (by decide +kernel))
theorem d_MO_layWalk_105 : decode b_MO_layWalk 105 = .ok (.getfield 112, 3) := dc_180 (qU2_win (r := 9) wn_MO_layWalk_96 (by decide +kernel))
theorem d_MO_layWalk_108 : decode b_MO_layWalk 108 = .ok (.iload 5, 2) := dc_21 (qU1_win (r := 12) wn_MO_layWalk_96 (by decide +kernel))
theorem d_MO_layWalk_110 : decode b_MO_layWalk 110 = .ok (.iaload, 1) := dc_46 (q0_win (r := 14) wn_MO_layWalk_96 (by decide +kernel))
theorem d_MO_layWalk_111 : decode b_MO_layWalk 111 = .ok (.iconst 1, 1) := dc_4 (q0_win (r := 15) wn_MO_layWalk_96 (by decide +kernel))
theorem d_MO_layWalk_112 : decode b_MO_layWalk 112 = .ok (.iadd, 1) := dc_96 (q0_win (r := 16) wn_MO_layWalk_96 (by decide +kernel))
theorem d_MO_layWalk_113 : decode b_MO_layWalk 113 = .ok (.iastore, 1) := dc_79 (q0_win (r := 17) wn_MO_layWalk_96 (by decide +kernel))
theorem d_MO_layWalk_114 : decode b_MO_layWalk 114 = .ok (.iconst 1, 1) := dc_4 (q0_win (r := 18) wn_MO_layWalk_96 (by decide +kernel))
theorem d_MO_layWalk_115 : decode b_MO_layWalk 115 = .ok (.istore_n 2, 1) := dc_61 (q0_win (r := 19) wn_MO_layWalk_96 (by decide +kernel))
theorem d_MO_layWalk_116 : decode b_MO_layWalk 116 = .ok (.iinc 4 1, 3) := dc_132 (qI_win (r := 20) wn_MO_layWalk_96 (by decide +kernel))
theorem d_MO_layWalk_119 : decode b_MO_layWalk 119 = .ok (.goto (-66), 3) := dc_167 (qS2_win (r := 23) wn_MO_layWalk_96 (by decide +kernel))
theorem d_MO_layWalk_122 : decode b_MO_layWalk 122 = .ok (.iinc 3 1, 3) := dc_132 (qI_win (r := 26) wn_MO_layWalk_96 (by decide +kernel))
theorem d_MO_layWalk_125 : decode b_MO_layWalk 125 = .ok (.goto (-83), 3) := dc_167 (qS2_win (r := 29) wn_MO_layWalk_96 (by decide +kernel))
theorem d_MO_layWalk_128 : decode b_MO_layWalk 128 = .ok (.goto (-94), 3) := dc_167 (qS2_win (r := 32) wn_MO_layWalk_96 (by decide +kernel))
theorem d_MO_layWalk_131 : decode b_MO_layWalk 131 = .ok (.return_, 1) := dc_177 (q0_win (r := 35) wn_MO_layWalk_96 (by decide +kernel))
def t_MO_layWalk_L25 (x1 : Int) (bk2 : Mem → Int → Option (Mem)) (M : Mem) (v2_ : Int) (v4_ : Int) (v5_ : Int) : Option (Mem) := (qguard (0 ≤ v4_ ∧ v4_ < 48) (qlet (setI M 222 v4_ v5_) fun M5 => (bk2 M5 (w32 (v2_ + 1)))))
def t_MO_layWalk_L116 (x1 : Int) (bk34 : Mem → Int → Option (Mem)) (bk42 : Mem → Int → Int → Option (Mem)) (bk53 : Mem → Int → Int → Int → Option (Mem)) (M : Mem) (v1_ : Int) (v2_ : Int) (v3_ : Int) : Option (Mem) := (bk53 M v1_ v2_ (w32 (v3_ + 1)))
def t_MO_layWalk_L53 (x1 : Int) (bk34 : Mem → Int → Option (Mem)) (bk42 : Mem → Int → Int → Option (Mem)) : Nat → Mem → Int → Int → Int → Option (Mem)
  | 0, _, _, _, _ => none
  | fu + 1, M, v1_, v2_, v3_ => (if 4 ≤ v3_ then (bk42 M v1_ (w32 (v2_ + 1))) else (obind (t_MO_beside M v2_ v3_) fun q10 => (obind (t_MO_canStep M v2_ q10) fun q12 => (if q12 = 0 then (t_MO_layWalk_L116 x1 bk34 bk42 (fun a0_ a1_ a2_ a3_ => t_MO_layWalk_L53 x1 bk34 bk42 fu a0_ a1_ a2_ a3_) M v1_ v2_ v3_) else (qguard (0 ≤ q10 ∧ q10 < 48) (qguard (0 ≤ v2_ ∧ v2_ < 48) (if (w32 ((M.1 222 q10) + 1)) < (M.1 222 v2_) then (qguard (0 ≤ q10 ∧ q10 < 48) (qguard (0 ≤ v2_ ∧ v2_ < 48) (qlet (setI M 222 v2_ (w32 ((M.1 222 q10) + 1))) fun M23 => (t_MO_layWalk_L116 x1 bk34 bk42 (fun a0_ a1_ a2_ a3_ => t_MO_layWalk_L53 x1 bk34 bk42 fu a0_ a1_ a2_ a3_) M23 1 v2_ v3_)))) else (t_MO_layWalk_L116 x1 bk34 bk42 (fun a0_ a1_ a2_ a3_ => t_MO_layWalk_L53 x1 bk34 bk42 fu a0_ a1_ a2_ a3_) M v1_ v2_ v3_))))))))
def t_MO_layWalk_L42 (x1 : Int) (bk34 : Mem → Int → Option (Mem)) : Nat → Mem → Int → Int → Option (Mem)
  | 0, _, _, _ => none
  | fu + 1, M, v1_, v2_ => (qlet (t_MO_cells M) fun q6 => (if q6 ≤ v2_ then (bk34 M v1_) else (t_MO_layWalk_L53 x1 bk34 (fun a0_ a1_ a2_ => t_MO_layWalk_L42 x1 bk34 fu a0_ a1_ a2_) FU M v1_ v2_ 0)))
def t_MO_layWalk_L34 (x1 : Int)  : Nat → Mem → Int → Option (Mem)
  | 0, _, _ => none
  | fu + 1, M, v1_ => (if v1_ = 0 then (some M) else (t_MO_layWalk_L42 x1 (fun a0_ a1_ => t_MO_layWalk_L34 x1 fu a0_ a1_) FU M 0 0))
def t_MO_layWalk_L2 (x1 : Int)  : Nat → Mem → Int → Option (Mem)
  | 0, _, _ => none
  | fu + 1, M, v2_ => (if 48 ≤ v2_ then (t_MO_layWalk_L34 x1 FU M 1) else (if v2_ = x1 then (t_MO_layWalk_L25 x1 (fun a0_ a1_ => t_MO_layWalk_L2 x1 fu a0_ a1_) M v2_ v2_ 0) else (t_MO_layWalk_L25 x1 (fun a0_ a1_ => t_MO_layWalk_L2 x1 fu a0_ a1_) M v2_ v2_ 1000000)))
def t_MO_layWalk (M : Mem) (x1 : Int) : Option (Mem) := (t_MO_layWalk_L2 x1 FU M 0)
set_option maxHeartbeats 4000000 in
set_option maxRecDepth 100000 in
theorem k_MO_layWalk_L25 (l : Launch) {p : Program} {e : Env} {s : State} {m : MethodId} {below : List Frame} {meth : Method} {c : Code} {b n : Nat} {C : CT} (hlo : 231 ≤ n) (x1 : Int) (hx1 : InR x1) (F : Cx b p m c b_MO_layWalk 6 s ([.ref (b + 191), vI x1] : List Value).toArray "WardFallsModel" C n 231) (hlk : meth.locks = false) (hr : meth.sig.returnType = none) {res : Mem} (bk2 : Mem → Int → Option (Mem)) (hbk2 : ∀ (M : Mem) (v2_ : Int) (hv2_ : InR v2_) (H : Heap) (locs : List Loc) (ls : Array Slot), St b C n M s H locs → lv_has ls 6 [(0, .ref (b + 191)), (1, vI x1), (2, vI v2_)] → bk2 M v2_ = some res → W p l e (headSpec (wsM y_MO_layWalk b_MO_layWalk 6 (none)) (rmD 3)).room s m ([.ref (b + 191), vI x1] : List Value).toArray below meth c H locs 0 0 (MQ below (QV b C n res) ([.ref (b + 191), vI x1] : List Value).toArray s 0 0 (frb b)) (F0 m 2 ls [])) (M : Mem) (v2_ : Int) (hv2_ : InR v2_) (v4_ : Int) (hv4_ : InR v4_) (v5_ : Int) (hv5_ : InR v5_) (H : Heap) (locs : List Loc) (ls : Array Slot) (hS : St b C n M s H locs) (hl : lv_has ls 6 [(0, .ref (b + 191)), (1, vI x1), (2, vI v2_)]) (hT : t_MO_layWalk_L25 x1 bk2 M v2_ v4_ v5_ = some res) : W p l e (headSpec (wsM y_MO_layWalk b_MO_layWalk 6 (none)) (rmD 3)).room s m ([.ref (b + 191), vI x1] : List Value).toArray below meth c H locs 0 0 (MQ below (QV b C n res) ([.ref (b + 191), vI x1] : List Value).toArray s 0 0 (frb b)) (F0 m 25 ls [vI v5_, vI v4_, .ref (b + 222)]) := by
  unfold t_MO_layWalk_L25 at hT
  obtain ⟨⟨g4a, g4b⟩, hT⟩ := q_guard hT
  refine r_iast F hS (show 222 < 231 by decide) (show shK 222 = 0 from rfl) (show shN 222 = 48 from rfl) hv4_ hv5_ g4a g4b d_MO_layWalk_25 (fun H locs hS => ?_)
  obtain ⟨M5, eM5⟩ : ∃ q, q = (setI M 222 v4_ v5_) := ⟨_, rfl⟩
  replace hS : St b C n M5 s H locs := by rw [eM5]; exact hS
  replace hT := qlet_eq hT eM5
  refine lv_iinc (v := Int32.ofInt (w32 (v2_ + 1))) (lv' := [(2, vI (w32 (v2_ + 1))), (0, .ref (b + 191)), (1, vI x1)]) F.hx F.hb d_MO_layWalk_26 hl (k := 2) rfl (q_of_add _ _) (Nat.le_of_ble_eq_true rfl) rfl (fun ls hl => ?_)
  refine lv_goto (tgt := 2) F.hx F.hb d_MO_layWalk_29 (by decide) ?_
  exact hbk2 M5 (w32 (v2_ + 1)) (inr_w32 _) _ _ _ hS (lv_sub hl [1, 2, 0] rfl) hT
set_option maxHeartbeats 4000000 in
set_option maxRecDepth 100000 in
theorem k_MO_layWalk_L116 (l : Launch) {p : Program} {e : Env} {s : State} {m : MethodId} {below : List Frame} {meth : Method} {c : Code} {b n : Nat} {C : CT} (hlo : 231 ≤ n) (x1 : Int) (hx1 : InR x1) (F : Cx b p m c b_MO_layWalk 6 s ([.ref (b + 191), vI x1] : List Value).toArray "WardFallsModel" C n 231) (hlk : meth.locks = false) (hr : meth.sig.returnType = none) {res : Mem} (bk34 : Mem → Int → Option (Mem)) (hbk34 : ∀ (M : Mem) (v1_ : Int) (hv1_ : v1_ = 0 ∨ v1_ = 1) (H : Heap) (locs : List Loc) (ls : Array Slot), St b C n M s H locs → lv_has ls 6 [(0, .ref (b + 191)), (2, vI v1_)] → bk34 M v1_ = some res → W p l e (headSpec (wsM y_MO_layWalk b_MO_layWalk 6 (none)) (rmD 3)).room s m ([.ref (b + 191), vI x1] : List Value).toArray below meth c H locs 0 0 (MQ below (QV b C n res) ([.ref (b + 191), vI x1] : List Value).toArray s 0 0 (frb b)) (F0 m 34 ls [])) (bk42 : Mem → Int → Int → Option (Mem)) (hbk42 : ∀ (M : Mem) (v1_ : Int) (hv1_ : v1_ = 0 ∨ v1_ = 1) (v2_ : Int) (hv2_ : InR v2_) (H : Heap) (locs : List Loc) (ls : Array Slot), St b C n M s H locs → lv_has ls 6 [(0, .ref (b + 191)), (2, vI v1_), (3, vI v2_)] → bk42 M v1_ v2_ = some res → W p l e (headSpec (wsM y_MO_layWalk b_MO_layWalk 6 (none)) (rmD 3)).room s m ([.ref (b + 191), vI x1] : List Value).toArray below meth c H locs 0 0 (MQ below (QV b C n res) ([.ref (b + 191), vI x1] : List Value).toArray s 0 0 (frb b)) (F0 m 42 ls [])) (bk53 : Mem → Int → Int → Int → Option (Mem)) (hbk53 : ∀ (M : Mem) (v1_ : Int) (hv1_ : v1_ = 0 ∨ v1_ = 1) (v2_ : Int) (hv2_ : InR v2_) (v3_ : Int) (hv3_ : InR v3_) (H : Heap) (locs : List Loc) (ls : Array Slot), St b C n M s H locs → lv_has ls 6 [(0, .ref (b + 191)), (2, vI v1_), (3, vI v2_), (4, vI v3_)] → bk53 M v1_ v2_ v3_ = some res → W p l e (headSpec (wsM y_MO_layWalk b_MO_layWalk 6 (none)) (rmD 3)).room s m ([.ref (b + 191), vI x1] : List Value).toArray below meth c H locs 0 0 (MQ below (QV b C n res) ([.ref (b + 191), vI x1] : List Value).toArray s 0 0 (frb b)) (F0 m 53 ls [])) (M : Mem) (v1_ : Int) (hv1_ : v1_ = 0 ∨ v1_ = 1) (v2_ : Int) (hv2_ : InR v2_) (v3_ : Int) (hv3_ : InR v3_) (H : Heap) (locs : List Loc) (ls : Array Slot) (hS : St b C n M s H locs) (hl : lv_has ls 6 [(0, .ref (b + 191)), (2, vI v1_), (3, vI v2_), (4, vI v3_)]) (hT : t_MO_layWalk_L116 x1 bk34 bk42 bk53 M v1_ v2_ v3_ = some res) : W p l e (headSpec (wsM y_MO_layWalk b_MO_layWalk 6 (none)) (rmD 3)).room s m ([.ref (b + 191), vI x1] : List Value).toArray below meth c H locs 0 0 (MQ below (QV b C n res) ([.ref (b + 191), vI x1] : List Value).toArray s 0 0 (frb b)) (F0 m 116 ls []) := by
  unfold t_MO_layWalk_L116 at hT
  refine lv_iinc (v := Int32.ofInt (w32 (v3_ + 1))) (lv' := [(4, vI (w32 (v3_ + 1))), (0, .ref (b + 191)), (2, vI v1_), (3, vI v2_)]) F.hx F.hb d_MO_layWalk_116 hl (k := 3) rfl (q_of_add _ _) (Nat.le_of_ble_eq_true rfl) rfl (fun ls hl => ?_)
  refine lv_goto (tgt := 53) F.hx F.hb d_MO_layWalk_119 (by decide) ?_
  exact hbk53 M v1_ hv1_ v2_ hv2_ (w32 (v3_ + 1)) (inr_w32 _) _ _ _ hS (lv_sub hl [1, 2, 3, 0] rfl) hT
set_option maxHeartbeats 4000000 in
set_option maxRecDepth 100000 in
theorem k_MO_layWalk_L53 (l : Launch) {p : Program} {e : Env} {s : State} {m : MethodId} {below : List Frame} {meth : Method} {c : Code} {b n : Nat} {C : CT} (hlo : 231 ≤ n) (x1 : Int) (hx1 : InR x1) (F : Cx b p m c b_MO_layWalk 6 s ([.ref (b + 191), vI x1] : List Value).toArray "WardFallsModel" C n 231) (hlk : meth.locks = false) (hr : meth.sig.returnType = none) {res : Mem} (bk34 : Mem → Int → Option (Mem)) (hbk34 : ∀ (M : Mem) (v1_ : Int) (hv1_ : v1_ = 0 ∨ v1_ = 1) (H : Heap) (locs : List Loc) (ls : Array Slot), St b C n M s H locs → lv_has ls 6 [(0, .ref (b + 191)), (2, vI v1_)] → bk34 M v1_ = some res → W p l e (headSpec (wsM y_MO_layWalk b_MO_layWalk 6 (none)) (rmD 3)).room s m ([.ref (b + 191), vI x1] : List Value).toArray below meth c H locs 0 0 (MQ below (QV b C n res) ([.ref (b + 191), vI x1] : List Value).toArray s 0 0 (frb b)) (F0 m 34 ls [])) (bk42 : Mem → Int → Int → Option (Mem)) (hbk42 : ∀ (M : Mem) (v1_ : Int) (hv1_ : v1_ = 0 ∨ v1_ = 1) (v2_ : Int) (hv2_ : InR v2_) (H : Heap) (locs : List Loc) (ls : Array Slot), St b C n M s H locs → lv_has ls 6 [(0, .ref (b + 191)), (2, vI v1_), (3, vI v2_)] → bk42 M v1_ v2_ = some res → W p l e (headSpec (wsM y_MO_layWalk b_MO_layWalk 6 (none)) (rmD 3)).room s m ([.ref (b + 191), vI x1] : List Value).toArray below meth c H locs 0 0 (MQ below (QV b C n res) ([.ref (b + 191), vI x1] : List Value).toArray s 0 0 (frb b)) (F0 m 42 ls [])) : ∀ (fu : Nat) (M : Mem) (v1_ : Int) (hv1_ : v1_ = 0 ∨ v1_ = 1) (v2_ : Int) (hv2_ : InR v2_) (v3_ : Int) (hv3_ : InR v3_) (H : Heap) (locs : List Loc) (ls : Array Slot), St b C n M s H locs → lv_has ls 6 [(0, .ref (b + 191)), (2, vI v1_), (3, vI v2_), (4, vI v3_)] → t_MO_layWalk_L53 x1 bk34 bk42 fu M v1_ v2_ v3_ = some res → W p l e (headSpec (wsM y_MO_layWalk b_MO_layWalk 6 (none)) (rmD 3)).room s m ([.ref (b + 191), vI x1] : List Value).toArray below meth c H locs 0 0 (MQ below (QV b C n res) ([.ref (b + 191), vI x1] : List Value).toArray s 0 0 (frb b)) (F0 m 53 ls []) := by
  intro fu
  induction fu with
  | zero => intro M v1_ hv1_ v2_ hv2_ v3_ hv3_ H locs ls hS hl hT; exact absurd hT (by simp [t_MO_layWalk_L53])
  | succ fu ih =>
    intro M v1_ hv1_ v2_ hv2_ v3_ hv3_ H locs ls hS hl hT
    rw [t_MO_layWalk_L53] at hT
    refine lv_iload F.hx F.hb d_MO_layWalk_53 (lv_at hl 3 rfl) ?_
    refine r_iconst F.hx F.hb d_MO_layWalk_55 ?_
    refine r_icmp_ge (tgt := 122) F.hx F.hb hv3_ (inr_c rfl) d_MO_layWalk_56 (by decide) (fun c9 => ?_) (fun c9 => ?_)
    · replace hT := (if_pos c9).symm.trans hT
      refine lv_iinc (v := Int32.ofInt (w32 (v2_ + 1))) (lv' := [(3, vI (w32 (v2_ + 1))), (0, .ref (b + 191)), (2, vI v1_), (4, vI v3_)]) F.hx F.hb d_MO_layWalk_122 hl (k := 2) rfl (q_of_add _ _) (Nat.le_of_ble_eq_true rfl) rfl (fun ls hl => ?_)
      refine lv_goto (tgt := 42) F.hx F.hb d_MO_layWalk_125 (by decide) ?_
      exact hbk42 M v1_ hv1_ (w32 (v2_ + 1)) (inr_w32 _) _ _ _ hS (lv_sub hl [1, 2, 0] rfl) hT
    · replace hT := (if_neg c9).symm.trans hT
      refine lv_aload_n F.hx F.hb d_MO_layWalk_59 rfl (lv_at hl 0 rfl) ?_
      refine lv_iload_n F.hx F.hb d_MO_layWalk_60 rfl (lv_at hl 2 rfl) ?_
      refine lv_iload F.hx F.hb d_MO_layWalk_61 (lv_at hl 3 rfl) ?_
      obtain ⟨q10, hq10, hT⟩ := q_obind hT
      refine r_backI F hS (r_runV (k := 191) (N := 68) (T := T1) (As := [vI v2_, vI v3_]) F hS (show 191 < 231 by decide) (show shK 191 = 5 from rfl) rfl (c_MO_beside l F.2.2.1 M v2_ v3_ hv2_ hv3_ _ hq10) gs_MO_338 hd_MO_beside ⟨Nat.le_of_ble_eq_true rfl, Nat.le_of_ble_eq_true rfl⟩ rfl hl.1 (Nat.le_of_ble_eq_true rfl) ⟨Nat.zero_le _, Nat.zero_le _⟩ rfl d_MO_layWalk_63) (fun H locs hS h11 => ?_)
      refine lv_istore (lv' := [(5, vI q10), (0, .ref (b + 191)), (2, vI v1_), (3, vI v2_), (4, vI v3_)]) F.hx F.hb d_MO_layWalk_66 hl (Nat.le_of_ble_eq_true rfl) rfl (fun ls hl => ?_)
      refine lv_aload_n F.hx F.hb d_MO_layWalk_68 rfl (lv_at hl 1 rfl) ?_
      refine lv_iload_n F.hx F.hb d_MO_layWalk_69 rfl (lv_at hl 3 rfl) ?_
      refine lv_iload F.hx F.hb d_MO_layWalk_70 (lv_at hl 0 rfl) ?_
      obtain ⟨q12, hq12, hT⟩ := q_obind hT
      refine r_backZ F hS (r_runV (k := 191) (N := 68) (T := T1) (As := [vI v2_, vI q10]) F hS (show 191 < 231 by decide) (show shK 191 = 5 from rfl) rfl (c_MO_canStep l F.2.2.1 M v2_ q10 hv2_ h11 _ hq12) gs_MO_459 hd_MO_canStep ⟨Nat.le_of_ble_eq_true rfl, Nat.le_of_ble_eq_true rfl⟩ rfl hl.1 (Nat.le_of_ble_eq_true rfl) ⟨Nat.zero_le _, Nat.zero_le _⟩ rfl d_MO_layWalk_72) (fun H locs hS h13 => ?_)
      refine r_if_eq (tgt := 116) F.hx F.hb (inr_z h13) d_MO_layWalk_75 (by decide) (fun c14 => ?_) (fun c14 => ?_)
      · replace hT := (if_pos c14).symm.trans hT
        exact k_MO_layWalk_L116 l hlo x1 hx1 F hlk hr bk34 hbk34 bk42 hbk42 (fun a0_ a1_ a2_ a3_ => t_MO_layWalk_L53 x1 bk34 bk42 fu a0_ a1_ a2_ a3_) ih M v1_ hv1_ v2_ hv2_ v3_ hv3_ _ _ _ hS (lv_sub hl [1, 2, 3, 4] rfl) hT
      · replace hT := (if_neg c14).symm.trans hT
        refine lv_aload_n F.hx F.hb d_MO_layWalk_78 rfl (lv_at hl 1 rfl) ?_
        refine r_get (v := .ref (b + 222)) (N := 68) (T := T1) (j := 55) F hS (show 191 < 231 by decide) (show shK 191 = 5 from rfl) (show shN 191 = 68 from rfl) rfl (Nat.le_of_ble_eq_true rfl) ing1 mw_1444 (fv_sg rfl rfl rfl) d_MO_layWalk_79 ?_
        refine lv_iload F.hx F.hb d_MO_layWalk_82 (lv_at hl 0 rfl) ?_
        obtain ⟨⟨g15a, g15b⟩, hT⟩ := q_guard hT
        refine r_iald F hS (show 222 < 231 by decide) (show shK 222 = 0 from rfl) (show shN 222 = 48 from rfl) h11 g15a g15b d_MO_layWalk_84 ?_
        have i16 := hS.rng 222 q10
        refine r_iconst F.hx F.hb d_MO_layWalk_85 ?_
        refine r_iadd F.hx F.hb d_MO_layWalk_86 ?_
        refine lv_aload_n F.hx F.hb d_MO_layWalk_87 rfl (lv_at hl 1 rfl) ?_
        refine r_get (v := .ref (b + 222)) (N := 68) (T := T1) (j := 55) F hS (show 191 < 231 by decide) (show shK 191 = 5 from rfl) (show shN 191 = 68 from rfl) rfl (Nat.le_of_ble_eq_true rfl) ing1 mw_1444 (fv_sg rfl rfl rfl) d_MO_layWalk_88 ?_
        refine lv_iload_n F.hx F.hb d_MO_layWalk_91 rfl (lv_at hl 3 rfl) ?_
        obtain ⟨⟨g17a, g17b⟩, hT⟩ := q_guard hT
        refine r_iald F hS (show 222 < 231 by decide) (show shK 222 = 0 from rfl) (show shN 222 = 48 from rfl) hv2_ g17a g17b d_MO_layWalk_92 ?_
        have i18 := hS.rng 222 v2_
        refine r_icmp_lt (tgt := 99) F.hx F.hb (inr_w32 _) i18 d_MO_layWalk_93 (by decide) (fun c19 => ?_) (fun c19 => ?_)
        · replace hT := (if_pos c19).symm.trans hT
          refine lv_aload_n F.hx F.hb d_MO_layWalk_99 rfl (lv_at hl 1 rfl) ?_
          refine r_get (v := .ref (b + 222)) (N := 68) (T := T1) (j := 55) F hS (show 191 < 231 by decide) (show shK 191 = 5 from rfl) (show shN 191 = 68 from rfl) rfl (Nat.le_of_ble_eq_true rfl) ing1 mw_1444 (fv_sg rfl rfl rfl) d_MO_layWalk_100 ?_
          refine lv_iload_n F.hx F.hb d_MO_layWalk_103 rfl (lv_at hl 3 rfl) ?_
          refine lv_aload_n F.hx F.hb d_MO_layWalk_104 rfl (lv_at hl 1 rfl) ?_
          refine r_get (v := .ref (b + 222)) (N := 68) (T := T1) (j := 55) F hS (show 191 < 231 by decide) (show shK 191 = 5 from rfl) (show shN 191 = 68 from rfl) rfl (Nat.le_of_ble_eq_true rfl) ing1 mw_1444 (fv_sg rfl rfl rfl) d_MO_layWalk_105 ?_
          refine lv_iload F.hx F.hb d_MO_layWalk_108 (lv_at hl 0 rfl) ?_
          obtain ⟨⟨g20a, g20b⟩, hT⟩ := q_guard hT
          refine r_iald F hS (show 222 < 231 by decide) (show shK 222 = 0 from rfl) (show shN 222 = 48 from rfl) h11 g20a g20b d_MO_layWalk_110 ?_
          have i21 := hS.rng 222 q10
          refine r_iconst F.hx F.hb d_MO_layWalk_111 ?_
          refine r_iadd F.hx F.hb d_MO_layWalk_112 ?_
          obtain ⟨⟨g22a, g22b⟩, hT⟩ := q_guard hT
          refine r_iast F hS (show 222 < 231 by decide) (show shK 222 = 0 from rfl) (show shN 222 = 48 from rfl) hv2_ (inr_w32 _) g22a g22b d_MO_layWalk_113 (fun H locs hS => ?_)
          obtain ⟨M23, eM23⟩ : ∃ q, q = (setI M 222 v2_ (w32 ((M.1 222 q10) + 1))) := ⟨_, rfl⟩
          replace hS : St b C n M23 s H locs := by rw [eM23]; exact hS
          replace hT := qlet_eq hT eM23
          refine r_iconst F.hx F.hb d_MO_layWalk_114 ?_
          refine lv_istore_n (lv' := [(2, vI 1), (5, vI q10), (0, .ref (b + 191)), (3, vI v2_), (4, vI v3_)]) F.hx F.hb d_MO_layWalk_115 rfl hl (Nat.le_of_ble_eq_true rfl) rfl (fun ls hl => ?_)
          exact k_MO_layWalk_L116 l hlo x1 hx1 F hlk hr bk34 hbk34 bk42 hbk42 (fun a0_ a1_ a2_ a3_ => t_MO_layWalk_L53 x1 bk34 bk42 fu a0_ a1_ a2_ a3_) ih M23 1 (Or.inr rfl) v2_ hv2_ v3_ hv3_ _ _ _ hS (lv_sub hl [2, 0, 3, 4] rfl) hT
        · replace hT := (if_neg c19).symm.trans hT
          refine lv_goto (tgt := 116) F.hx F.hb d_MO_layWalk_96 (by decide) ?_
          exact k_MO_layWalk_L116 l hlo x1 hx1 F hlk hr bk34 hbk34 bk42 hbk42 (fun a0_ a1_ a2_ a3_ => t_MO_layWalk_L53 x1 bk34 bk42 fu a0_ a1_ a2_ a3_) ih M v1_ hv1_ v2_ hv2_ v3_ hv3_ _ _ _ hS (lv_sub hl [1, 2, 3, 4] rfl) hT
set_option maxHeartbeats 4000000 in
set_option maxRecDepth 100000 in
theorem k_MO_layWalk_L42 (l : Launch) {p : Program} {e : Env} {s : State} {m : MethodId} {below : List Frame} {meth : Method} {c : Code} {b n : Nat} {C : CT} (hlo : 231 ≤ n) (x1 : Int) (hx1 : InR x1) (F : Cx b p m c b_MO_layWalk 6 s ([.ref (b + 191), vI x1] : List Value).toArray "WardFallsModel" C n 231) (hlk : meth.locks = false) (hr : meth.sig.returnType = none) {res : Mem} (bk34 : Mem → Int → Option (Mem)) (hbk34 : ∀ (M : Mem) (v1_ : Int) (hv1_ : v1_ = 0 ∨ v1_ = 1) (H : Heap) (locs : List Loc) (ls : Array Slot), St b C n M s H locs → lv_has ls 6 [(0, .ref (b + 191)), (2, vI v1_)] → bk34 M v1_ = some res → W p l e (headSpec (wsM y_MO_layWalk b_MO_layWalk 6 (none)) (rmD 3)).room s m ([.ref (b + 191), vI x1] : List Value).toArray below meth c H locs 0 0 (MQ below (QV b C n res) ([.ref (b + 191), vI x1] : List Value).toArray s 0 0 (frb b)) (F0 m 34 ls [])) : ∀ (fu : Nat) (M : Mem) (v1_ : Int) (hv1_ : v1_ = 0 ∨ v1_ = 1) (v2_ : Int) (hv2_ : InR v2_) (H : Heap) (locs : List Loc) (ls : Array Slot), St b C n M s H locs → lv_has ls 6 [(0, .ref (b + 191)), (2, vI v1_), (3, vI v2_)] → t_MO_layWalk_L42 x1 bk34 fu M v1_ v2_ = some res → W p l e (headSpec (wsM y_MO_layWalk b_MO_layWalk 6 (none)) (rmD 3)).room s m ([.ref (b + 191), vI x1] : List Value).toArray below meth c H locs 0 0 (MQ below (QV b C n res) ([.ref (b + 191), vI x1] : List Value).toArray s 0 0 (frb b)) (F0 m 42 ls []) := by
  intro fu
  induction fu with
  | zero => intro M v1_ hv1_ v2_ hv2_ H locs ls hS hl hT; exact absurd hT (by simp [t_MO_layWalk_L42])
  | succ fu ih =>
    intro M v1_ hv1_ v2_ hv2_ H locs ls hS hl hT
    rw [t_MO_layWalk_L42] at hT
    refine lv_iload_n F.hx F.hb d_MO_layWalk_42 rfl (lv_at hl 2 rfl) ?_
    refine lv_aload_n F.hx F.hb d_MO_layWalk_43 rfl (lv_at hl 0 rfl) ?_
    obtain ⟨q6, hq6⟩ : ∃ q, q = (t_MO_cells M) := ⟨_, rfl⟩
    replace hT := qlet_eq hT hq6
    refine r_backI F hS (r_runV (k := 191) (N := 68) (T := T1) (As := []) F hS (show 191 < 231 by decide) (show shK 191 = 5 from rfl) rfl (c_MO_cells l F.2.2.1 M _ hq6.symm) gs_MO_329 hd_MO_cells ⟨Nat.le_of_ble_eq_true rfl, Nat.le_of_ble_eq_true rfl⟩ rfl hl.1 (Nat.le_of_ble_eq_true rfl) ⟨Nat.zero_le _, Nat.zero_le _⟩ rfl d_MO_layWalk_44) (fun H locs hS h7 => ?_)
    refine r_icmp_ge (tgt := 128) F.hx F.hb hv2_ h7 d_MO_layWalk_47 (by decide) (fun c8 => ?_) (fun c8 => ?_)
    · replace hT := (if_pos c8).symm.trans hT
      refine lv_goto (tgt := 34) F.hx F.hb d_MO_layWalk_128 (by decide) ?_
      exact hbk34 M v1_ hv1_ _ _ _ hS (lv_sub hl [0, 1] rfl) hT
    · replace hT := (if_neg c8).symm.trans hT
      refine r_iconst F.hx F.hb d_MO_layWalk_50 ?_
      refine lv_istore (lv' := [(4, vI 0), (0, .ref (b + 191)), (2, vI v1_), (3, vI v2_)]) F.hx F.hb d_MO_layWalk_51 hl (Nat.le_of_ble_eq_true rfl) rfl (fun ls hl => ?_)
      exact k_MO_layWalk_L53 l hlo x1 hx1 F hlk hr bk34 hbk34 (fun a0_ a1_ a2_ => t_MO_layWalk_L42 x1 bk34 fu a0_ a1_ a2_) ih FU M v1_ hv1_ v2_ hv2_ 0 (inr_c rfl) _ _ _ hS (lv_sub hl [1, 2, 3, 0] rfl) hT
set_option maxHeartbeats 4000000 in
set_option maxRecDepth 100000 in
theorem k_MO_layWalk_L34 (l : Launch) {p : Program} {e : Env} {s : State} {m : MethodId} {below : List Frame} {meth : Method} {c : Code} {b n : Nat} {C : CT} (hlo : 231 ≤ n) (x1 : Int) (hx1 : InR x1) (F : Cx b p m c b_MO_layWalk 6 s ([.ref (b + 191), vI x1] : List Value).toArray "WardFallsModel" C n 231) (hlk : meth.locks = false) (hr : meth.sig.returnType = none) {res : Mem} : ∀ (fu : Nat) (M : Mem) (v1_ : Int) (hv1_ : v1_ = 0 ∨ v1_ = 1) (H : Heap) (locs : List Loc) (ls : Array Slot), St b C n M s H locs → lv_has ls 6 [(0, .ref (b + 191)), (2, vI v1_)] → t_MO_layWalk_L34 x1 fu M v1_ = some res → W p l e (headSpec (wsM y_MO_layWalk b_MO_layWalk 6 (none)) (rmD 3)).room s m ([.ref (b + 191), vI x1] : List Value).toArray below meth c H locs 0 0 (MQ below (QV b C n res) ([.ref (b + 191), vI x1] : List Value).toArray s 0 0 (frb b)) (F0 m 34 ls []) := by
  intro fu
  induction fu with
  | zero => intro M v1_ hv1_ H locs ls hS hl hT; exact absurd hT (by simp [t_MO_layWalk_L34])
  | succ fu ih =>
    intro M v1_ hv1_ H locs ls hS hl hT
    rw [t_MO_layWalk_L34] at hT
    refine lv_iload_n F.hx F.hb d_MO_layWalk_34 rfl (lv_at hl 1 rfl) ?_
    refine r_if_eq (tgt := 131) F.hx F.hb (inr_z hv1_) d_MO_layWalk_35 (by decide) (fun c3 => ?_) (fun c3 => ?_)
    · replace hT := (if_pos c3).symm.trans hT
      cases hT
      exact r_vret F hlk hr hS d_MO_layWalk_131
    · replace hT := (if_neg c3).symm.trans hT
      refine r_iconst F.hx F.hb d_MO_layWalk_38 ?_
      refine lv_istore_n (lv' := [(2, vI 0), (0, .ref (b + 191))]) F.hx F.hb d_MO_layWalk_39 rfl hl (Nat.le_of_ble_eq_true rfl) rfl (fun ls hl => ?_)
      refine r_iconst F.hx F.hb d_MO_layWalk_40 ?_
      refine lv_istore_n (lv' := [(3, vI 0), (2, vI 0), (0, .ref (b + 191))]) F.hx F.hb d_MO_layWalk_41 rfl hl (Nat.le_of_ble_eq_true rfl) rfl (fun ls hl => ?_)
      exact k_MO_layWalk_L42 l hlo x1 hx1 F hlk hr (fun a0_ a1_ => t_MO_layWalk_L34 x1 fu a0_ a1_) ih FU M 0 (Or.inl rfl) 0 (inr_c rfl) _ _ _ hS (lv_sub hl [2, 1, 0] rfl) hT
set_option maxHeartbeats 4000000 in
set_option maxRecDepth 100000 in
theorem k_MO_layWalk_L2 (l : Launch) {p : Program} {e : Env} {s : State} {m : MethodId} {below : List Frame} {meth : Method} {c : Code} {b n : Nat} {C : CT} (hlo : 231 ≤ n) (x1 : Int) (hx1 : InR x1) (F : Cx b p m c b_MO_layWalk 6 s ([.ref (b + 191), vI x1] : List Value).toArray "WardFallsModel" C n 231) (hlk : meth.locks = false) (hr : meth.sig.returnType = none) {res : Mem} : ∀ (fu : Nat) (M : Mem) (v2_ : Int) (hv2_ : InR v2_) (H : Heap) (locs : List Loc) (ls : Array Slot), St b C n M s H locs → lv_has ls 6 [(0, .ref (b + 191)), (1, vI x1), (2, vI v2_)] → t_MO_layWalk_L2 x1 fu M v2_ = some res → W p l e (headSpec (wsM y_MO_layWalk b_MO_layWalk 6 (none)) (rmD 3)).room s m ([.ref (b + 191), vI x1] : List Value).toArray below meth c H locs 0 0 (MQ below (QV b C n res) ([.ref (b + 191), vI x1] : List Value).toArray s 0 0 (frb b)) (F0 m 2 ls []) := by
  intro fu
  induction fu with
  | zero => intro M v2_ hv2_ H locs ls hS hl hT; exact absurd hT (by simp [t_MO_layWalk_L2])
  | succ fu ih =>
    intro M v2_ hv2_ H locs ls hS hl hT
    rw [t_MO_layWalk_L2] at hT
    refine lv_iload_n F.hx F.hb d_MO_layWalk_2 rfl (lv_at hl 2 rfl) ?_
    refine r_bipush F.hx F.hb d_MO_layWalk_3 rfl ?_
    refine r_icmp_ge (tgt := 32) F.hx F.hb hv2_ (inr_c rfl) d_MO_layWalk_5 (by decide) (fun c1 => ?_) (fun c1 => ?_)
    · replace hT := (if_pos c1).symm.trans hT
      refine r_iconst F.hx F.hb d_MO_layWalk_32 ?_
      refine lv_istore_n (lv' := [(2, vI 1), (0, .ref (b + 191)), (1, vI x1)]) F.hx F.hb d_MO_layWalk_33 rfl hl (Nat.le_of_ble_eq_true rfl) rfl (fun ls hl => ?_)
      exact k_MO_layWalk_L34 l hlo x1 hx1 F hlk hr FU M 1 (Or.inr rfl) _ _ _ hS (lv_sub hl [1, 0] rfl) hT
    · replace hT := (if_neg c1).symm.trans hT
      refine lv_aload_n F.hx F.hb d_MO_layWalk_8 rfl (lv_at hl 0 rfl) ?_
      refine r_get (v := .ref (b + 222)) (N := 68) (T := T1) (j := 55) F hS (show 191 < 231 by decide) (show shK 191 = 5 from rfl) (show shN 191 = 68 from rfl) rfl (Nat.le_of_ble_eq_true rfl) ing1 mw_1444 (fv_sg rfl rfl rfl) d_MO_layWalk_9 ?_
      refine lv_iload_n F.hx F.hb d_MO_layWalk_12 rfl (lv_at hl 2 rfl) ?_
      refine lv_iload_n F.hx F.hb d_MO_layWalk_13 rfl (lv_at hl 2 rfl) ?_
      refine lv_iload_n F.hx F.hb d_MO_layWalk_14 rfl (lv_at hl 1 rfl) ?_
      refine r_icmp_ne (tgt := 22) F.hx F.hb hv2_ hx1 d_MO_layWalk_15 (by decide) (fun c2 => ?_) (fun c2 => ?_)
      · replace hT := (if_neg c2).symm.trans hT
        refine lv_ldcw (v := Int32.ofInt 1000000) F.hx F.hb F.hown (F.hts mw_1943) d_MO_layWalk_22 ?_
        exact k_MO_layWalk_L25 l hlo x1 hx1 F hlk hr (fun a0_ a1_ => t_MO_layWalk_L2 x1 fu a0_ a1_) ih M v2_ hv2_ v2_ hv2_ 1000000 (inr_c rfl) _ _ _ hS (lv_sub hl [0, 1, 2] rfl) hT
      · replace hT := (if_pos c2).symm.trans hT
        refine r_iconst F.hx F.hb d_MO_layWalk_18 ?_
        refine lv_goto (tgt := 25) F.hx F.hb d_MO_layWalk_19 (by decide) ?_
        exact k_MO_layWalk_L25 l hlo x1 hx1 F hlk hr (fun a0_ a1_ => t_MO_layWalk_L2 x1 fu a0_ a1_) ih M v2_ hv2_ v2_ hv2_ 0 (inr_c rfl) _ _ _ hS (lv_sub hl [0, 1, 2] rfl) hT
set_option maxHeartbeats 4000000 in
set_option maxRecDepth 100000 in
theorem c_MO_layWalk (l : Launch) {b n : Nat} {C : CT} (hlo : 231 ≤ n) (M : Mem) (x1 : Int) (hx1 : InR x1) (res : Mem) (hT : t_MO_layWalk M x1 = some res) : CM l b C n 3 y_MO_layWalk b_MO_layWalk 6 (none) [.ref (b + 191), vI x1] M (QV b C n res) := by
  refine CM.of (lo := 231) (ow := "WardFallsModel") (by decide) rfl (Nat.le_of_ble_eq_true rfl) hlo (fun p e s m below meth c F hlk hr hS ls hl => ?_)
  have hl : lv_has ls 6 [(0, .ref (b + 191)), (1, vI x1)] := hl
  unfold t_MO_layWalk at hT
  refine r_iconst F.hx F.hb d_MO_layWalk_0 ?_
  refine lv_istore_n (lv' := [(2, vI 0), (0, .ref (b + 191)), (1, vI x1)]) F.hx F.hb d_MO_layWalk_1 rfl hl (Nat.le_of_ble_eq_true rfl) rfl (fun ls hl => ?_)
  exact k_MO_layWalk_L2 l hlo x1 hx1 F hlk hr FU M 0 (inr_c rfl) _ _ _ hS (lv_sub hl [1, 2, 0] rfl) hT
theorem d_MO_isWalk_0 : decode b_MO_isWalk 0 = .ok (.aload_n 0, 1) := dc_42 (by decide +kernel)
theorem d_MO_isWalk_1 : decode b_MO_isWalk 1 = .ok (.iload_n 1, 1) := dc_27 (by decide +kernel)
theorem d_MO_isWalk_2 : decode b_MO_isWalk 2 = .ok (.invokevirtual 332, 3) := dc_182 (by decide +kernel)
theorem d_MO_isWalk_5 : decode b_MO_isWalk 5 = .ok (.ifCond .eq 31, 3) := dc_153 (by decide +kernel)
theorem d_MO_isWalk_8 : decode b_MO_isWalk 8 = .ok (.aload_n 0, 1) := dc_42 (by decide +kernel)
theorem d_MO_isWalk_9 : decode b_MO_isWalk 9 = .ok (.iload_n 2, 1) := dc_28 (by decide +kernel)
theorem d_MO_isWalk_10 : decode b_MO_isWalk 10 = .ok (.invokevirtual 332, 3) := dc_182 (by decide +kernel)
theorem d_MO_isWalk_13 : decode b_MO_isWalk 13 = .ok (.ifCond .eq 23, 3) := dc_153 (by decide +kernel)
theorem d_MO_isWalk_16 : decode b_MO_isWalk 16 = .ok (.aload_n 0, 1) := dc_42 (by decide +kernel)
theorem d_MO_isWalk_17 : decode b_MO_isWalk 17 = .ok (.iload_n 1, 1) := dc_27 (by decide +kernel)
theorem d_MO_isWalk_18 : decode b_MO_isWalk 18 = .ok (.invokevirtual 366, 3) := dc_182 (by decide +kernel)
theorem d_MO_isWalk_21 : decode b_MO_isWalk 21 = .ok (.ifCond .eq 15, 3) := dc_153 (by decide +kernel)
theorem d_MO_isWalk_24 : decode b_MO_isWalk 24 = .ok (.aload_n 0, 1) := dc_42 (by decide +kernel)
theorem d_MO_isWalk_25 : decode b_MO_isWalk 25 = .ok (.iload_n 2, 1) := dc_28 (by decide +kernel)
theorem d_MO_isWalk_26 : decode b_MO_isWalk 26 = .ok (.invokevirtual 366, 3) := dc_182 (by decide +kernel)
theorem d_MO_isWalk_29 : decode b_MO_isWalk 29 = .ok (.ifCond .eq 7, 3) := dc_153 (by decide +kernel)
theorem d_MO_isWalk_32 : decode b_MO_isWalk 32 = .ok (.iconst 1, 1) := dc_4 (by decide +kernel)
theorem d_MO_isWalk_33 : decode b_MO_isWalk 33 = .ok (.goto 4, 3) := dc_167 (by decide +kernel)
theorem d_MO_isWalk_36 : decode b_MO_isWalk 36 = .ok (.iconst 0, 1) := dc_3 (by decide +kernel)
theorem d_MO_isWalk_37 : decode b_MO_isWalk 37 = .ok (.ireturn, 1) := dc_172 (by decide +kernel)
def t_MO_isWalk (M : Mem) (x1 : Int) (x2 : Int) : Option (Int) := (qlet (t_MO_isCell M x1) fun q1 => (if q1 = 0 then (some 0) else (qlet (t_MO_isCell M x2) fun q4 => (if q4 = 0 then (some 0) else (obind (t_MO_stands M x1) fun q7 => (if q7 = 0 then (some 0) else (obind (t_MO_stands M x2) fun q10 => (if q10 = 0 then (some 0) else (some 1)))))))))
set_option maxHeartbeats 4000000 in
set_option maxRecDepth 100000 in
theorem c_MO_isWalk (l : Launch) {b n : Nat} {C : CT} (hlo : 231 ≤ n) (M : Mem) (x1 : Int) (x2 : Int) (hx1 : InR x1) (hx2 : InR x2) (res : Int) (hT : t_MO_isWalk M x1 x2 = some res) : CM l b C n 2 y_MO_isWalk b_MO_isWalk 3 (some .boolean) [.ref (b + 191), vI x1, vI x2] M (QZ b C n M res) := by
  refine CM.of (lo := 231) (ow := "WardFallsModel") (by decide) rfl (Nat.le_of_ble_eq_true rfl) hlo (fun p e s m below meth c F hlk hr hS ls hl => ?_)
  have hl : lv_has ls 3 [(0, .ref (b + 191)), (1, vI x1), (2, vI x2)] := hl
  unfold t_MO_isWalk at hT
  refine lv_aload_n F.hx F.hb d_MO_isWalk_0 rfl (lv_at hl 0 rfl) ?_
  refine lv_iload_n F.hx F.hb d_MO_isWalk_1 rfl (lv_at hl 1 rfl) ?_
  obtain ⟨q1, hq1⟩ : ∃ q, q = (t_MO_isCell M x1) := ⟨_, rfl⟩
  replace hT := qlet_eq hT hq1
  refine r_backZ F hS (r_runV (k := 191) (N := 68) (T := T1) (As := [vI x1]) F hS (show 191 < 231 by decide) (show shK 191 = 5 from rfl) rfl (c_MO_isCell l F.2.2.1 M x1 hx1 _ hq1.symm) gs_MO_332 hd_MO_isCell ⟨Nat.le_of_ble_eq_true rfl, Nat.le_of_ble_eq_true rfl⟩ rfl hl.1 (Nat.le_of_ble_eq_true rfl) ⟨Nat.zero_le _, Nat.zero_le _⟩ rfl d_MO_isWalk_2) (fun H locs hS h2 => ?_)
  refine r_if_eq (tgt := 36) F.hx F.hb (inr_z h2) d_MO_isWalk_5 (by decide) (fun c3 => ?_) (fun c3 => ?_)
  · replace hT := (if_pos c3).symm.trans hT
    refine r_iconst F.hx F.hb d_MO_isWalk_36 ?_
    cases hT
    exact r_zret F hlk hr hS (Or.inl rfl) d_MO_isWalk_37
  · replace hT := (if_neg c3).symm.trans hT
    refine lv_aload_n F.hx F.hb d_MO_isWalk_8 rfl (lv_at hl 0 rfl) ?_
    refine lv_iload_n F.hx F.hb d_MO_isWalk_9 rfl (lv_at hl 2 rfl) ?_
    obtain ⟨q4, hq4⟩ : ∃ q, q = (t_MO_isCell M x2) := ⟨_, rfl⟩
    replace hT := qlet_eq hT hq4
    refine r_backZ F hS (r_runV (k := 191) (N := 68) (T := T1) (As := [vI x2]) F hS (show 191 < 231 by decide) (show shK 191 = 5 from rfl) rfl (c_MO_isCell l F.2.2.1 M x2 hx2 _ hq4.symm) gs_MO_332 hd_MO_isCell ⟨Nat.le_of_ble_eq_true rfl, Nat.le_of_ble_eq_true rfl⟩ rfl hl.1 (Nat.le_of_ble_eq_true rfl) ⟨Nat.zero_le _, Nat.zero_le _⟩ rfl d_MO_isWalk_10) (fun H locs hS h5 => ?_)
    refine r_if_eq (tgt := 36) F.hx F.hb (inr_z h5) d_MO_isWalk_13 (by decide) (fun c6 => ?_) (fun c6 => ?_)
    · replace hT := (if_pos c6).symm.trans hT
      refine r_iconst F.hx F.hb d_MO_isWalk_36 ?_
      cases hT
      exact r_zret F hlk hr hS (Or.inl rfl) d_MO_isWalk_37
    · replace hT := (if_neg c6).symm.trans hT
      refine lv_aload_n F.hx F.hb d_MO_isWalk_16 rfl (lv_at hl 0 rfl) ?_
      refine lv_iload_n F.hx F.hb d_MO_isWalk_17 rfl (lv_at hl 1 rfl) ?_
      obtain ⟨q7, hq7, hT⟩ := q_obind hT
      refine r_backZ F hS (r_runV (k := 191) (N := 68) (T := T1) (As := [vI x1]) F hS (show 191 < 231 by decide) (show shK 191 = 5 from rfl) rfl (c_MO_stands l F.2.2.1 M x1 hx1 _ hq7) gs_MO_366 hd_MO_stands ⟨Nat.le_of_ble_eq_true rfl, Nat.le_of_ble_eq_true rfl⟩ rfl hl.1 (Nat.le_of_ble_eq_true rfl) ⟨Nat.zero_le _, Nat.zero_le _⟩ rfl d_MO_isWalk_18) (fun H locs hS h8 => ?_)
      refine r_if_eq (tgt := 36) F.hx F.hb (inr_z h8) d_MO_isWalk_21 (by decide) (fun c9 => ?_) (fun c9 => ?_)
      · replace hT := (if_pos c9).symm.trans hT
        refine r_iconst F.hx F.hb d_MO_isWalk_36 ?_
        cases hT
        exact r_zret F hlk hr hS (Or.inl rfl) d_MO_isWalk_37
      · replace hT := (if_neg c9).symm.trans hT
        refine lv_aload_n F.hx F.hb d_MO_isWalk_24 rfl (lv_at hl 0 rfl) ?_
        refine lv_iload_n F.hx F.hb d_MO_isWalk_25 rfl (lv_at hl 2 rfl) ?_
        obtain ⟨q10, hq10, hT⟩ := q_obind hT
        refine r_backZ F hS (r_runV (k := 191) (N := 68) (T := T1) (As := [vI x2]) F hS (show 191 < 231 by decide) (show shK 191 = 5 from rfl) rfl (c_MO_stands l F.2.2.1 M x2 hx2 _ hq10) gs_MO_366 hd_MO_stands ⟨Nat.le_of_ble_eq_true rfl, Nat.le_of_ble_eq_true rfl⟩ rfl hl.1 (Nat.le_of_ble_eq_true rfl) ⟨Nat.zero_le _, Nat.zero_le _⟩ rfl d_MO_isWalk_26) (fun H locs hS h11 => ?_)
        refine r_if_eq (tgt := 36) F.hx F.hb (inr_z h11) d_MO_isWalk_29 (by decide) (fun c12 => ?_) (fun c12 => ?_)
        · replace hT := (if_pos c12).symm.trans hT
          refine r_iconst F.hx F.hb d_MO_isWalk_36 ?_
          cases hT
          exact r_zret F hlk hr hS (Or.inl rfl) d_MO_isWalk_37
        · replace hT := (if_neg c12).symm.trans hT
          refine r_iconst F.hx F.hb d_MO_isWalk_32 ?_
          refine lv_goto (tgt := 37) F.hx F.hb d_MO_isWalk_33 (by decide) ?_
          cases hT
          exact r_zret F hlk hr hS (Or.inr rfl) d_MO_isWalk_37
theorem d_MO_walk_0 : decode b_MO_walk 0 = .ok (.aload_n 0, 1) := dc_42 (by decide +kernel)
theorem d_MO_walk_1 : decode b_MO_walk 1 = .ok (.iconst 0, 1) := dc_3 (by decide +kernel)
theorem d_MO_walk_2 : decode b_MO_walk 2 = .ok (.putfield 145, 3) := dc_181 (by decide +kernel)
theorem d_MO_walk_5 : decode b_MO_walk 5 = .ok (.aload_n 0, 1) := dc_42 (by decide +kernel)
theorem d_MO_walk_6 : decode b_MO_walk 6 = .ok (.iload_n 1, 1) := dc_27 (by decide +kernel)
theorem d_MO_walk_7 : decode b_MO_walk 7 = .ok (.iload_n 2, 1) := dc_28 (by decide +kernel)
theorem d_MO_walk_8 : decode b_MO_walk 8 = .ok (.invokevirtual 462, 3) := dc_182 (by decide +kernel)
theorem d_MO_walk_11 : decode b_MO_walk 11 = .ok (.ifCond .ne 5, 3) := dc_154 (by decide +kernel)
theorem d_MO_walk_14 : decode b_MO_walk 14 = .ok (.iconst (-1), 1) := dc_2 (by decide +kernel)
theorem d_MO_walk_15 : decode b_MO_walk 15 = .ok (.ireturn, 1) := dc_172 (by decide +kernel)
theorem d_MO_walk_16 : decode b_MO_walk 16 = .ok (.aload_n 0, 1) := dc_42 (by decide +kernel)
theorem d_MO_walk_17 : decode b_MO_walk 17 = .ok (.iload_n 2, 1) := dc_28 (by decide +kernel)
theorem d_MO_walk_18 : decode b_MO_walk 18 = .ok (.invokevirtual 465, 3) := dc_182 (by decide +kernel)
theorem d_MO_walk_21 : decode b_MO_walk 21 = .ok (.aload_n 0, 1) := dc_42 (by decide +kernel)
theorem d_MO_walk_22 : decode b_MO_walk 22 = .ok (.getfield 112, 3) := dc_180 (by decide +kernel)
theorem d_MO_walk_25 : decode b_MO_walk 25 = .ok (.iload_n 1, 1) := dc_27 (by decide +kernel)
theorem d_MO_walk_26 : decode b_MO_walk 26 = .ok (.iaload, 1) := dc_46 (by decide +kernel)
theorem d_MO_walk_27 : decode b_MO_walk 27 = .ok (.ldc_w 458, 3) := dc_19 (by decide +kernel)
theorem d_MO_walk_30 : decode b_MO_walk 30 = .ok (.if_icmp .lt 8, 3) := dc_161 (by decide +kernel)
theorem d_MO_walk_33 : decode b_MO_walk 33 = .ok (.bipush (-2), 2) := dc_16 (by decide +kernel)
theorem d_MO_walk_35 : decode b_MO_walk 35 = .ok (.goto 9, 3) := dc_167 (by decide +kernel)
theorem d_MO_walk_38 : decode b_MO_walk 38 = .ok (.aload_n 0, 1) := dc_42 (by decide +kernel)
theorem d_MO_walk_39 : decode b_MO_walk 39 = .ok (.getfield 112, 3) := dc_180 (by decide +kernel)
theorem d_MO_walk_42 : decode b_MO_walk 42 = .ok (.iload_n 1, 1) := dc_27 (by decide +kernel)
theorem d_MO_walk_43 : decode b_MO_walk 43 = .ok (.iaload, 1) := dc_46 (by decide +kernel)
theorem d_MO_walk_44 : decode b_MO_walk 44 = .ok (.ireturn, 1) := dc_172 (by decide +kernel)
def t_MO_walk (M : Mem) (x1 : Int) (x2 : Int) : Option (Mem × Int) := (qlet (setI M 191 0 0) fun M1 => (obind (t_MO_isWalk M1 x1 x2) fun q2 => (if q2 = 0 then (some (M1, (-1))) else (obind (t_MO_layWalk M1 x2) fun q5 => (qguard (0 ≤ x1 ∧ x1 < 48) (if (q5.1 222 x1) < 1000000 then (qguard (0 ≤ x1 ∧ x1 < 48) (some (q5, (q5.1 222 x1)))) else (some (q5, (-2)))))))))
set_option maxHeartbeats 4000000 in
set_option maxRecDepth 100000 in
theorem c_MO_walk (l : Launch) {b n : Nat} {C : CT} (hlo : 231 ≤ n) (M : Mem) (x1 : Int) (x2 : Int) (hx1 : InR x1) (hx2 : InR x2) (res : Mem × Int) (hT : t_MO_walk M x1 x2 = some res) : CM l b C n 4 y_MO_walk b_MO_walk 3 (some .int) [.ref (b + 191), vI x1, vI x2] M (QI b C n res.1 res.2) := by
  refine CM.of (lo := 231) (ow := "WardFallsModel") (by decide) rfl (Nat.le_of_ble_eq_true rfl) hlo (fun p e s m below meth c F hlk hr hS ls hl => ?_)
  have hl : lv_has ls 3 [(0, .ref (b + 191)), (1, vI x1), (2, vI x2)] := hl
  unfold t_MO_walk at hT
  refine lv_aload_n F.hx F.hb d_MO_walk_0 rfl (lv_at hl 0 rfl) ?_
  refine r_iconst F.hx F.hb d_MO_walk_1 ?_
  refine r_putI (N := 68) (T := T1) (j := 0) F hS (show 191 < 231 by decide) (show shK 191 = 5 from rfl) (show shN 191 = 68 from rfl) rfl (Nat.le_of_ble_eq_true rfl) ing1 tyok1 nm1 rfl rfl rfl rfl rfl rfl mw_1389 (inr_c rfl) d_MO_walk_2 (fun H locs hS => ?_)
  obtain ⟨M1, eM1⟩ : ∃ q, q = (setI M 191 0 0) := ⟨_, rfl⟩
  replace hS : St b C n M1 s H locs := by rw [eM1]; exact hS
  replace hT := qlet_eq hT eM1
  refine lv_aload_n F.hx F.hb d_MO_walk_5 rfl (lv_at hl 0 rfl) ?_
  refine lv_iload_n F.hx F.hb d_MO_walk_6 rfl (lv_at hl 1 rfl) ?_
  refine lv_iload_n F.hx F.hb d_MO_walk_7 rfl (lv_at hl 2 rfl) ?_
  obtain ⟨q2, hq2, hT⟩ := q_obind hT
  refine r_backZ F hS (r_runV (k := 191) (N := 68) (T := T1) (As := [vI x1, vI x2]) F hS (show 191 < 231 by decide) (show shK 191 = 5 from rfl) rfl (c_MO_isWalk l F.2.2.1 M1 x1 x2 hx1 hx2 _ hq2) gs_MO_462 hd_MO_isWalk ⟨Nat.le_of_ble_eq_true rfl, Nat.le_of_ble_eq_true rfl⟩ rfl hl.1 (Nat.le_of_ble_eq_true rfl) ⟨Nat.zero_le _, Nat.zero_le _⟩ rfl d_MO_walk_8) (fun H locs hS h3 => ?_)
  refine r_if_ne (tgt := 16) F.hx F.hb (inr_z h3) d_MO_walk_11 (by decide) (fun c4 => ?_) (fun c4 => ?_)
  · replace hT := (if_neg c4).symm.trans hT
    refine lv_aload_n F.hx F.hb d_MO_walk_16 rfl (lv_at hl 0 rfl) ?_
    refine lv_iload_n F.hx F.hb d_MO_walk_17 rfl (lv_at hl 2 rfl) ?_
    obtain ⟨q5, hq5, hT⟩ := q_obind hT
    refine r_backV F hS (r_runV (k := 191) (N := 68) (T := T1) (As := [vI x2]) F hS (show 191 < 231 by decide) (show shK 191 = 5 from rfl) rfl (c_MO_layWalk l F.2.2.1 M1 x2 hx2 _ hq5) gs_MO_465 hd_MO_layWalk ⟨Nat.le_of_ble_eq_true rfl, Nat.le_of_ble_eq_true rfl⟩ rfl hl.1 (Nat.le_of_ble_eq_true rfl) ⟨Nat.zero_le _, Nat.zero_le _⟩ rfl d_MO_walk_18) (fun H locs hS => ?_)
    refine lv_aload_n F.hx F.hb d_MO_walk_21 rfl (lv_at hl 0 rfl) ?_
    refine r_get (v := .ref (b + 222)) (N := 68) (T := T1) (j := 55) F hS (show 191 < 231 by decide) (show shK 191 = 5 from rfl) (show shN 191 = 68 from rfl) rfl (Nat.le_of_ble_eq_true rfl) ing1 mw_1444 (fv_sg rfl rfl rfl) d_MO_walk_22 ?_
    refine lv_iload_n F.hx F.hb d_MO_walk_25 rfl (lv_at hl 1 rfl) ?_
    obtain ⟨⟨g7a, g7b⟩, hT⟩ := q_guard hT
    refine r_iald F hS (show 222 < 231 by decide) (show shK 222 = 0 from rfl) (show shN 222 = 48 from rfl) hx1 g7a g7b d_MO_walk_26 ?_
    have i8 := hS.rng 222 x1
    refine lv_ldcw (v := Int32.ofInt 1000000) F.hx F.hb F.hown (F.hts mw_1943) d_MO_walk_27 ?_
    refine r_icmp_lt (tgt := 38) F.hx F.hb i8 (inr_c rfl) d_MO_walk_30 (by decide) (fun c9 => ?_) (fun c9 => ?_)
    · replace hT := (if_pos c9).symm.trans hT
      refine lv_aload_n F.hx F.hb d_MO_walk_38 rfl (lv_at hl 0 rfl) ?_
      refine r_get (v := .ref (b + 222)) (N := 68) (T := T1) (j := 55) F hS (show 191 < 231 by decide) (show shK 191 = 5 from rfl) (show shN 191 = 68 from rfl) rfl (Nat.le_of_ble_eq_true rfl) ing1 mw_1444 (fv_sg rfl rfl rfl) d_MO_walk_39 ?_
      refine lv_iload_n F.hx F.hb d_MO_walk_42 rfl (lv_at hl 1 rfl) ?_
      obtain ⟨⟨g10a, g10b⟩, hT⟩ := q_guard hT
      refine r_iald F hS (show 222 < 231 by decide) (show shK 222 = 0 from rfl) (show shN 222 = 48 from rfl) hx1 g10a g10b d_MO_walk_43 ?_
      have i11 := hS.rng 222 x1
      cases hT
      exact r_iret F hlk hr rfl hS i11 d_MO_walk_44
    · replace hT := (if_neg c9).symm.trans hT
      refine r_bipush F.hx F.hb d_MO_walk_33 rfl ?_
      refine lv_goto (tgt := 44) F.hx F.hb d_MO_walk_35 (by decide) ?_
      cases hT
      exact r_iret F hlk hr rfl hS (inr_c rfl) d_MO_walk_44
  · replace hT := (if_pos c4).symm.trans hT
    refine r_iconst F.hx F.hb d_MO_walk_14 ?_
    cases hT
    exact r_iret F hlk hr rfl hS (inr_c rfl) d_MO_walk_15
theorem wn_MO_step_0 : ∀ i, i < 96 → bA b_MO_step (0 + i) = wB [42, 3, 181, 0, 145, 42, 27, 28, 182, 1, 206, 153, 0, 7, 29, 156, 0, 5, 2, 172, 42, 28, 182, 1, 209, 42, 180, 0, 112, 27, 46, 19, 1, 202, 162, 0, 13, 29, 42, 180, 0, 112, 27, 46, 164, 0, 6, 16, 254, 172, 27, 54, 4, 3, 54, 5, 21, 5, 29, 162, 0, 70, 3, 54, 6, 42, 21, 4, 42, 21, 4, 21, 6, 182, 1, 82, 182, 1, 203, 153, 0, 28, 42, 180, 0, 112, 42, 21, 4, 21, 6, 182, 1, 82, 46, 42] i := wB_of (by decide +kernel)
theorem d_MO_step_0 : decode b_MO_step 0 = .ok (.aload_n 0, 1) := dc_42 (q0_win (r := 0) wn_MO_step_0 (by decide +kernel))
theorem d_MO_step_1 : decode b_MO_step 1 = .ok (.iconst 0, 1) := dc_3 (q0_win (r := 1) wn_MO_step_0 (by decide +kernel))
theorem d_MO_step_2 : decode b_MO_step 2 = .ok (.putfield 145, 3) := dc_181 (qU2_win (r := 2) wn_MO_step_0 (by decide +kernel))
theorem d_MO_step_5 : decode b_MO_step 5 = .ok (.aload_n 0, 1) := dc_42 (q0_win (r := 5) wn_MO_step_0 (by decide +kernel))
theorem d_MO_step_6 : decode b_MO_step 6 = .ok (.iload_n 1, 1) := dc_27 (q0_win (r := 6) wn_MO_step_0 (by decide +kernel))
theorem d_MO_step_7 : decode b_MO_step 7 = .ok (.iload_n 2, 1) := dc_28 (q0_win (r := 7) wn_MO_step_0 (by decide +kernel))
theorem d_MO_step_8 : decode b_MO_step 8 = .ok (.invokevirtual 462, 3) := dc_182 (qU2_win (r := 8) wn_MO_step_0 (by decide +kernel))
theorem d_MO_step_11 : decode b_MO_step 11 = .ok (.ifCond .eq 7, 3) := dc_153 (qS2_win (r := 11) wn_MO_step_0 (by decide +kernel))
theorem d_MO_step_14 : decode b_MO_step 14 = .ok (.iload_n 3, 1) := dc_29 (q0_win (r := 14) wn_MO_step_0 (by decide +kernel))
theorem d_MO_step_15 : decode b_MO_step 15 = .ok (.ifCond .ge 5, 3) := dc_156 (qS2_win (r := 15) wn_MO_step_0 (by decide +kernel))
theorem d_MO_step_18 : decode b_MO_step 18 = .ok (.iconst (-1), 1) := dc_2 (q0_win (r := 18) wn_MO_step_0 (by decide +kernel))
theorem d_MO_step_19 : decode b_MO_step 19 = .ok (.ireturn, 1) := dc_172 (q0_win (r := 19) wn_MO_step_0 (by decide +kernel))
theorem d_MO_step_20 : decode b_MO_step 20 = .ok (.aload_n 0, 1) := dc_42 (q0_win (r := 20) wn_MO_step_0 (by decide +kernel))
theorem d_MO_step_21 : decode b_MO_step 21 = .ok (.iload_n 2, 1) := dc_28 (q0_win (r := 21) wn_MO_step_0 (by decide +kernel))
theorem d_MO_step_22 : decode b_MO_step 22 = .ok (.invokevirtual 465, 3) := dc_182 (qU2_win (r := 22) wn_MO_step_0 (by decide +kernel))
theorem d_MO_step_25 : decode b_MO_step 25 = .ok (.aload_n 0, 1) := dc_42 (q0_win (r := 25) wn_MO_step_0 (by decide +kernel))
theorem d_MO_step_26 : decode b_MO_step 26 = .ok (.getfield 112, 3) := dc_180 (qU2_win (r := 26) wn_MO_step_0 (by decide +kernel))
theorem d_MO_step_29 : decode b_MO_step 29 = .ok (.iload_n 1, 1) := dc_27 (q0_win (r := 29) wn_MO_step_0 (by decide +kernel))
theorem d_MO_step_30 : decode b_MO_step 30 = .ok (.iaload, 1) := dc_46 (q0_win (r := 30) wn_MO_step_0 (by decide +kernel))
theorem d_MO_step_31 : decode b_MO_step 31 = .ok (.ldc_w 458, 3) := dc_19 (qU2_win (r := 31) wn_MO_step_0 (by decide +kernel))
theorem d_MO_step_34 : decode b_MO_step 34 = .ok (.if_icmp .ge 13, 3) := dc_162 (qS2_win (r := 34) wn_MO_step_0 (by decide +kernel))
theorem d_MO_step_37 : decode b_MO_step 37 = .ok (.iload_n 3, 1) := dc_29 (q0_win (r := 37) wn_MO_step_0 (by decide +kernel))
theorem d_MO_step_38 : decode b_MO_step 38 = .ok (.aload_n 0, 1) := dc_42 (q0_win (r := 38) wn_MO_step_0 (by decide +kernel))
theorem d_MO_step_39 : decode b_MO_step 39 = .ok (.getfield 112, 3) := dc_180 (qU2_win (r := 39) wn_MO_step_0 (by decide +kernel))
theorem d_MO_step_42 : decode b_MO_step 42 = .ok (.iload_n 1, 1) := dc_27 (q0_win (r := 42) wn_MO_step_0 (by decide +kernel))
theorem d_MO_step_43 : decode b_MO_step 43 = .ok (.iaload, 1) := dc_46 (q0_win (r := 43) wn_MO_step_0 (by decide +kernel))
theorem d_MO_step_44 : decode b_MO_step 44 = .ok (.if_icmp .le 6, 3) := dc_164 (qS2_win (r := 44) wn_MO_step_0 (by decide +kernel))
theorem d_MO_step_47 : decode b_MO_step 47 = .ok (.bipush (-2), 2) := dc_16 (qS1_win (r := 47) wn_MO_step_0 (by decide +kernel))
theorem d_MO_step_49 : decode b_MO_step 49 = .ok (.ireturn, 1) := dc_172 (q0_win (r := 49) wn_MO_step_0 (by decide +kernel))
theorem d_MO_step_50 : decode b_MO_step 50 = .ok (.iload_n 1, 1) := dc_27 (q0_win (r := 50) wn_MO_step_0 (by decide +kernel))
theorem d_MO_step_51 : decode b_MO_step 51 = .ok (.istore 4, 2) := dc_54 (qU1_win (r := 51) wn_MO_step_0 (by decide +kernel))
theorem d_MO_step_53 : decode b_MO_step 53 = .ok (.iconst 0, 1) := dc_3 (q0_win (r := 53) wn_MO_step_0 (by decide +kernel))
theorem d_MO_step_54 : decode b_MO_step 54 = .ok (.istore 5, 2) := dc_54 (qU1_win (r := 54) wn_MO_step_0 (by decide +kernel))
theorem d_MO_step_56 : decode b_MO_step 56 = .ok (.iload 5, 2) := dc_21 (qU1_win (r := 56) wn_MO_step_0 (by decide +kernel))
theorem d_MO_step_58 : decode b_MO_step 58 = .ok (.iload_n 3, 1) := dc_29 (q0_win (r := 58) wn_MO_step_0 (by decide +kernel))
theorem d_MO_step_59 : decode b_MO_step 59 = .ok (.if_icmp .ge 70, 3) := dc_162 (qS2_win (r := 59) wn_MO_step_0 (by decide +kernel))
theorem d_MO_step_62 : decode b_MO_step 62 = .ok (.iconst 0, 1) := dc_3 (q0_win (r := 62) wn_MO_step_0 (by decide +kernel))
theorem d_MO_step_63 : decode b_MO_step 63 = .ok (.istore 6, 2) := dc_54 (qU1_win (r := 63) wn_MO_step_0 (by decide +kernel))
theorem d_MO_step_65 : decode b_MO_step 65 = .ok (.aload_n 0, 1) := dc_42 (q0_win (r := 65) wn_MO_step_0 (by decide +kernel))
theorem d_MO_step_66 : decode b_MO_step 66 = .ok (.iload 4, 2) := dc_21 (qU1_win (r := 66) wn_MO_step_0 (by decide +kernel))
theorem d_MO_step_68 : decode b_MO_step 68 = .ok (.aload_n 0, 1) := dc_42 (q0_win (r := 68) wn_MO_step_0 (by decide +kernel))
theorem d_MO_step_69 : decode b_MO_step 69 = .ok (.iload 4, 2) := dc_21 (qU1_win (r := 69) wn_MO_step_0 (by decide +kernel))
theorem d_MO_step_71 : decode b_MO_step 71 = .ok (.iload 6, 2) := dc_21 (qU1_win (r := 71) wn_MO_step_0 (by decide +kernel))
theorem d_MO_step_73 : decode b_MO_step 73 = .ok (.invokevirtual 338, 3) := dc_182 (qU2_win (r := 73) wn_MO_step_0 (by decide +kernel))
theorem d_MO_step_76 : decode b_MO_step 76 = .ok (.invokevirtual 459, 3) := dc_182 (qU2_win (r := 76) wn_MO_step_0 (by decide +kernel))
theorem d_MO_step_79 : decode b_MO_step 79 = .ok (.ifCond .eq 28, 3) := dc_153 (qS2_win (r := 79) wn_MO_step_0 (by decide +kernel))
theorem d_MO_step_82 : decode b_MO_step 82 = .ok (.aload_n 0, 1) := dc_42 (q0_win (r := 82) wn_MO_step_0 (by decide +kernel))
theorem d_MO_step_83 : decode b_MO_step 83 = .ok (.getfield 112, 3) := dc_180 (qU2_win (r := 83) wn_MO_step_0 (by decide +kernel))
theorem d_MO_step_86 : decode b_MO_step 86 = .ok (.aload_n 0, 1) := dc_42 (q0_win (r := 86) wn_MO_step_0 (by decide +kernel))
theorem d_MO_step_87 : decode b_MO_step 87 = .ok (.iload 4, 2) := dc_21 (qU1_win (r := 87) wn_MO_step_0 (by decide +kernel))
theorem d_MO_step_89 : decode b_MO_step 89 = .ok (.iload 6, 2) := dc_21 (qU1_win (r := 89) wn_MO_step_0 (by decide +kernel))
theorem d_MO_step_91 : decode b_MO_step 91 = .ok (.invokevirtual 338, 3) := dc_182 (qU2_win (r := 91) wn_MO_step_0 (by decide +kernel))
theorem d_MO_step_94 : decode b_MO_step 94 = .ok (.iaload, 1) := dc_46 (q0_win (r := 94) wn_MO_step_0 (by decide +kernel))
theorem d_MO_step_95 : decode b_MO_step 95 = .ok (.aload_n 0, 1) := dc_42 (q0_win (r := 95) wn_MO_step_0 (by decide +kernel))
theorem wn_MO_step_96 : ∀ i, i < 36 → bA b_MO_step (96 + i) = wB [180, 0, 112, 21, 4, 46, 4, 100, 159, 0, 9, 132, 6, 1, 167, 255, 211, 42, 21, 4, 21, 6, 182, 1, 82, 54, 4, 132, 5, 1, 167, 255, 186, 21, 4, 172] i := wB_of (by decide +kernel)
theorem d_MO_step_96 : decode b_MO_step 96 = .ok (.getfield 112, 3) := dc_180 (qU2_win (r := 0) wn_MO_step_96 (by decide +kernel))
theorem d_MO_step_99 : decode b_MO_step 99 = .ok (.iload 4, 2) := dc_21 (qU1_win (r := 3) wn_MO_step_96 (by decide +kernel))
theorem d_MO_step_101 : decode b_MO_step 101 = .ok (.iaload, 1) := dc_46 (q0_win (r := 5) wn_MO_step_96 (by decide +kernel))
theorem d_MO_step_102 : decode b_MO_step 102 = .ok (.iconst 1, 1) := dc_4 (q0_win (r := 6) wn_MO_step_96 (by decide +kernel))
theorem d_MO_step_103 : decode b_MO_step 103 = .ok (.isub, 1) := dc_100 (q0_win (r := 7) wn_MO_step_96 (by decide +kernel))
theorem d_MO_step_104 : decode b_MO_step 104 = .ok (.if_icmp .eq 9, 3) := dc_159 (qS2_win (r := 8) wn_MO_step_96 (by decide +kernel))
theorem d_MO_step_107 : decode b_MO_step 107 = .ok (.iinc 6 1, 3) := dc_132 (qI_win (r := 11) wn_MO_step_96 (by decide +kernel))
theorem d_MO_step_110 : decode b_MO_step 110 = .ok (.goto (-45), 3) := dc_167 (qS2_win (r := 14) wn_MO_step_96 (by decide +kernel))
theorem d_MO_step_113 : decode b_MO_step 113 = .ok (.aload_n 0, 1) := dc_42 (q0_win (r := 17) wn_MO_step_96 (by decide +kernel))
theorem d_MO_step_114 : decode b_MO_step 114 = .ok (.iload 4, 2) := dc_21 (qU1_win (r := 18) wn_MO_step_96 (by decide +kernel))
theorem d_MO_step_116 : decode b_MO_step 116 = .ok (.iload 6, 2) := dc_21 (qU1_win (r := 20) wn_MO_step_96 (by decide +kernel))
theorem d_MO_step_118 : decode b_MO_step 118 = .ok (.invokevirtual 338, 3) := dc_182 (qU2_win (r := 22) wn_MO_step_96 (by decide +kernel))
theorem d_MO_step_121 : decode b_MO_step 121 = .ok (.istore 4, 2) := dc_54 (qU1_win (r := 25) wn_MO_step_96 (by decide +kernel))
theorem d_MO_step_123 : decode b_MO_step 123 = .ok (.iinc 5 1, 3) := dc_132 (qI_win (r := 27) wn_MO_step_96 (by decide +kernel))
theorem d_MO_step_126 : decode b_MO_step 126 = .ok (.goto (-70), 3) := dc_167 (qS2_win (r := 30) wn_MO_step_96 (by decide +kernel))
theorem d_MO_step_129 : decode b_MO_step 129 = .ok (.iload 4, 2) := dc_21 (qU1_win (r := 33) wn_MO_step_96 (by decide +kernel))
theorem d_MO_step_131 : decode b_MO_step 131 = .ok (.ireturn, 1) := dc_172 (q0_win (r := 35) wn_MO_step_96 (by decide +kernel))
def t_MO_step_L107 (x1 : Int) (x2 : Int) (x3 : Int) (bk56 : Mem → Int → Int → Option (Mem × Int)) (bk65 : Mem → Int → Int → Int → Option (Mem × Int)) (M : Mem) (v2_ : Int) (v3_ : Int) (v4_ : Int) : Option (Mem × Int) := (bk65 M v2_ v3_ (w32 (v4_ + 1)))
def t_MO_step_L65 (x1 : Int) (x2 : Int) (x3 : Int) (bk56 : Mem → Int → Int → Option (Mem × Int)) : Nat → Mem → Int → Int → Int → Option (Mem × Int)
  | 0, _, _, _, _ => none
  | fu + 1, M, v2_, v3_, v4_ => (obind (t_MO_beside M v2_ v4_) fun q15 => (obind (t_MO_canStep M v2_ q15) fun q17 => (if q17 = 0 then (t_MO_step_L107 x1 x2 x3 bk56 (fun a0_ a1_ a2_ a3_ => t_MO_step_L65 x1 x2 x3 bk56 fu a0_ a1_ a2_ a3_) M v2_ v3_ v4_) else (obind (t_MO_beside M v2_ v4_) fun q20 => (qguard (0 ≤ q20 ∧ q20 < 48) (qguard (0 ≤ v2_ ∧ v2_ < 48) (if (M.1 222 q20) = (w32 ((M.1 222 v2_) - 1)) then (obind (t_MO_beside M v2_ v4_) fun q27 => (bk56 M q27 (w32 (v3_ + 1)))) else (t_MO_step_L107 x1 x2 x3 bk56 (fun a0_ a1_ a2_ a3_ => t_MO_step_L65 x1 x2 x3 bk56 fu a0_ a1_ a2_ a3_) M v2_ v3_ v4_))))))))
def t_MO_step_L56 (x1 : Int) (x2 : Int) (x3 : Int)  : Nat → Mem → Int → Int → Option (Mem × Int)
  | 0, _, _, _ => none
  | fu + 1, M, v2_, v3_ => (if x3 ≤ v3_ then (some (M, v2_)) else (t_MO_step_L65 x1 x2 x3 (fun a0_ a1_ a2_ => t_MO_step_L56 x1 x2 x3 fu a0_ a1_ a2_) FU M v2_ v3_ 0))
def t_MO_step (M : Mem) (x1 : Int) (x2 : Int) (x3 : Int) : Option (Mem × Int) := (qlet (setI M 191 0 0) fun M1 => (obind (t_MO_isWalk M1 x1 x2) fun q2 => (if q2 = 0 then (some (M1, (-1))) else (if 0 ≤ x3 then (obind (t_MO_layWalk M1 x2) fun q6 => (qguard (0 ≤ x1 ∧ x1 < 48) (if 1000000 ≤ (q6.1 222 x1) then (some (q6, (-2))) else (qguard (0 ≤ x1 ∧ x1 < 48) (if x3 ≤ (q6.1 222 x1) then (t_MO_step_L56 x1 x2 x3 FU q6 x1 0) else (some (q6, (-2)))))))) else (some (M1, (-1)))))))
set_option maxHeartbeats 4000000 in
set_option maxRecDepth 100000 in
theorem k_MO_step_L107 (l : Launch) {p : Program} {e : Env} {s : State} {m : MethodId} {below : List Frame} {meth : Method} {c : Code} {b n : Nat} {C : CT} (hlo : 231 ≤ n) (x1 : Int) (x2 : Int) (x3 : Int) (hx1 : InR x1) (hx2 : InR x2) (hx3 : InR x3) (F : Cx b p m c b_MO_step 7 s ([.ref (b + 191), vI x1, vI x2, vI x3] : List Value).toArray "WardFallsModel" C n 231) (hlk : meth.locks = false) (hr : meth.sig.returnType = some .int) {res : Mem × Int} (bk56 : Mem → Int → Int → Option (Mem × Int)) (hbk56 : ∀ (M : Mem) (v2_ : Int) (hv2_ : InR v2_) (v3_ : Int) (hv3_ : InR v3_) (H : Heap) (locs : List Loc) (ls : Array Slot), St b C n M s H locs → lv_has ls 7 [(0, .ref (b + 191)), (3, vI x3), (4, vI v2_), (5, vI v3_)] → bk56 M v2_ v3_ = some res → W p l e (headSpec (wsM y_MO_step b_MO_step 7 (some .int)) (rmD 4)).room s m ([.ref (b + 191), vI x1, vI x2, vI x3] : List Value).toArray below meth c H locs 0 0 (MQ below (QI b C n res.1 res.2) ([.ref (b + 191), vI x1, vI x2, vI x3] : List Value).toArray s 0 0 (frb b)) (F0 m 56 ls [])) (bk65 : Mem → Int → Int → Int → Option (Mem × Int)) (hbk65 : ∀ (M : Mem) (v2_ : Int) (hv2_ : InR v2_) (v3_ : Int) (hv3_ : InR v3_) (v4_ : Int) (hv4_ : InR v4_) (H : Heap) (locs : List Loc) (ls : Array Slot), St b C n M s H locs → lv_has ls 7 [(0, .ref (b + 191)), (3, vI x3), (4, vI v2_), (5, vI v3_), (6, vI v4_)] → bk65 M v2_ v3_ v4_ = some res → W p l e (headSpec (wsM y_MO_step b_MO_step 7 (some .int)) (rmD 4)).room s m ([.ref (b + 191), vI x1, vI x2, vI x3] : List Value).toArray below meth c H locs 0 0 (MQ below (QI b C n res.1 res.2) ([.ref (b + 191), vI x1, vI x2, vI x3] : List Value).toArray s 0 0 (frb b)) (F0 m 65 ls [])) (M : Mem) (v2_ : Int) (hv2_ : InR v2_) (v3_ : Int) (hv3_ : InR v3_) (v4_ : Int) (hv4_ : InR v4_) (H : Heap) (locs : List Loc) (ls : Array Slot) (hS : St b C n M s H locs) (hl : lv_has ls 7 [(0, .ref (b + 191)), (3, vI x3), (4, vI v2_), (5, vI v3_), (6, vI v4_)]) (hT : t_MO_step_L107 x1 x2 x3 bk56 bk65 M v2_ v3_ v4_ = some res) : W p l e (headSpec (wsM y_MO_step b_MO_step 7 (some .int)) (rmD 4)).room s m ([.ref (b + 191), vI x1, vI x2, vI x3] : List Value).toArray below meth c H locs 0 0 (MQ below (QI b C n res.1 res.2) ([.ref (b + 191), vI x1, vI x2, vI x3] : List Value).toArray s 0 0 (frb b)) (F0 m 107 ls []) := by
  unfold t_MO_step_L107 at hT
  refine lv_iinc (v := Int32.ofInt (w32 (v4_ + 1))) (lv' := [(6, vI (w32 (v4_ + 1))), (0, .ref (b + 191)), (3, vI x3), (4, vI v2_), (5, vI v3_)]) F.hx F.hb d_MO_step_107 hl (k := 4) rfl (q_of_add _ _) (Nat.le_of_ble_eq_true rfl) rfl (fun ls hl => ?_)
  refine lv_goto (tgt := 65) F.hx F.hb d_MO_step_110 (by decide) ?_
  exact hbk65 M v2_ hv2_ v3_ hv3_ (w32 (v4_ + 1)) (inr_w32 _) _ _ _ hS (lv_sub hl [1, 2, 3, 4, 0] rfl) hT
set_option maxHeartbeats 4000000 in
set_option maxRecDepth 100000 in
theorem k_MO_step_L65 (l : Launch) {p : Program} {e : Env} {s : State} {m : MethodId} {below : List Frame} {meth : Method} {c : Code} {b n : Nat} {C : CT} (hlo : 231 ≤ n) (x1 : Int) (x2 : Int) (x3 : Int) (hx1 : InR x1) (hx2 : InR x2) (hx3 : InR x3) (F : Cx b p m c b_MO_step 7 s ([.ref (b + 191), vI x1, vI x2, vI x3] : List Value).toArray "WardFallsModel" C n 231) (hlk : meth.locks = false) (hr : meth.sig.returnType = some .int) {res : Mem × Int} (bk56 : Mem → Int → Int → Option (Mem × Int)) (hbk56 : ∀ (M : Mem) (v2_ : Int) (hv2_ : InR v2_) (v3_ : Int) (hv3_ : InR v3_) (H : Heap) (locs : List Loc) (ls : Array Slot), St b C n M s H locs → lv_has ls 7 [(0, .ref (b + 191)), (3, vI x3), (4, vI v2_), (5, vI v3_)] → bk56 M v2_ v3_ = some res → W p l e (headSpec (wsM y_MO_step b_MO_step 7 (some .int)) (rmD 4)).room s m ([.ref (b + 191), vI x1, vI x2, vI x3] : List Value).toArray below meth c H locs 0 0 (MQ below (QI b C n res.1 res.2) ([.ref (b + 191), vI x1, vI x2, vI x3] : List Value).toArray s 0 0 (frb b)) (F0 m 56 ls [])) : ∀ (fu : Nat) (M : Mem) (v2_ : Int) (hv2_ : InR v2_) (v3_ : Int) (hv3_ : InR v3_) (v4_ : Int) (hv4_ : InR v4_) (H : Heap) (locs : List Loc) (ls : Array Slot), St b C n M s H locs → lv_has ls 7 [(0, .ref (b + 191)), (3, vI x3), (4, vI v2_), (5, vI v3_), (6, vI v4_)] → t_MO_step_L65 x1 x2 x3 bk56 fu M v2_ v3_ v4_ = some res → W p l e (headSpec (wsM y_MO_step b_MO_step 7 (some .int)) (rmD 4)).room s m ([.ref (b + 191), vI x1, vI x2, vI x3] : List Value).toArray below meth c H locs 0 0 (MQ below (QI b C n res.1 res.2) ([.ref (b + 191), vI x1, vI x2, vI x3] : List Value).toArray s 0 0 (frb b)) (F0 m 65 ls []) := by
  intro fu
  induction fu with
  | zero => intro M v2_ hv2_ v3_ hv3_ v4_ hv4_ H locs ls hS hl hT; exact absurd hT (by simp [t_MO_step_L65])
  | succ fu ih =>
    intro M v2_ hv2_ v3_ hv3_ v4_ hv4_ H locs ls hS hl hT
    rw [t_MO_step_L65] at hT
    refine lv_aload_n F.hx F.hb d_MO_step_65 rfl (lv_at hl 0 rfl) ?_
    refine lv_iload F.hx F.hb d_MO_step_66 (lv_at hl 2 rfl) ?_
    refine lv_aload_n F.hx F.hb d_MO_step_68 rfl (lv_at hl 0 rfl) ?_
    refine lv_iload F.hx F.hb d_MO_step_69 (lv_at hl 2 rfl) ?_
    refine lv_iload F.hx F.hb d_MO_step_71 (lv_at hl 4 rfl) ?_
    obtain ⟨q15, hq15, hT⟩ := q_obind hT
    refine r_backI F hS (r_runV (k := 191) (N := 68) (T := T1) (As := [vI v2_, vI v4_]) F hS (show 191 < 231 by decide) (show shK 191 = 5 from rfl) rfl (c_MO_beside l F.2.2.1 M v2_ v4_ hv2_ hv4_ _ hq15) gs_MO_338 hd_MO_beside ⟨Nat.le_of_ble_eq_true rfl, Nat.le_of_ble_eq_true rfl⟩ rfl hl.1 (Nat.le_of_ble_eq_true rfl) ⟨Nat.zero_le _, Nat.zero_le _⟩ rfl d_MO_step_73) (fun H locs hS h16 => ?_)
    obtain ⟨q17, hq17, hT⟩ := q_obind hT
    refine r_backZ F hS (r_runV (k := 191) (N := 68) (T := T1) (As := [vI v2_, vI q15]) F hS (show 191 < 231 by decide) (show shK 191 = 5 from rfl) rfl (c_MO_canStep l F.2.2.1 M v2_ q15 hv2_ h16 _ hq17) gs_MO_459 hd_MO_canStep ⟨Nat.le_of_ble_eq_true rfl, Nat.le_of_ble_eq_true rfl⟩ rfl hl.1 (Nat.le_of_ble_eq_true rfl) ⟨Nat.zero_le _, Nat.zero_le _⟩ rfl d_MO_step_76) (fun H locs hS h18 => ?_)
    refine r_if_eq (tgt := 107) F.hx F.hb (inr_z h18) d_MO_step_79 (by decide) (fun c19 => ?_) (fun c19 => ?_)
    · replace hT := (if_pos c19).symm.trans hT
      exact k_MO_step_L107 l hlo x1 x2 x3 hx1 hx2 hx3 F hlk hr bk56 hbk56 (fun a0_ a1_ a2_ a3_ => t_MO_step_L65 x1 x2 x3 bk56 fu a0_ a1_ a2_ a3_) ih M v2_ hv2_ v3_ hv3_ v4_ hv4_ _ _ _ hS (lv_sub hl [0, 1, 2, 3, 4] rfl) hT
    · replace hT := (if_neg c19).symm.trans hT
      refine lv_aload_n F.hx F.hb d_MO_step_82 rfl (lv_at hl 0 rfl) ?_
      refine r_get (v := .ref (b + 222)) (N := 68) (T := T1) (j := 55) F hS (show 191 < 231 by decide) (show shK 191 = 5 from rfl) (show shN 191 = 68 from rfl) rfl (Nat.le_of_ble_eq_true rfl) ing1 mw_1444 (fv_sg rfl rfl rfl) d_MO_step_83 ?_
      refine lv_aload_n F.hx F.hb d_MO_step_86 rfl (lv_at hl 0 rfl) ?_
      refine lv_iload F.hx F.hb d_MO_step_87 (lv_at hl 2 rfl) ?_
      refine lv_iload F.hx F.hb d_MO_step_89 (lv_at hl 4 rfl) ?_
      obtain ⟨q20, hq20, hT⟩ := q_obind hT
      refine r_backI F hS (r_runV (k := 191) (N := 68) (T := T1) (As := [vI v2_, vI v4_]) F hS (show 191 < 231 by decide) (show shK 191 = 5 from rfl) rfl (c_MO_beside l F.2.2.1 M v2_ v4_ hv2_ hv4_ _ hq20) gs_MO_338 hd_MO_beside ⟨Nat.le_of_ble_eq_true rfl, Nat.le_of_ble_eq_true rfl⟩ rfl hl.1 (Nat.le_of_ble_eq_true rfl) ⟨Nat.zero_le _, Nat.zero_le _⟩ rfl d_MO_step_91) (fun H locs hS h21 => ?_)
      obtain ⟨⟨g22a, g22b⟩, hT⟩ := q_guard hT
      refine r_iald F hS (show 222 < 231 by decide) (show shK 222 = 0 from rfl) (show shN 222 = 48 from rfl) h21 g22a g22b d_MO_step_94 ?_
      have i23 := hS.rng 222 q20
      refine lv_aload_n F.hx F.hb d_MO_step_95 rfl (lv_at hl 0 rfl) ?_
      refine r_get (v := .ref (b + 222)) (N := 68) (T := T1) (j := 55) F hS (show 191 < 231 by decide) (show shK 191 = 5 from rfl) (show shN 191 = 68 from rfl) rfl (Nat.le_of_ble_eq_true rfl) ing1 mw_1444 (fv_sg rfl rfl rfl) d_MO_step_96 ?_
      refine lv_iload F.hx F.hb d_MO_step_99 (lv_at hl 2 rfl) ?_
      obtain ⟨⟨g24a, g24b⟩, hT⟩ := q_guard hT
      refine r_iald F hS (show 222 < 231 by decide) (show shK 222 = 0 from rfl) (show shN 222 = 48 from rfl) hv2_ g24a g24b d_MO_step_101 ?_
      have i25 := hS.rng 222 v2_
      refine r_iconst F.hx F.hb d_MO_step_102 ?_
      refine r_isub F.hx F.hb d_MO_step_103 ?_
      refine r_icmp_eq (tgt := 113) F.hx F.hb i23 (inr_w32 _) d_MO_step_104 (by decide) (fun c26 => ?_) (fun c26 => ?_)
      · replace hT := (if_pos c26).symm.trans hT
        refine lv_aload_n F.hx F.hb d_MO_step_113 rfl (lv_at hl 0 rfl) ?_
        refine lv_iload F.hx F.hb d_MO_step_114 (lv_at hl 2 rfl) ?_
        refine lv_iload F.hx F.hb d_MO_step_116 (lv_at hl 4 rfl) ?_
        obtain ⟨q27, hq27, hT⟩ := q_obind hT
        refine r_backI F hS (r_runV (k := 191) (N := 68) (T := T1) (As := [vI v2_, vI v4_]) F hS (show 191 < 231 by decide) (show shK 191 = 5 from rfl) rfl (c_MO_beside l F.2.2.1 M v2_ v4_ hv2_ hv4_ _ hq27) gs_MO_338 hd_MO_beside ⟨Nat.le_of_ble_eq_true rfl, Nat.le_of_ble_eq_true rfl⟩ rfl hl.1 (Nat.le_of_ble_eq_true rfl) ⟨Nat.zero_le _, Nat.zero_le _⟩ rfl d_MO_step_118) (fun H locs hS h28 => ?_)
        refine lv_istore (lv' := [(4, vI q27), (0, .ref (b + 191)), (3, vI x3), (5, vI v3_), (6, vI v4_)]) F.hx F.hb d_MO_step_121 hl (Nat.le_of_ble_eq_true rfl) rfl (fun ls hl => ?_)
        refine lv_iinc (v := Int32.ofInt (w32 (v3_ + 1))) (lv' := [(5, vI (w32 (v3_ + 1))), (4, vI q27), (0, .ref (b + 191)), (3, vI x3), (6, vI v4_)]) F.hx F.hb d_MO_step_123 hl (k := 3) rfl (q_of_add _ _) (Nat.le_of_ble_eq_true rfl) rfl (fun ls hl => ?_)
        refine lv_goto (tgt := 56) F.hx F.hb d_MO_step_126 (by decide) ?_
        exact hbk56 M q27 h28 (w32 (v3_ + 1)) (inr_w32 _) _ _ _ hS (lv_sub hl [2, 3, 1, 0] rfl) hT
      · replace hT := (if_neg c26).symm.trans hT
        exact k_MO_step_L107 l hlo x1 x2 x3 hx1 hx2 hx3 F hlk hr bk56 hbk56 (fun a0_ a1_ a2_ a3_ => t_MO_step_L65 x1 x2 x3 bk56 fu a0_ a1_ a2_ a3_) ih M v2_ hv2_ v3_ hv3_ v4_ hv4_ _ _ _ hS (lv_sub hl [0, 1, 2, 3, 4] rfl) hT
set_option maxHeartbeats 4000000 in
set_option maxRecDepth 100000 in
theorem k_MO_step_L56 (l : Launch) {p : Program} {e : Env} {s : State} {m : MethodId} {below : List Frame} {meth : Method} {c : Code} {b n : Nat} {C : CT} (hlo : 231 ≤ n) (x1 : Int) (x2 : Int) (x3 : Int) (hx1 : InR x1) (hx2 : InR x2) (hx3 : InR x3) (F : Cx b p m c b_MO_step 7 s ([.ref (b + 191), vI x1, vI x2, vI x3] : List Value).toArray "WardFallsModel" C n 231) (hlk : meth.locks = false) (hr : meth.sig.returnType = some .int) {res : Mem × Int} : ∀ (fu : Nat) (M : Mem) (v2_ : Int) (hv2_ : InR v2_) (v3_ : Int) (hv3_ : InR v3_) (H : Heap) (locs : List Loc) (ls : Array Slot), St b C n M s H locs → lv_has ls 7 [(0, .ref (b + 191)), (3, vI x3), (4, vI v2_), (5, vI v3_)] → t_MO_step_L56 x1 x2 x3 fu M v2_ v3_ = some res → W p l e (headSpec (wsM y_MO_step b_MO_step 7 (some .int)) (rmD 4)).room s m ([.ref (b + 191), vI x1, vI x2, vI x3] : List Value).toArray below meth c H locs 0 0 (MQ below (QI b C n res.1 res.2) ([.ref (b + 191), vI x1, vI x2, vI x3] : List Value).toArray s 0 0 (frb b)) (F0 m 56 ls []) := by
  intro fu
  induction fu with
  | zero => intro M v2_ hv2_ v3_ hv3_ H locs ls hS hl hT; exact absurd hT (by simp [t_MO_step_L56])
  | succ fu ih =>
    intro M v2_ hv2_ v3_ hv3_ H locs ls hS hl hT
    rw [t_MO_step_L56] at hT
    refine lv_iload F.hx F.hb d_MO_step_56 (lv_at hl 3 rfl) ?_
    refine lv_iload_n F.hx F.hb d_MO_step_58 rfl (lv_at hl 1 rfl) ?_
    refine r_icmp_ge (tgt := 129) F.hx F.hb hv3_ hx3 d_MO_step_59 (by decide) (fun c14 => ?_) (fun c14 => ?_)
    · replace hT := (if_pos c14).symm.trans hT
      refine lv_iload F.hx F.hb d_MO_step_129 (lv_at hl 2 rfl) ?_
      cases hT
      exact r_iret F hlk hr rfl hS hv2_ d_MO_step_131
    · replace hT := (if_neg c14).symm.trans hT
      refine r_iconst F.hx F.hb d_MO_step_62 ?_
      refine lv_istore (lv' := [(6, vI 0), (0, .ref (b + 191)), (3, vI x3), (4, vI v2_), (5, vI v3_)]) F.hx F.hb d_MO_step_63 hl (Nat.le_of_ble_eq_true rfl) rfl (fun ls hl => ?_)
      exact k_MO_step_L65 l hlo x1 x2 x3 hx1 hx2 hx3 F hlk hr (fun a0_ a1_ a2_ => t_MO_step_L56 x1 x2 x3 fu a0_ a1_ a2_) ih FU M v2_ hv2_ v3_ hv3_ 0 (inr_c rfl) _ _ _ hS (lv_sub hl [1, 2, 3, 4, 0] rfl) hT
set_option maxHeartbeats 4000000 in
set_option maxRecDepth 100000 in
theorem c_MO_step (l : Launch) {b n : Nat} {C : CT} (hlo : 231 ≤ n) (M : Mem) (x1 : Int) (x2 : Int) (x3 : Int) (hx1 : InR x1) (hx2 : InR x2) (hx3 : InR x3) (res : Mem × Int) (hT : t_MO_step M x1 x2 x3 = some res) : CM l b C n 4 y_MO_step b_MO_step 7 (some .int) [.ref (b + 191), vI x1, vI x2, vI x3] M (QI b C n res.1 res.2) := by
  refine CM.of (lo := 231) (ow := "WardFallsModel") (by decide) rfl (Nat.le_of_ble_eq_true rfl) hlo (fun p e s m below meth c F hlk hr hS ls hl => ?_)
  have hl : lv_has ls 7 [(0, .ref (b + 191)), (1, vI x1), (2, vI x2), (3, vI x3)] := hl
  unfold t_MO_step at hT
  refine lv_aload_n F.hx F.hb d_MO_step_0 rfl (lv_at hl 0 rfl) ?_
  refine r_iconst F.hx F.hb d_MO_step_1 ?_
  refine r_putI (N := 68) (T := T1) (j := 0) F hS (show 191 < 231 by decide) (show shK 191 = 5 from rfl) (show shN 191 = 68 from rfl) rfl (Nat.le_of_ble_eq_true rfl) ing1 tyok1 nm1 rfl rfl rfl rfl rfl rfl mw_1389 (inr_c rfl) d_MO_step_2 (fun H locs hS => ?_)
  obtain ⟨M1, eM1⟩ : ∃ q, q = (setI M 191 0 0) := ⟨_, rfl⟩
  replace hS : St b C n M1 s H locs := by rw [eM1]; exact hS
  replace hT := qlet_eq hT eM1
  refine lv_aload_n F.hx F.hb d_MO_step_5 rfl (lv_at hl 0 rfl) ?_
  refine lv_iload_n F.hx F.hb d_MO_step_6 rfl (lv_at hl 1 rfl) ?_
  refine lv_iload_n F.hx F.hb d_MO_step_7 rfl (lv_at hl 2 rfl) ?_
  obtain ⟨q2, hq2, hT⟩ := q_obind hT
  refine r_backZ F hS (r_runV (k := 191) (N := 68) (T := T1) (As := [vI x1, vI x2]) F hS (show 191 < 231 by decide) (show shK 191 = 5 from rfl) rfl (c_MO_isWalk l F.2.2.1 M1 x1 x2 hx1 hx2 _ hq2) gs_MO_462 hd_MO_isWalk ⟨Nat.le_of_ble_eq_true rfl, Nat.le_of_ble_eq_true rfl⟩ rfl hl.1 (Nat.le_of_ble_eq_true rfl) ⟨Nat.zero_le _, Nat.zero_le _⟩ rfl d_MO_step_8) (fun H locs hS h3 => ?_)
  refine r_if_eq (tgt := 18) F.hx F.hb (inr_z h3) d_MO_step_11 (by decide) (fun c4 => ?_) (fun c4 => ?_)
  · replace hT := (if_pos c4).symm.trans hT
    refine r_iconst F.hx F.hb d_MO_step_18 ?_
    cases hT
    exact r_iret F hlk hr rfl hS (inr_c rfl) d_MO_step_19
  · replace hT := (if_neg c4).symm.trans hT
    refine lv_iload_n F.hx F.hb d_MO_step_14 rfl (lv_at hl 3 rfl) ?_
    refine r_if_ge (tgt := 20) F.hx F.hb hx3 d_MO_step_15 (by decide) (fun c5 => ?_) (fun c5 => ?_)
    · replace hT := (if_pos c5).symm.trans hT
      refine lv_aload_n F.hx F.hb d_MO_step_20 rfl (lv_at hl 0 rfl) ?_
      refine lv_iload_n F.hx F.hb d_MO_step_21 rfl (lv_at hl 2 rfl) ?_
      obtain ⟨q6, hq6, hT⟩ := q_obind hT
      refine r_backV F hS (r_runV (k := 191) (N := 68) (T := T1) (As := [vI x2]) F hS (show 191 < 231 by decide) (show shK 191 = 5 from rfl) rfl (c_MO_layWalk l F.2.2.1 M1 x2 hx2 _ hq6) gs_MO_465 hd_MO_layWalk ⟨Nat.le_of_ble_eq_true rfl, Nat.le_of_ble_eq_true rfl⟩ rfl hl.1 (Nat.le_of_ble_eq_true rfl) ⟨Nat.zero_le _, Nat.zero_le _⟩ rfl d_MO_step_22) (fun H locs hS => ?_)
      refine lv_aload_n F.hx F.hb d_MO_step_25 rfl (lv_at hl 0 rfl) ?_
      refine r_get (v := .ref (b + 222)) (N := 68) (T := T1) (j := 55) F hS (show 191 < 231 by decide) (show shK 191 = 5 from rfl) (show shN 191 = 68 from rfl) rfl (Nat.le_of_ble_eq_true rfl) ing1 mw_1444 (fv_sg rfl rfl rfl) d_MO_step_26 ?_
      refine lv_iload_n F.hx F.hb d_MO_step_29 rfl (lv_at hl 1 rfl) ?_
      obtain ⟨⟨g8a, g8b⟩, hT⟩ := q_guard hT
      refine r_iald F hS (show 222 < 231 by decide) (show shK 222 = 0 from rfl) (show shN 222 = 48 from rfl) hx1 g8a g8b d_MO_step_30 ?_
      have i9 := hS.rng 222 x1
      refine lv_ldcw (v := Int32.ofInt 1000000) F.hx F.hb F.hown (F.hts mw_1943) d_MO_step_31 ?_
      refine r_icmp_ge (tgt := 47) F.hx F.hb i9 (inr_c rfl) d_MO_step_34 (by decide) (fun c10 => ?_) (fun c10 => ?_)
      · replace hT := (if_pos c10).symm.trans hT
        refine r_bipush F.hx F.hb d_MO_step_47 rfl ?_
        cases hT
        exact r_iret F hlk hr rfl hS (inr_c rfl) d_MO_step_49
      · replace hT := (if_neg c10).symm.trans hT
        refine lv_iload_n F.hx F.hb d_MO_step_37 rfl (lv_at hl 3 rfl) ?_
        refine lv_aload_n F.hx F.hb d_MO_step_38 rfl (lv_at hl 0 rfl) ?_
        refine r_get (v := .ref (b + 222)) (N := 68) (T := T1) (j := 55) F hS (show 191 < 231 by decide) (show shK 191 = 5 from rfl) (show shN 191 = 68 from rfl) rfl (Nat.le_of_ble_eq_true rfl) ing1 mw_1444 (fv_sg rfl rfl rfl) d_MO_step_39 ?_
        refine lv_iload_n F.hx F.hb d_MO_step_42 rfl (lv_at hl 1 rfl) ?_
        obtain ⟨⟨g11a, g11b⟩, hT⟩ := q_guard hT
        refine r_iald F hS (show 222 < 231 by decide) (show shK 222 = 0 from rfl) (show shN 222 = 48 from rfl) hx1 g11a g11b d_MO_step_43 ?_
        have i12 := hS.rng 222 x1
        refine r_icmp_le (tgt := 50) F.hx F.hb hx3 i12 d_MO_step_44 (by decide) (fun c13 => ?_) (fun c13 => ?_)
        · replace hT := (if_pos c13).symm.trans hT
          refine lv_iload_n F.hx F.hb d_MO_step_50 rfl (lv_at hl 1 rfl) ?_
          refine lv_istore (lv' := [(4, vI x1), (0, .ref (b + 191)), (1, vI x1), (2, vI x2), (3, vI x3)]) F.hx F.hb d_MO_step_51 hl (Nat.le_of_ble_eq_true rfl) rfl (fun ls hl => ?_)
          refine r_iconst F.hx F.hb d_MO_step_53 ?_
          refine lv_istore (lv' := [(5, vI 0), (4, vI x1), (0, .ref (b + 191)), (1, vI x1), (2, vI x2), (3, vI x3)]) F.hx F.hb d_MO_step_54 hl (Nat.le_of_ble_eq_true rfl) rfl (fun ls hl => ?_)
          exact k_MO_step_L56 l hlo x1 x2 x3 hx1 hx2 hx3 F hlk hr FU q6 x1 hx1 0 (inr_c rfl) _ _ _ hS (lv_sub hl [2, 5, 1, 0] rfl) hT
        · replace hT := (if_neg c13).symm.trans hT
          refine r_bipush F.hx F.hb d_MO_step_47 rfl ?_
          cases hT
          exact r_iret F hlk hr rfl hS (inr_c rfl) d_MO_step_49
    · replace hT := (if_neg c5).symm.trans hT
      refine r_iconst F.hx F.hb d_MO_step_18 ?_
      cases hT
      exact r_iret F hlk hr rfl hS (inr_c rfl) d_MO_step_19
theorem d_MO_pushOf_0 : decode b_MO_pushOf 0 = .ok (.aload_n 0, 1) := dc_42 (by decide +kernel)
theorem d_MO_pushOf_1 : decode b_MO_pushOf 1 = .ok (.iconst 0, 1) := dc_3 (by decide +kernel)
theorem d_MO_pushOf_2 : decode b_MO_pushOf 2 = .ok (.iload_n 1, 1) := dc_27 (by decide +kernel)
theorem d_MO_pushOf_3 : decode b_MO_pushOf 3 = .ok (.invokevirtual 350, 3) := dc_182 (by decide +kernel)
theorem d_MO_pushOf_6 : decode b_MO_pushOf 6 = .ok (.aload_n 0, 1) := dc_42 (by decide +kernel)
theorem d_MO_pushOf_7 : decode b_MO_pushOf 7 = .ok (.iload_n 1, 1) := dc_27 (by decide +kernel)
theorem d_MO_pushOf_8 : decode b_MO_pushOf 8 = .ok (.iload_n 2, 1) := dc_28 (by decide +kernel)
theorem d_MO_pushOf_9 : decode b_MO_pushOf 9 = .ok (.invokevirtual 338, 3) := dc_182 (by decide +kernel)
theorem d_MO_pushOf_12 : decode b_MO_pushOf 12 = .ok (.if_icmp .ne 5, 3) := dc_160 (by decide +kernel)
theorem d_MO_pushOf_15 : decode b_MO_pushOf 15 = .ok (.iconst 0, 1) := dc_3 (by decide +kernel)
theorem d_MO_pushOf_16 : decode b_MO_pushOf 16 = .ok (.ireturn, 1) := dc_172 (by decide +kernel)
theorem d_MO_pushOf_17 : decode b_MO_pushOf 17 = .ok (.aload_n 0, 1) := dc_42 (by decide +kernel)
theorem d_MO_pushOf_18 : decode b_MO_pushOf 18 = .ok (.iload_n 1, 1) := dc_27 (by decide +kernel)
theorem d_MO_pushOf_19 : decode b_MO_pushOf 19 = .ok (.iload_n 2, 1) := dc_28 (by decide +kernel)
theorem d_MO_pushOf_20 : decode b_MO_pushOf 20 = .ok (.invokevirtual 431, 3) := dc_182 (by decide +kernel)
theorem d_MO_pushOf_23 : decode b_MO_pushOf 23 = .ok (.aload_n 0, 1) := dc_42 (by decide +kernel)
theorem d_MO_pushOf_24 : decode b_MO_pushOf 24 = .ok (.iconst 0, 1) := dc_3 (by decide +kernel)
theorem d_MO_pushOf_25 : decode b_MO_pushOf 25 = .ok (.sipush 999, 3) := dc_17 (by decide +kernel)
theorem d_MO_pushOf_28 : decode b_MO_pushOf 28 = .ok (.iconst 1, 1) := dc_4 (by decide +kernel)
theorem d_MO_pushOf_29 : decode b_MO_pushOf 29 = .ok (.invokevirtual 420, 3) := dc_182 (by decide +kernel)
theorem d_MO_pushOf_32 : decode b_MO_pushOf 32 = .ok (.ireturn, 1) := dc_172 (by decide +kernel)
def t_MO_pushOf (M : Mem) (x1 : Int) (x2 : Int) : Option (Mem × Int) := (obind (t_MO_nextOf M 0 x1) fun q1 => (obind (t_MO_beside M x1 x2) fun q3 => (if q1 = q3 then (some (M, 0)) else (obind (t_MO_callsPush M x1 x2) fun q6 => (obind (t_MO_within q6 0 999 1) fun q8 => (some ((q8.1), (q8.2))))))))
set_option maxHeartbeats 4000000 in
set_option maxRecDepth 100000 in
theorem c_MO_pushOf (l : Launch) {b n : Nat} {C : CT} (hlo : 231 ≤ n) (M : Mem) (x1 : Int) (x2 : Int) (hx1 : InR x1) (hx2 : InR x2) (res : Mem × Int) (hT : t_MO_pushOf M x1 x2 = some res) : CM l b C n 4 y_MO_pushOf b_MO_pushOf 3 (some .int) [.ref (b + 191), vI x1, vI x2] M (QI b C n res.1 res.2) := by
  refine CM.of (lo := 231) (ow := "WardFallsModel") (by decide) rfl (Nat.le_of_ble_eq_true rfl) hlo (fun p e s m below meth c F hlk hr hS ls hl => ?_)
  have hl : lv_has ls 3 [(0, .ref (b + 191)), (1, vI x1), (2, vI x2)] := hl
  unfold t_MO_pushOf at hT
  refine lv_aload_n F.hx F.hb d_MO_pushOf_0 rfl (lv_at hl 0 rfl) ?_
  refine r_iconst F.hx F.hb d_MO_pushOf_1 ?_
  refine lv_iload_n F.hx F.hb d_MO_pushOf_2 rfl (lv_at hl 1 rfl) ?_
  obtain ⟨q1, hq1, hT⟩ := q_obind hT
  refine r_backI F hS (r_runV (k := 191) (N := 68) (T := T1) (As := [vI 0, vI x1]) F hS (show 191 < 231 by decide) (show shK 191 = 5 from rfl) rfl (c_MO_nextOf l F.2.2.1 M 0 x1 (inr_c rfl) hx1 _ hq1) gs_MO_350 hd_MO_nextOf ⟨Nat.le_of_ble_eq_true rfl, Nat.le_of_ble_eq_true rfl⟩ rfl hl.1 (Nat.le_of_ble_eq_true rfl) ⟨Nat.zero_le _, Nat.zero_le _⟩ rfl d_MO_pushOf_3) (fun H locs hS h2 => ?_)
  refine lv_aload_n F.hx F.hb d_MO_pushOf_6 rfl (lv_at hl 0 rfl) ?_
  refine lv_iload_n F.hx F.hb d_MO_pushOf_7 rfl (lv_at hl 1 rfl) ?_
  refine lv_iload_n F.hx F.hb d_MO_pushOf_8 rfl (lv_at hl 2 rfl) ?_
  obtain ⟨q3, hq3, hT⟩ := q_obind hT
  refine r_backI F hS (r_runV (k := 191) (N := 68) (T := T1) (As := [vI x1, vI x2]) F hS (show 191 < 231 by decide) (show shK 191 = 5 from rfl) rfl (c_MO_beside l F.2.2.1 M x1 x2 hx1 hx2 _ hq3) gs_MO_338 hd_MO_beside ⟨Nat.le_of_ble_eq_true rfl, Nat.le_of_ble_eq_true rfl⟩ rfl hl.1 (Nat.le_of_ble_eq_true rfl) ⟨Nat.zero_le _, Nat.zero_le _⟩ rfl d_MO_pushOf_9) (fun H locs hS h4 => ?_)
  refine r_icmp_ne (tgt := 17) F.hx F.hb h2 h4 d_MO_pushOf_12 (by decide) (fun c5 => ?_) (fun c5 => ?_)
  · replace hT := (if_neg c5).symm.trans hT
    refine lv_aload_n F.hx F.hb d_MO_pushOf_17 rfl (lv_at hl 0 rfl) ?_
    refine lv_iload_n F.hx F.hb d_MO_pushOf_18 rfl (lv_at hl 1 rfl) ?_
    refine lv_iload_n F.hx F.hb d_MO_pushOf_19 rfl (lv_at hl 2 rfl) ?_
    obtain ⟨q6, hq6, hT⟩ := q_obind hT
    refine r_backV F hS (r_runV (k := 191) (N := 68) (T := T1) (As := [vI x1, vI x2]) F hS (show 191 < 231 by decide) (show shK 191 = 5 from rfl) rfl (c_MO_callsPush l F.2.2.1 M x1 x2 hx1 hx2 _ hq6) gs_MO_431 hd_MO_callsPush ⟨Nat.le_of_ble_eq_true rfl, Nat.le_of_ble_eq_true rfl⟩ rfl hl.1 (Nat.le_of_ble_eq_true rfl) ⟨Nat.zero_le _, Nat.zero_le _⟩ rfl d_MO_pushOf_20) (fun H locs hS => ?_)
    refine lv_aload_n F.hx F.hb d_MO_pushOf_23 rfl (lv_at hl 0 rfl) ?_
    refine r_iconst F.hx F.hb d_MO_pushOf_24 ?_
    refine r_sipush F.hx F.hb d_MO_pushOf_25 rfl ?_
    refine r_iconst F.hx F.hb d_MO_pushOf_28 ?_
    obtain ⟨q8, hq8, hT⟩ := q_obind hT
    refine r_backI F hS (r_runV (k := 191) (N := 68) (T := T1) (As := [vI 0, vI 999, vI 1]) F hS (show 191 < 231 by decide) (show shK 191 = 5 from rfl) rfl (c_MO_within l F.2.2.1 q6 0 999 1 (inr_c rfl) (inr_c rfl) (inr_c rfl) _ hq8) gs_MO_420 hd_MO_within ⟨Nat.le_of_ble_eq_true rfl, Nat.le_of_ble_eq_true rfl⟩ rfl hl.1 (Nat.le_of_ble_eq_true rfl) ⟨Nat.zero_le _, Nat.zero_le _⟩ rfl d_MO_pushOf_29) (fun H locs hS h9 => ?_)
    cases hT
    exact r_iret F hlk hr rfl hS h9 d_MO_pushOf_32
  · replace hT := (if_pos c5).symm.trans hT
    refine r_iconst F.hx F.hb d_MO_pushOf_15 ?_
    cases hT
    exact r_iret F hlk hr rfl hS (inr_c rfl) d_MO_pushOf_16
theorem wn_MO_layPush_0 : ∀ i, i < 95 → bA b_MO_layPush (0 + i) = wB [3, 61, 28, 16, 48, 162, 0, 45, 42, 180, 0, 115, 28, 28, 27, 160, 0, 7, 3, 167, 0, 6, 19, 1, 202, 79, 42, 180, 0, 112, 28, 28, 27, 160, 0, 7, 3, 167, 0, 6, 19, 1, 202, 79, 132, 2, 1, 167, 255, 211, 4, 61, 28, 153, 0, 174, 3, 61, 3, 62, 29, 42, 182, 1, 73, 162, 0, 159, 3, 54, 4, 21, 4, 7, 162, 0, 144, 42, 180, 0, 28, 29, 51, 154, 0, 135, 42, 29, 21, 4, 182, 1, 82, 54, 5] i := wB_of (by decide +kernel)
theorem d_MO_layPush_0 : decode b_MO_layPush 0 = .ok (.iconst 0, 1) := dc_3 (q0_win (r := 0) wn_MO_layPush_0 (by decide +kernel))
theorem d_MO_layPush_1 : decode b_MO_layPush 1 = .ok (.istore_n 2, 1) := dc_61 (q0_win (r := 1) wn_MO_layPush_0 (by decide +kernel))
theorem d_MO_layPush_2 : decode b_MO_layPush 2 = .ok (.iload_n 2, 1) := dc_28 (q0_win (r := 2) wn_MO_layPush_0 (by decide +kernel))
theorem d_MO_layPush_3 : decode b_MO_layPush 3 = .ok (.bipush 48, 2) := dc_16 (qS1_win (r := 3) wn_MO_layPush_0 (by decide +kernel))
theorem d_MO_layPush_5 : decode b_MO_layPush 5 = .ok (.if_icmp .ge 45, 3) := dc_162 (qS2_win (r := 5) wn_MO_layPush_0 (by decide +kernel))
theorem d_MO_layPush_8 : decode b_MO_layPush 8 = .ok (.aload_n 0, 1) := dc_42 (q0_win (r := 8) wn_MO_layPush_0 (by decide +kernel))
theorem d_MO_layPush_9 : decode b_MO_layPush 9 = .ok (.getfield 115, 3) := dc_180 (qU2_win (r := 9) wn_MO_layPush_0 (by decide +kernel))
theorem d_MO_layPush_12 : decode b_MO_layPush 12 = .ok (.iload_n 2, 1) := dc_28 (q0_win (r := 12) wn_MO_layPush_0 (by decide +kernel))
theorem d_MO_layPush_13 : decode b_MO_layPush 13 = .ok (.iload_n 2, 1) := dc_28 (q0_win (r := 13) wn_MO_layPush_0 (by decide +kernel))
theorem d_MO_layPush_14 : decode b_MO_layPush 14 = .ok (.iload_n 1, 1) := dc_27 (q0_win (r := 14) wn_MO_layPush_0 (by decide +kernel))
theorem d_MO_layPush_15 : decode b_MO_layPush 15 = .ok (.if_icmp .ne 7, 3) := dc_160 (qS2_win (r := 15) wn_MO_layPush_0 (by decide +kernel))
theorem d_MO_layPush_18 : decode b_MO_layPush 18 = .ok (.iconst 0, 1) := dc_3 (q0_win (r := 18) wn_MO_layPush_0 (by decide +kernel))
theorem d_MO_layPush_19 : decode b_MO_layPush 19 = .ok (.goto 6, 3) := dc_167 (qS2_win (r := 19) wn_MO_layPush_0 (by decide +kernel))
theorem d_MO_layPush_22 : decode b_MO_layPush 22 = .ok (.ldc_w 458, 3) := dc_19 (qU2_win (r := 22) wn_MO_layPush_0 (by decide +kernel))
theorem d_MO_layPush_25 : decode b_MO_layPush 25 = .ok (.iastore, 1) := dc_79 (q0_win (r := 25) wn_MO_layPush_0 (by decide +kernel))
theorem d_MO_layPush_26 : decode b_MO_layPush 26 = .ok (.aload_n 0, 1) := dc_42 (q0_win (r := 26) wn_MO_layPush_0 (by decide +kernel))
theorem d_MO_layPush_27 : decode b_MO_layPush 27 = .ok (.getfield 112, 3) := dc_180 (qU2_win (r := 27) wn_MO_layPush_0 (by decide +kernel))
theorem d_MO_layPush_30 : decode b_MO_layPush 30 = .ok (.iload_n 2, 1) := dc_28 (q0_win (r := 30) wn_MO_layPush_0 (by decide +kernel))
theorem d_MO_layPush_31 : decode b_MO_layPush 31 = .ok (.iload_n 2, 1) := dc_28 (q0_win (r := 31) wn_MO_layPush_0 (by decide +kernel))
theorem d_MO_layPush_32 : decode b_MO_layPush 32 = .ok (.iload_n 1, 1) := dc_27 (q0_win (r := 32) wn_MO_layPush_0 (by decide +kernel))
theorem d_MO_layPush_33 : decode b_MO_layPush 33 = .ok (.if_icmp .ne 7, 3) := dc_160 (qS2_win (r := 33) wn_MO_layPush_0 (by decide +kernel))
theorem d_MO_layPush_36 : decode b_MO_layPush 36 = .ok (.iconst 0, 1) := dc_3 (q0_win (r := 36) wn_MO_layPush_0 (by decide +kernel))
theorem d_MO_layPush_37 : decode b_MO_layPush 37 = .ok (.goto 6, 3) := dc_167 (qS2_win (r := 37) wn_MO_layPush_0 (by decide +kernel))
theorem d_MO_layPush_40 : decode b_MO_layPush 40 = .ok (.ldc_w 458, 3) := dc_19 (qU2_win (r := 40) wn_MO_layPush_0 (by decide +kernel))
theorem d_MO_layPush_43 : decode b_MO_layPush 43 = .ok (.iastore, 1) := dc_79 (q0_win (r := 43) wn_MO_layPush_0 (by decide +kernel))
theorem d_MO_layPush_44 : decode b_MO_layPush 44 = .ok (.iinc 2 1, 3) := dc_132 (qI_win (r := 44) wn_MO_layPush_0 (by decide +kernel))
theorem d_MO_layPush_47 : decode b_MO_layPush 47 = .ok (.goto (-45), 3) := dc_167 (qS2_win (r := 47) wn_MO_layPush_0 (by decide +kernel))
theorem d_MO_layPush_50 : decode b_MO_layPush 50 = .ok (.iconst 1, 1) := dc_4 (q0_win (r := 50) wn_MO_layPush_0 (by decide +kernel))
theorem d_MO_layPush_51 : decode b_MO_layPush 51 = .ok (.istore_n 2, 1) := dc_61 (q0_win (r := 51) wn_MO_layPush_0 (by decide +kernel))
theorem d_MO_layPush_52 : decode b_MO_layPush 52 = .ok (.iload_n 2, 1) := dc_28 (q0_win (r := 52) wn_MO_layPush_0 (by decide +kernel))
theorem d_MO_layPush_53 : decode b_MO_layPush 53 = .ok (.ifCond .eq 174, 3) := dc_153 (qS2_win (r := 53) wn_MO_layPush_0 (by decide +kernel))
theorem d_MO_layPush_56 : decode b_MO_layPush 56 = .ok (.iconst 0, 1) := dc_3 (q0_win (r := 56) wn_MO_layPush_0 (by decide +kernel))
theorem d_MO_layPush_57 : decode b_MO_layPush 57 = .ok (.istore_n 2, 1) := dc_61 (q0_win (r := 57) wn_MO_layPush_0 (by decide +kernel))
theorem d_MO_layPush_58 : decode b_MO_layPush 58 = .ok (.iconst 0, 1) := dc_3 (q0_win (r := 58) wn_MO_layPush_0 (by decide +kernel))
theorem d_MO_layPush_59 : decode b_MO_layPush 59 = .ok (.istore_n 3, 1) := dc_62 (q0_win (r := 59) wn_MO_layPush_0 (by decide +kernel))
theorem d_MO_layPush_60 : decode b_MO_layPush 60 = .ok (.iload_n 3, 1) := dc_29 (q0_win (r := 60) wn_MO_layPush_0 (by decide +kernel))
theorem d_MO_layPush_61 : decode b_MO_layPush 61 = .ok (.aload_n 0, 1) := dc_42 (q0_win (r := 61) wn_MO_layPush_0 (by decide +kernel))
theorem d_MO_layPush_62 : decode b_MO_layPush 62 = .ok (.invokevirtual 329, 3) := dc_182 (qU2_win (r := 62) wn_MO_layPush_0 (by decide +kernel))
theorem d_MO_layPush_65 : decode b_MO_layPush 65 = .ok (.if_icmp .ge 159, 3) := dc_162 (qS2_win (r := 65) wn_MO_layPush_0 (by decide +kernel))
theorem d_MO_layPush_68 : decode b_MO_layPush 68 = .ok (.iconst 0, 1) := dc_3 (q0_win (r := 68) wn_MO_layPush_0 (by decide +kernel))
theorem d_MO_layPush_69 : decode b_MO_layPush 69 = .ok (.istore 4, 2) := dc_54 (qU1_win (r := 69) wn_MO_layPush_0 (by decide +kernel))
theorem d_MO_layPush_71 : decode b_MO_layPush 71 = .ok (.iload 4, 2) := dc_21 (qU1_win (r := 71) wn_MO_layPush_0 (by decide +kernel))
theorem d_MO_layPush_73 : decode b_MO_layPush 73 = .ok (.iconst 4, 1) := dc_7 (q0_win (r := 73) wn_MO_layPush_0 (by decide +kernel))
theorem d_MO_layPush_74 : decode b_MO_layPush 74 = .ok (.if_icmp .ge 144, 3) := dc_162 (qS2_win (r := 74) wn_MO_layPush_0 (by decide +kernel))
theorem d_MO_layPush_77 : decode b_MO_layPush 77 = .ok (.aload_n 0, 1) := dc_42 (q0_win (r := 77) wn_MO_layPush_0 (by decide +kernel))
theorem d_MO_layPush_78 : decode b_MO_layPush 78 = .ok (.getfield 28, 3) := dc_180 (qU2_win (r := 78) wn_MO_layPush_0 (by decide +kernel))
theorem d_MO_layPush_81 : decode b_MO_layPush 81 = .ok (.iload_n 3, 1) := dc_29 (q0_win (r := 81) wn_MO_layPush_0 (by decide +kernel))
theorem d_MO_layPush_82 : decode b_MO_layPush 82 = .ok (.baload, 1) := dc_51 (q0_win (r := 82) wn_MO_layPush_0 (by decide +kernel))
theorem d_MO_layPush_83 : decode b_MO_layPush 83 = .ok (.ifCond .ne 135, 3) := dc_154 (qS2_win (r := 83) wn_MO_layPush_0 (by decide +kernel))
theorem d_MO_layPush_86 : decode b_MO_layPush 86 = .ok (.aload_n 0, 1) := dc_42 (q0_win (r := 86) wn_MO_layPush_0 (by decide +kernel))
theorem d_MO_layPush_87 : decode b_MO_layPush 87 = .ok (.iload_n 3, 1) := dc_29 (q0_win (r := 87) wn_MO_layPush_0 (by decide +kernel))
theorem d_MO_layPush_88 : decode b_MO_layPush 88 = .ok (.iload 4, 2) := dc_21 (qU1_win (r := 88) wn_MO_layPush_0 (by decide +kernel))
theorem d_MO_layPush_90 : decode b_MO_layPush 90 = .ok (.invokevirtual 338, 3) := dc_182 (qU2_win (r := 90) wn_MO_layPush_0 (by decide +kernel))
theorem d_MO_layPush_93 : decode b_MO_layPush 93 = .ok (.istore 5, 2) := dc_54 (qU1_win (r := 93) wn_MO_layPush_0 (by decide +kernel))
theorem wn_MO_layPush_95 : ∀ i, i < 96 → bA b_MO_layPush (95 + i) = wB [21, 5, 2, 159, 0, 114, 42, 180, 0, 28, 21, 5, 51, 154, 0, 104, 42, 180, 0, 115, 21, 5, 46, 19, 1, 202, 161, 0, 6, 167, 0, 88, 42, 180, 0, 115, 21, 5, 46, 42, 29, 21, 4, 182, 1, 212, 96, 54, 6, 21, 6, 42, 180, 0, 115, 29, 46, 163, 0, 60, 21, 6, 42, 180, 0, 115, 29, 46, 160, 0, 24, 42, 180, 0, 112, 21, 5, 46, 4, 96, 42, 180, 0, 112, 29, 46, 161, 0, 6, 167, 0, 28, 42, 180, 0, 115] i := wB_of (by decide +kernel)
theorem d_MO_layPush_95 : decode b_MO_layPush 95 = .ok (.iload 5, 2) := dc_21 (qU1_win (r := 0) wn_MO_layPush_95 (by decide +kernel))
theorem d_MO_layPush_97 : decode b_MO_layPush 97 = .ok (.iconst (-1), 1) := dc_2 (q0_win (r := 2) wn_MO_layPush_95 (by decide +kernel))
theorem d_MO_layPush_98 : decode b_MO_layPush 98 = .ok (.if_icmp .eq 114, 3) := dc_159 (qS2_win (r := 3) wn_MO_layPush_95 (by decide +kernel))
theorem d_MO_layPush_101 : decode b_MO_layPush 101 = .ok (.aload_n 0, 1) := dc_42 (q0_win (r := 6) wn_MO_layPush_95 (by decide +kernel))
theorem d_MO_layPush_102 : decode b_MO_layPush 102 = .ok (.getfield 28, 3) := dc_180 (qU2_win (r := 7) wn_MO_layPush_95 (by decide +kernel))
theorem d_MO_layPush_105 : decode b_MO_layPush 105 = .ok (.iload 5, 2) := dc_21 (qU1_win (r := 10) wn_MO_layPush_95 (by decide +kernel))
theorem d_MO_layPush_107 : decode b_MO_layPush 107 = .ok (.baload, 1) := dc_51 (q0_win (r := 12) wn_MO_layPush_95 (by decide +kernel))
theorem d_MO_layPush_108 : decode b_MO_layPush 108 = .ok (.ifCond .ne 104, 3) := dc_154 (qS2_win (r := 13) wn_MO_layPush_95 (by decide +kernel))
theorem d_MO_layPush_111 : decode b_MO_layPush 111 = .ok (.aload_n 0, 1) := dc_42 (q0_win (r := 16) wn_MO_layPush_95 (by decide +kernel))
theorem d_MO_layPush_112 : decode b_MO_layPush 112 = .ok (.getfield 115, 3) := dc_180 (qU2_win (r := 17) wn_MO_layPush_95 (by decide +kernel))
theorem d_MO_layPush_115 : decode b_MO_layPush 115 = .ok (.iload 5, 2) := dc_21 (qU1_win (r := 20) wn_MO_layPush_95 (by decide +kernel))
theorem d_MO_layPush_117 : decode b_MO_layPush 117 = .ok (.iaload, 1) := dc_46 (q0_win (r := 22) wn_MO_layPush_95 (by decide +kernel))
theorem d_MO_layPush_118 : decode b_MO_layPush 118 = .ok (.ldc_w 458, 3) := dc_19 (qU2_win (r := 23) wn_MO_layPush_95 (by decide +kernel))
theorem d_MO_layPush_121 : decode b_MO_layPush 121 = .ok (.if_icmp .lt 6, 3) := dc_161 (qS2_win (r := 26) wn_MO_layPush_95 (by decide +kernel))
theorem d_MO_layPush_124 : decode b_MO_layPush 124 = .ok (.goto 88, 3) := dc_167 (qS2_win (r := 29) wn_MO_layPush_95 (by decide +kernel))
theorem d_MO_layPush_127 : decode b_MO_layPush 127 = .ok (.aload_n 0, 1) := dc_42 (q0_win (r := 32) wn_MO_layPush_95 (by decide +kernel))
theorem d_MO_layPush_128 : decode b_MO_layPush 128 = .ok (.getfield 115, 3) := dc_180 (qU2_win (r := 33) wn_MO_layPush_95 (by decide +kernel))
theorem d_MO_layPush_131 : decode b_MO_layPush 131 = .ok (.iload 5, 2) := dc_21 (qU1_win (r := 36) wn_MO_layPush_95 (by decide +kernel))
theorem d_MO_layPush_133 : decode b_MO_layPush 133 = .ok (.iaload, 1) := dc_46 (q0_win (r := 38) wn_MO_layPush_95 (by decide +kernel))
theorem d_MO_layPush_134 : decode b_MO_layPush 134 = .ok (.aload_n 0, 1) := dc_42 (q0_win (r := 39) wn_MO_layPush_95 (by decide +kernel))
theorem d_MO_layPush_135 : decode b_MO_layPush 135 = .ok (.iload_n 3, 1) := dc_29 (q0_win (r := 40) wn_MO_layPush_95 (by decide +kernel))
theorem d_MO_layPush_136 : decode b_MO_layPush 136 = .ok (.iload 4, 2) := dc_21 (qU1_win (r := 41) wn_MO_layPush_95 (by decide +kernel))
theorem d_MO_layPush_138 : decode b_MO_layPush 138 = .ok (.invokevirtual 468, 3) := dc_182 (qU2_win (r := 43) wn_MO_layPush_95 (by decide +kernel))
theorem d_MO_layPush_141 : decode b_MO_layPush 141 = .ok (.iadd, 1) := dc_96 (q0_win (r := 46) wn_MO_layPush_95 (by decide +kernel))
theorem d_MO_layPush_142 : decode b_MO_layPush 142 = .ok (.istore 6, 2) := dc_54 (qU1_win (r := 47) wn_MO_layPush_95 (by decide +kernel))
theorem d_MO_layPush_144 : decode b_MO_layPush 144 = .ok (.iload 6, 2) := dc_21 (qU1_win (r := 49) wn_MO_layPush_95 (by decide +kernel))
theorem d_MO_layPush_146 : decode b_MO_layPush 146 = .ok (.aload_n 0, 1) := dc_42 (q0_win (r := 51) wn_MO_layPush_95 (by decide +kernel))
theorem d_MO_layPush_147 : decode b_MO_layPush 147 = .ok (.getfield 115, 3) := dc_180 (qU2_win (r := 52) wn_MO_layPush_95 (by decide +kernel))
theorem d_MO_layPush_150 : decode b_MO_layPush 150 = .ok (.iload_n 3, 1) := dc_29 (q0_win (r := 55) wn_MO_layPush_95 (by decide +kernel))
theorem d_MO_layPush_151 : decode b_MO_layPush 151 = .ok (.iaload, 1) := dc_46 (q0_win (r := 56) wn_MO_layPush_95 (by decide +kernel))
theorem d_MO_layPush_152 : decode b_MO_layPush 152 = .ok (.if_icmp .gt 60, 3) := dc_163 (qS2_win (r := 57) wn_MO_layPush_95 (by decide +kernel))
theorem d_MO_layPush_155 : decode b_MO_layPush 155 = .ok (.iload 6, 2) := dc_21 (qU1_win (r := 60) wn_MO_layPush_95 (by decide +kernel))
theorem d_MO_layPush_157 : decode b_MO_layPush 157 = .ok (.aload_n 0, 1) := dc_42 (q0_win (r := 62) wn_MO_layPush_95 (by decide +kernel))
theorem d_MO_layPush_158 : decode b_MO_layPush 158 = .ok (.getfield 115, 3) := dc_180 (qU2_win (r := 63) wn_MO_layPush_95 (by decide +kernel))
theorem d_MO_layPush_161 : decode b_MO_layPush 161 = .ok (.iload_n 3, 1) := dc_29 (q0_win (r := 66) wn_MO_layPush_95 (by decide +kernel))
theorem d_MO_layPush_162 : decode b_MO_layPush 162 = .ok (.iaload, 1) := dc_46 (q0_win (r := 67) wn_MO_layPush_95 (by decide +kernel))
theorem d_MO_layPush_163 : decode b_MO_layPush 163 = .ok (.if_icmp .ne 24, 3) := dc_160 (qS2_win (r := 68) wn_MO_layPush_95 (by decide +kernel))
theorem d_MO_layPush_166 : decode b_MO_layPush 166 = .ok (.aload_n 0, 1) := dc_42 (q0_win (r := 71) wn_MO_layPush_95 (by decide +kernel))
theorem d_MO_layPush_167 : decode b_MO_layPush 167 = .ok (.getfield 112, 3) := dc_180 (qU2_win (r := 72) wn_MO_layPush_95 (by decide +kernel))
theorem d_MO_layPush_170 : decode b_MO_layPush 170 = .ok (.iload 5, 2) := dc_21 (qU1_win (r := 75) wn_MO_layPush_95 (by decide +kernel))
theorem d_MO_layPush_172 : decode b_MO_layPush 172 = .ok (.iaload, 1) := dc_46 (q0_win (r := 77) wn_MO_layPush_95 (by decide +kernel))
theorem d_MO_layPush_173 : decode b_MO_layPush 173 = .ok (.iconst 1, 1) := dc_4 (q0_win (r := 78) wn_MO_layPush_95 (by decide +kernel))
theorem d_MO_layPush_174 : decode b_MO_layPush 174 = .ok (.iadd, 1) := dc_96 (q0_win (r := 79) wn_MO_layPush_95 (by decide +kernel))
theorem d_MO_layPush_175 : decode b_MO_layPush 175 = .ok (.aload_n 0, 1) := dc_42 (q0_win (r := 80) wn_MO_layPush_95 (by decide +kernel))
theorem d_MO_layPush_176 : decode b_MO_layPush 176 = .ok (.getfield 112, 3) := dc_180 (qU2_win (r := 81) wn_MO_layPush_95 (by decide +kernel))
theorem d_MO_layPush_179 : decode b_MO_layPush 179 = .ok (.iload_n 3, 1) := dc_29 (q0_win (r := 84) wn_MO_layPush_95 (by decide +kernel))
theorem d_MO_layPush_180 : decode b_MO_layPush 180 = .ok (.iaload, 1) := dc_46 (q0_win (r := 85) wn_MO_layPush_95 (by decide +kernel))
theorem d_MO_layPush_181 : decode b_MO_layPush 181 = .ok (.if_icmp .lt 6, 3) := dc_161 (qS2_win (r := 86) wn_MO_layPush_95 (by decide +kernel))
theorem d_MO_layPush_184 : decode b_MO_layPush 184 = .ok (.goto 28, 3) := dc_167 (qS2_win (r := 89) wn_MO_layPush_95 (by decide +kernel))
theorem d_MO_layPush_187 : decode b_MO_layPush 187 = .ok (.aload_n 0, 1) := dc_42 (q0_win (r := 92) wn_MO_layPush_95 (by decide +kernel))
theorem d_MO_layPush_188 : decode b_MO_layPush 188 = .ok (.getfield 115, 3) := dc_180 (qU2_win (r := 93) wn_MO_layPush_95 (by decide +kernel))
theorem wn_MO_layPush_191 : ∀ i, i < 37 → bA b_MO_layPush (191 + i) = wB [29, 21, 6, 79, 42, 180, 0, 112, 29, 42, 180, 0, 112, 21, 5, 46, 4, 96, 79, 4, 61, 132, 4, 1, 167, 255, 112, 132, 3, 1, 167, 255, 95, 167, 255, 84, 177] i := wB_of (by decide +kernel)
theorem d_MO_layPush_191 : decode b_MO_layPush 191 = .ok (.iload_n 3, 1) := dc_29 (q0_win (r := 0) wn_MO_layPush_191 (by decide +kernel))
theorem d_MO_layPush_192 : decode b_MO_layPush 192 = .ok (.iload 6, 2) := dc_21 (qU1_win (r := 1) wn_MO_layPush_191 (by decide +kernel))
theorem d_MO_layPush_194 : decode b_MO_layPush 194 = .ok (.iastore, 1) := dc_79 (q0_win (r := 3) wn_MO_layPush_191 (by decide +kernel))
theorem d_MO_layPush_195 : decode b_MO_layPush 195 = .ok (.aload_n 0, 1) := dc_42 (q0_win (r := 4) wn_MO_layPush_191 (by decide +kernel))
theorem d_MO_layPush_196 : decode b_MO_layPush 196 = .ok (.getfield 112, 3) := dc_180 (qU2_win (r := 5) wn_MO_layPush_191 (by decide +kernel))
theorem d_MO_layPush_199 : decode b_MO_layPush 199 = .ok (.iload_n 3, 1) := dc_29 (q0_win (r := 8) wn_MO_layPush_191 (by decide +kernel))
theorem d_MO_layPush_200 : decode b_MO_layPush 200 = .ok (.aload_n 0, 1) := dc_42 (q0_win (r := 9) wn_MO_layPush_191 (by decide +kernel))
theorem d_MO_layPush_201 : decode b_MO_layPush 201 = .ok (.getfield 112, 3) := dc_180 (qU2_win (r := 10) wn_MO_layPush_191 (by decide +kernel))
theorem d_MO_layPush_204 : decode b_MO_layPush 204 = .ok (.iload 5, 2) := dc_21 (qU1_win (r := 13) wn_MO_layPush_191 (by decide +kernel))
theorem d_MO_layPush_206 : decode b_MO_layPush 206 = .ok (.iaload, 1) := dc_46 (q0_win (r := 15) wn_MO_layPush_191 (by decide +kernel))
theorem d_MO_layPush_207 : decode b_MO_layPush 207 = .ok (.iconst 1, 1) := dc_4 (q0_win (r := 16) wn_MO_layPush_191 (by decide +kernel))
theorem d_MO_layPush_208 : decode b_MO_layPush 208 = .ok (.iadd, 1) := dc_96 (q0_win (r := 17) wn_MO_layPush_191 (by decide +kernel))
theorem d_MO_layPush_209 : decode b_MO_layPush 209 = .ok (.iastore, 1) := dc_79 (q0_win (r := 18) wn_MO_layPush_191 (by decide +kernel))
theorem d_MO_layPush_210 : decode b_MO_layPush 210 = .ok (.iconst 1, 1) := dc_4 (q0_win (r := 19) wn_MO_layPush_191 (by decide +kernel))
theorem d_MO_layPush_211 : decode b_MO_layPush 211 = .ok (.istore_n 2, 1) := dc_61 (q0_win (r := 20) wn_MO_layPush_191 (by decide +kernel))
theorem d_MO_layPush_212 : decode b_MO_layPush 212 = .ok (.iinc 4 1, 3) := dc_132 (qI_win (r := 21) wn_MO_layPush_191 (by decide +kernel))
theorem d_MO_layPush_215 : decode b_MO_layPush 215 = .ok (.goto (-144), 3) := dc_167 (qS2_win (r := 24) wn_MO_layPush_191 (by decide +kernel))
theorem d_MO_layPush_218 : decode b_MO_layPush 218 = .ok (.iinc 3 1, 3) := dc_132 (qI_win (r := 27) wn_MO_layPush_191 (by decide +kernel))
theorem d_MO_layPush_221 : decode b_MO_layPush 221 = .ok (.goto (-161), 3) := dc_167 (qS2_win (r := 30) wn_MO_layPush_191 (by decide +kernel))
theorem d_MO_layPush_224 : decode b_MO_layPush 224 = .ok (.goto (-172), 3) := dc_167 (qS2_win (r := 33) wn_MO_layPush_191 (by decide +kernel))
theorem d_MO_layPush_227 : decode b_MO_layPush 227 = .ok (.return_, 1) := dc_177 (q0_win (r := 36) wn_MO_layPush_191 (by decide +kernel))
def t_MO_layPush_L43 (x1 : Int) (bk2 : Mem → Int → Option (Mem)) (M : Mem) (v2_ : Int) (v4_ : Int) (v5_ : Int) : Option (Mem) := (qguard (0 ≤ v4_ ∧ v4_ < 48) (qlet (setI M 222 v4_ v5_) fun M11 => (bk2 M11 (w32 (v2_ + 1)))))
def t_MO_layPush_L25 (x1 : Int) (bk2 : Mem → Int → Option (Mem)) (M : Mem) (v2_ : Int) (v4_ : Int) (v5_ : Int) : Option (Mem) := (qguard (0 ≤ v4_ ∧ v4_ < 48) (qlet (setI M 223 v4_ v5_) fun M5 => (if v2_ = x1 then (t_MO_layPush_L43 x1 bk2 M5 v2_ v2_ 0) else (t_MO_layPush_L43 x1 bk2 M5 v2_ v2_ 1000000))))
def t_MO_layPush_L212 (x1 : Int) (bk52 : Mem → Int → Option (Mem)) (bk60 : Mem → Int → Int → Option (Mem)) (bk71 : Mem → Int → Int → Int → Option (Mem)) (M : Mem) (v1_ : Int) (v2_ : Int) (v3_ : Int) : Option (Mem) := (bk71 M v1_ v2_ (w32 (v3_ + 1)))
def t_MO_layPush_L187 (x1 : Int) (bk52 : Mem → Int → Option (Mem)) (bk60 : Mem → Int → Int → Option (Mem)) (bk71 : Mem → Int → Int → Int → Option (Mem)) (M : Mem) (v1_ : Int) (v2_ : Int) (v3_ : Int) (v4_ : Int) : Option (Mem) := (qguard (0 ≤ v1_ ∧ v1_ < 48) (qlet (setI M 223 v1_ v4_) fun M41 => (qguard (0 ≤ v3_ ∧ v3_ < 48) (qguard (0 ≤ v1_ ∧ v1_ < 48) (qlet (setI M41 222 v1_ (w32 ((M41.1 222 v3_) + 1))) fun M45 => (t_MO_layPush_L212 x1 bk52 bk60 bk71 M45 1 v1_ v2_))))))
def t_MO_layPush_L218 (x1 : Int) (bk52 : Mem → Int → Option (Mem)) (bk60 : Mem → Int → Int → Option (Mem)) (M : Mem) (v1_ : Int) (v2_ : Int) : Option (Mem) := (bk60 M v1_ (w32 (v2_ + 1)))
def t_MO_layPush_L71 (x1 : Int) (bk52 : Mem → Int → Option (Mem)) (bk60 : Mem → Int → Int → Option (Mem)) : Nat → Mem → Int → Int → Int → Option (Mem)
  | 0, _, _, _, _ => none
  | fu + 1, M, v1_, v2_, v3_ => (if 4 ≤ v3_ then (t_MO_layPush_L218 x1 bk52 bk60 M v1_ v2_) else (qguard (0 ≤ v2_ ∧ v2_ < 96) (if (M.1 198 v2_) = 0 then (obind (t_MO_beside M v2_ v3_) fun q16 => (if q16 = (-1) then (t_MO_layPush_L212 x1 bk52 bk60 (fun a0_ a1_ a2_ a3_ => t_MO_layPush_L71 x1 bk52 bk60 fu a0_ a1_ a2_ a3_) M v1_ v2_ v3_) else (qguard (0 ≤ q16 ∧ q16 < 96) (if (M.1 198 q16) = 0 then (qguard (0 ≤ q16 ∧ q16 < 48) (if (M.1 223 q16) < 1000000 then (qguard (0 ≤ q16 ∧ q16 < 48) (obind (t_MO_pushOf M v2_ v3_) fun q27 => (qguard (0 ≤ v2_ ∧ v2_ < 48) (if ((q27.1).1 223 v2_) < (w32 ((M.1 223 q16) + (q27.2))) then (t_MO_layPush_L212 x1 bk52 bk60 (fun a0_ a1_ a2_ a3_ => t_MO_layPush_L71 x1 bk52 bk60 fu a0_ a1_ a2_ a3_) (q27.1) v1_ v2_ v3_) else (qguard (0 ≤ v2_ ∧ v2_ < 48) (if (w32 ((M.1 223 q16) + (q27.2))) = ((q27.1).1 223 v2_) then (qguard (0 ≤ q16 ∧ q16 < 48) (qguard (0 ≤ v2_ ∧ v2_ < 48) (if (w32 (((q27.1).1 222 q16) + 1)) < ((q27.1).1 222 v2_) then (t_MO_layPush_L187 x1 bk52 bk60 (fun a0_ a1_ a2_ a3_ => t_MO_layPush_L71 x1 bk52 bk60 fu a0_ a1_ a2_ a3_) (q27.1) v2_ v3_ q16 (w32 ((M.1 223 q16) + (q27.2)))) else (t_MO_layPush_L212 x1 bk52 bk60 (fun a0_ a1_ a2_ a3_ => t_MO_layPush_L71 x1 bk52 bk60 fu a0_ a1_ a2_ a3_) (q27.1) v1_ v2_ v3_)))) else (t_MO_layPush_L187 x1 bk52 bk60 (fun a0_ a1_ a2_ a3_ => t_MO_layPush_L71 x1 bk52 bk60 fu a0_ a1_ a2_ a3_) (q27.1) v2_ v3_ q16 (w32 ((M.1 223 q16) + (q27.2)))))))))) else (t_MO_layPush_L212 x1 bk52 bk60 (fun a0_ a1_ a2_ a3_ => t_MO_layPush_L71 x1 bk52 bk60 fu a0_ a1_ a2_ a3_) M v1_ v2_ v3_))) else (t_MO_layPush_L212 x1 bk52 bk60 (fun a0_ a1_ a2_ a3_ => t_MO_layPush_L71 x1 bk52 bk60 fu a0_ a1_ a2_ a3_) M v1_ v2_ v3_))))) else (t_MO_layPush_L218 x1 bk52 bk60 M v1_ v2_))))
def t_MO_layPush_L60 (x1 : Int) (bk52 : Mem → Int → Option (Mem)) : Nat → Mem → Int → Int → Option (Mem)
  | 0, _, _, _ => none
  | fu + 1, M, v1_, v2_ => (qlet (t_MO_cells M) fun q7 => (if q7 ≤ v2_ then (bk52 M v1_) else (t_MO_layPush_L71 x1 bk52 (fun a0_ a1_ a2_ => t_MO_layPush_L60 x1 bk52 fu a0_ a1_ a2_) FU M v1_ v2_ 0)))
def t_MO_layPush_L52 (x1 : Int)  : Nat → Mem → Int → Option (Mem)
  | 0, _, _ => none
  | fu + 1, M, v1_ => (if v1_ = 0 then (some M) else (t_MO_layPush_L60 x1 (fun a0_ a1_ => t_MO_layPush_L52 x1 fu a0_ a1_) FU M 0 0))
def t_MO_layPush_L2 (x1 : Int)  : Nat → Mem → Int → Option (Mem)
  | 0, _, _ => none
  | fu + 1, M, v2_ => (if 48 ≤ v2_ then (t_MO_layPush_L52 x1 FU M 1) else (if v2_ = x1 then (t_MO_layPush_L25 x1 (fun a0_ a1_ => t_MO_layPush_L2 x1 fu a0_ a1_) M v2_ v2_ 0) else (t_MO_layPush_L25 x1 (fun a0_ a1_ => t_MO_layPush_L2 x1 fu a0_ a1_) M v2_ v2_ 1000000)))
def t_MO_layPush (M : Mem) (x1 : Int) : Option (Mem) := (t_MO_layPush_L2 x1 FU M 0)
set_option maxHeartbeats 4000000 in
set_option maxRecDepth 100000 in
theorem k_MO_layPush_L43 (l : Launch) {p : Program} {e : Env} {s : State} {m : MethodId} {below : List Frame} {meth : Method} {c : Code} {b n : Nat} {C : CT} (hlo : 231 ≤ n) (x1 : Int) (hx1 : InR x1) (F : Cx b p m c b_MO_layPush 7 s ([.ref (b + 191), vI x1] : List Value).toArray "WardFallsModel" C n 231) (hlk : meth.locks = false) (hr : meth.sig.returnType = none) {res : Mem} (bk2 : Mem → Int → Option (Mem)) (hbk2 : ∀ (M : Mem) (v2_ : Int) (hv2_ : InR v2_) (H : Heap) (locs : List Loc) (ls : Array Slot), St b C n M s H locs → lv_has ls 7 [(0, .ref (b + 191)), (1, vI x1), (2, vI v2_)] → bk2 M v2_ = some res → W p l e (headSpec (wsM y_MO_layPush b_MO_layPush 7 (none)) (rmD 5)).room s m ([.ref (b + 191), vI x1] : List Value).toArray below meth c H locs 0 0 (MQ below (QV b C n res) ([.ref (b + 191), vI x1] : List Value).toArray s 0 0 (frb b)) (F0 m 2 ls [])) (M : Mem) (v2_ : Int) (hv2_ : InR v2_) (v4_ : Int) (hv4_ : InR v4_) (v5_ : Int) (hv5_ : InR v5_) (H : Heap) (locs : List Loc) (ls : Array Slot) (hS : St b C n M s H locs) (hl : lv_has ls 7 [(0, .ref (b + 191)), (1, vI x1), (2, vI v2_)]) (hT : t_MO_layPush_L43 x1 bk2 M v2_ v4_ v5_ = some res) : W p l e (headSpec (wsM y_MO_layPush b_MO_layPush 7 (none)) (rmD 5)).room s m ([.ref (b + 191), vI x1] : List Value).toArray below meth c H locs 0 0 (MQ below (QV b C n res) ([.ref (b + 191), vI x1] : List Value).toArray s 0 0 (frb b)) (F0 m 43 ls [vI v5_, vI v4_, .ref (b + 222)]) := by
  unfold t_MO_layPush_L43 at hT
  obtain ⟨⟨g10a, g10b⟩, hT⟩ := q_guard hT
  refine r_iast F hS (show 222 < 231 by decide) (show shK 222 = 0 from rfl) (show shN 222 = 48 from rfl) hv4_ hv5_ g10a g10b d_MO_layPush_43 (fun H locs hS => ?_)
  obtain ⟨M11, eM11⟩ : ∃ q, q = (setI M 222 v4_ v5_) := ⟨_, rfl⟩
  replace hS : St b C n M11 s H locs := by rw [eM11]; exact hS
  replace hT := qlet_eq hT eM11
  refine lv_iinc (v := Int32.ofInt (w32 (v2_ + 1))) (lv' := [(2, vI (w32 (v2_ + 1))), (0, .ref (b + 191)), (1, vI x1)]) F.hx F.hb d_MO_layPush_44 hl (k := 2) rfl (q_of_add _ _) (Nat.le_of_ble_eq_true rfl) rfl (fun ls hl => ?_)
  refine lv_goto (tgt := 2) F.hx F.hb d_MO_layPush_47 (by decide) ?_
  exact hbk2 M11 (w32 (v2_ + 1)) (inr_w32 _) _ _ _ hS (lv_sub hl [1, 2, 0] rfl) hT
set_option maxHeartbeats 4000000 in
set_option maxRecDepth 100000 in
theorem k_MO_layPush_L25 (l : Launch) {p : Program} {e : Env} {s : State} {m : MethodId} {below : List Frame} {meth : Method} {c : Code} {b n : Nat} {C : CT} (hlo : 231 ≤ n) (x1 : Int) (hx1 : InR x1) (F : Cx b p m c b_MO_layPush 7 s ([.ref (b + 191), vI x1] : List Value).toArray "WardFallsModel" C n 231) (hlk : meth.locks = false) (hr : meth.sig.returnType = none) {res : Mem} (bk2 : Mem → Int → Option (Mem)) (hbk2 : ∀ (M : Mem) (v2_ : Int) (hv2_ : InR v2_) (H : Heap) (locs : List Loc) (ls : Array Slot), St b C n M s H locs → lv_has ls 7 [(0, .ref (b + 191)), (1, vI x1), (2, vI v2_)] → bk2 M v2_ = some res → W p l e (headSpec (wsM y_MO_layPush b_MO_layPush 7 (none)) (rmD 5)).room s m ([.ref (b + 191), vI x1] : List Value).toArray below meth c H locs 0 0 (MQ below (QV b C n res) ([.ref (b + 191), vI x1] : List Value).toArray s 0 0 (frb b)) (F0 m 2 ls [])) (M : Mem) (v2_ : Int) (hv2_ : InR v2_) (v4_ : Int) (hv4_ : InR v4_) (v5_ : Int) (hv5_ : InR v5_) (H : Heap) (locs : List Loc) (ls : Array Slot) (hS : St b C n M s H locs) (hl : lv_has ls 7 [(0, .ref (b + 191)), (1, vI x1), (2, vI v2_)]) (hT : t_MO_layPush_L25 x1 bk2 M v2_ v4_ v5_ = some res) : W p l e (headSpec (wsM y_MO_layPush b_MO_layPush 7 (none)) (rmD 5)).room s m ([.ref (b + 191), vI x1] : List Value).toArray below meth c H locs 0 0 (MQ below (QV b C n res) ([.ref (b + 191), vI x1] : List Value).toArray s 0 0 (frb b)) (F0 m 25 ls [vI v5_, vI v4_, .ref (b + 223)]) := by
  unfold t_MO_layPush_L25 at hT
  obtain ⟨⟨g4a, g4b⟩, hT⟩ := q_guard hT
  refine r_iast F hS (show 223 < 231 by decide) (show shK 223 = 0 from rfl) (show shN 223 = 48 from rfl) hv4_ hv5_ g4a g4b d_MO_layPush_25 (fun H locs hS => ?_)
  obtain ⟨M5, eM5⟩ : ∃ q, q = (setI M 223 v4_ v5_) := ⟨_, rfl⟩
  replace hS : St b C n M5 s H locs := by rw [eM5]; exact hS
  replace hT := qlet_eq hT eM5
  refine lv_aload_n F.hx F.hb d_MO_layPush_26 rfl (lv_at hl 0 rfl) ?_
  refine r_get (v := .ref (b + 222)) (N := 68) (T := T1) (j := 55) F hS (show 191 < 231 by decide) (show shK 191 = 5 from rfl) (show shN 191 = 68 from rfl) rfl (Nat.le_of_ble_eq_true rfl) ing1 mw_1444 (fv_sg rfl rfl rfl) d_MO_layPush_27 ?_
  refine lv_iload_n F.hx F.hb d_MO_layPush_30 rfl (lv_at hl 2 rfl) ?_
  refine lv_iload_n F.hx F.hb d_MO_layPush_31 rfl (lv_at hl 2 rfl) ?_
  refine lv_iload_n F.hx F.hb d_MO_layPush_32 rfl (lv_at hl 1 rfl) ?_
  refine r_icmp_ne (tgt := 40) F.hx F.hb hv2_ hx1 d_MO_layPush_33 (by decide) (fun c6 => ?_) (fun c6 => ?_)
  · replace hT := (if_neg c6).symm.trans hT
    refine lv_ldcw (v := Int32.ofInt 1000000) F.hx F.hb F.hown (F.hts mw_1943) d_MO_layPush_40 ?_
    exact k_MO_layPush_L43 l hlo x1 hx1 F hlk hr bk2 hbk2 M5 v2_ hv2_ v2_ hv2_ 1000000 (inr_c rfl) _ _ _ hS (lv_sub hl [0, 1, 2] rfl) hT
  · replace hT := (if_pos c6).symm.trans hT
    refine r_iconst F.hx F.hb d_MO_layPush_36 ?_
    refine lv_goto (tgt := 43) F.hx F.hb d_MO_layPush_37 (by decide) ?_
    exact k_MO_layPush_L43 l hlo x1 hx1 F hlk hr bk2 hbk2 M5 v2_ hv2_ v2_ hv2_ 0 (inr_c rfl) _ _ _ hS (lv_sub hl [0, 1, 2] rfl) hT
set_option maxHeartbeats 4000000 in
set_option maxRecDepth 100000 in
theorem k_MO_layPush_L212 (l : Launch) {p : Program} {e : Env} {s : State} {m : MethodId} {below : List Frame} {meth : Method} {c : Code} {b n : Nat} {C : CT} (hlo : 231 ≤ n) (x1 : Int) (hx1 : InR x1) (F : Cx b p m c b_MO_layPush 7 s ([.ref (b + 191), vI x1] : List Value).toArray "WardFallsModel" C n 231) (hlk : meth.locks = false) (hr : meth.sig.returnType = none) {res : Mem} (bk52 : Mem → Int → Option (Mem)) (hbk52 : ∀ (M : Mem) (v1_ : Int) (hv1_ : v1_ = 0 ∨ v1_ = 1) (H : Heap) (locs : List Loc) (ls : Array Slot), St b C n M s H locs → lv_has ls 7 [(0, .ref (b + 191)), (2, vI v1_)] → bk52 M v1_ = some res → W p l e (headSpec (wsM y_MO_layPush b_MO_layPush 7 (none)) (rmD 5)).room s m ([.ref (b + 191), vI x1] : List Value).toArray below meth c H locs 0 0 (MQ below (QV b C n res) ([.ref (b + 191), vI x1] : List Value).toArray s 0 0 (frb b)) (F0 m 52 ls [])) (bk60 : Mem → Int → Int → Option (Mem)) (hbk60 : ∀ (M : Mem) (v1_ : Int) (hv1_ : v1_ = 0 ∨ v1_ = 1) (v2_ : Int) (hv2_ : InR v2_) (H : Heap) (locs : List Loc) (ls : Array Slot), St b C n M s H locs → lv_has ls 7 [(0, .ref (b + 191)), (2, vI v1_), (3, vI v2_)] → bk60 M v1_ v2_ = some res → W p l e (headSpec (wsM y_MO_layPush b_MO_layPush 7 (none)) (rmD 5)).room s m ([.ref (b + 191), vI x1] : List Value).toArray below meth c H locs 0 0 (MQ below (QV b C n res) ([.ref (b + 191), vI x1] : List Value).toArray s 0 0 (frb b)) (F0 m 60 ls [])) (bk71 : Mem → Int → Int → Int → Option (Mem)) (hbk71 : ∀ (M : Mem) (v1_ : Int) (hv1_ : v1_ = 0 ∨ v1_ = 1) (v2_ : Int) (hv2_ : InR v2_) (v3_ : Int) (hv3_ : InR v3_) (H : Heap) (locs : List Loc) (ls : Array Slot), St b C n M s H locs → lv_has ls 7 [(0, .ref (b + 191)), (2, vI v1_), (3, vI v2_), (4, vI v3_)] → bk71 M v1_ v2_ v3_ = some res → W p l e (headSpec (wsM y_MO_layPush b_MO_layPush 7 (none)) (rmD 5)).room s m ([.ref (b + 191), vI x1] : List Value).toArray below meth c H locs 0 0 (MQ below (QV b C n res) ([.ref (b + 191), vI x1] : List Value).toArray s 0 0 (frb b)) (F0 m 71 ls [])) (M : Mem) (v1_ : Int) (hv1_ : v1_ = 0 ∨ v1_ = 1) (v2_ : Int) (hv2_ : InR v2_) (v3_ : Int) (hv3_ : InR v3_) (H : Heap) (locs : List Loc) (ls : Array Slot) (hS : St b C n M s H locs) (hl : lv_has ls 7 [(0, .ref (b + 191)), (2, vI v1_), (3, vI v2_), (4, vI v3_)]) (hT : t_MO_layPush_L212 x1 bk52 bk60 bk71 M v1_ v2_ v3_ = some res) : W p l e (headSpec (wsM y_MO_layPush b_MO_layPush 7 (none)) (rmD 5)).room s m ([.ref (b + 191), vI x1] : List Value).toArray below meth c H locs 0 0 (MQ below (QV b C n res) ([.ref (b + 191), vI x1] : List Value).toArray s 0 0 (frb b)) (F0 m 212 ls []) := by
  unfold t_MO_layPush_L212 at hT
  refine lv_iinc (v := Int32.ofInt (w32 (v3_ + 1))) (lv' := [(4, vI (w32 (v3_ + 1))), (0, .ref (b + 191)), (2, vI v1_), (3, vI v2_)]) F.hx F.hb d_MO_layPush_212 hl (k := 3) rfl (q_of_add _ _) (Nat.le_of_ble_eq_true rfl) rfl (fun ls hl => ?_)
  refine lv_goto (tgt := 71) F.hx F.hb d_MO_layPush_215 (by decide) ?_
  exact hbk71 M v1_ hv1_ v2_ hv2_ (w32 (v3_ + 1)) (inr_w32 _) _ _ _ hS (lv_sub hl [1, 2, 3, 0] rfl) hT
set_option maxHeartbeats 4000000 in
set_option maxRecDepth 100000 in
theorem k_MO_layPush_L187 (l : Launch) {p : Program} {e : Env} {s : State} {m : MethodId} {below : List Frame} {meth : Method} {c : Code} {b n : Nat} {C : CT} (hlo : 231 ≤ n) (x1 : Int) (hx1 : InR x1) (F : Cx b p m c b_MO_layPush 7 s ([.ref (b + 191), vI x1] : List Value).toArray "WardFallsModel" C n 231) (hlk : meth.locks = false) (hr : meth.sig.returnType = none) {res : Mem} (bk52 : Mem → Int → Option (Mem)) (hbk52 : ∀ (M : Mem) (v1_ : Int) (hv1_ : v1_ = 0 ∨ v1_ = 1) (H : Heap) (locs : List Loc) (ls : Array Slot), St b C n M s H locs → lv_has ls 7 [(0, .ref (b + 191)), (2, vI v1_)] → bk52 M v1_ = some res → W p l e (headSpec (wsM y_MO_layPush b_MO_layPush 7 (none)) (rmD 5)).room s m ([.ref (b + 191), vI x1] : List Value).toArray below meth c H locs 0 0 (MQ below (QV b C n res) ([.ref (b + 191), vI x1] : List Value).toArray s 0 0 (frb b)) (F0 m 52 ls [])) (bk60 : Mem → Int → Int → Option (Mem)) (hbk60 : ∀ (M : Mem) (v1_ : Int) (hv1_ : v1_ = 0 ∨ v1_ = 1) (v2_ : Int) (hv2_ : InR v2_) (H : Heap) (locs : List Loc) (ls : Array Slot), St b C n M s H locs → lv_has ls 7 [(0, .ref (b + 191)), (2, vI v1_), (3, vI v2_)] → bk60 M v1_ v2_ = some res → W p l e (headSpec (wsM y_MO_layPush b_MO_layPush 7 (none)) (rmD 5)).room s m ([.ref (b + 191), vI x1] : List Value).toArray below meth c H locs 0 0 (MQ below (QV b C n res) ([.ref (b + 191), vI x1] : List Value).toArray s 0 0 (frb b)) (F0 m 60 ls [])) (bk71 : Mem → Int → Int → Int → Option (Mem)) (hbk71 : ∀ (M : Mem) (v1_ : Int) (hv1_ : v1_ = 0 ∨ v1_ = 1) (v2_ : Int) (hv2_ : InR v2_) (v3_ : Int) (hv3_ : InR v3_) (H : Heap) (locs : List Loc) (ls : Array Slot), St b C n M s H locs → lv_has ls 7 [(0, .ref (b + 191)), (2, vI v1_), (3, vI v2_), (4, vI v3_)] → bk71 M v1_ v2_ v3_ = some res → W p l e (headSpec (wsM y_MO_layPush b_MO_layPush 7 (none)) (rmD 5)).room s m ([.ref (b + 191), vI x1] : List Value).toArray below meth c H locs 0 0 (MQ below (QV b C n res) ([.ref (b + 191), vI x1] : List Value).toArray s 0 0 (frb b)) (F0 m 71 ls [])) (M : Mem) (v1_ : Int) (hv1_ : InR v1_) (v2_ : Int) (hv2_ : InR v2_) (v3_ : Int) (hv3_ : InR v3_) (v4_ : Int) (hv4_ : InR v4_) (H : Heap) (locs : List Loc) (ls : Array Slot) (hS : St b C n M s H locs) (hl : lv_has ls 7 [(0, .ref (b + 191)), (3, vI v1_), (4, vI v2_), (5, vI v3_), (6, vI v4_)]) (hT : t_MO_layPush_L187 x1 bk52 bk60 bk71 M v1_ v2_ v3_ v4_ = some res) : W p l e (headSpec (wsM y_MO_layPush b_MO_layPush 7 (none)) (rmD 5)).room s m ([.ref (b + 191), vI x1] : List Value).toArray below meth c H locs 0 0 (MQ below (QV b C n res) ([.ref (b + 191), vI x1] : List Value).toArray s 0 0 (frb b)) (F0 m 187 ls []) := by
  unfold t_MO_layPush_L187 at hT
  refine lv_aload_n F.hx F.hb d_MO_layPush_187 rfl (lv_at hl 0 rfl) ?_
  refine r_get (v := .ref (b + 223)) (N := 68) (T := T1) (j := 56) F hS (show 191 < 231 by decide) (show shK 191 = 5 from rfl) (show shN 191 = 68 from rfl) rfl (Nat.le_of_ble_eq_true rfl) ing1 mw_1445 (fv_sg rfl rfl rfl) d_MO_layPush_188 ?_
  refine lv_iload_n F.hx F.hb d_MO_layPush_191 rfl (lv_at hl 1 rfl) ?_
  refine lv_iload F.hx F.hb d_MO_layPush_192 (lv_at hl 4 rfl) ?_
  obtain ⟨⟨g40a, g40b⟩, hT⟩ := q_guard hT
  refine r_iast F hS (show 223 < 231 by decide) (show shK 223 = 0 from rfl) (show shN 223 = 48 from rfl) hv1_ hv4_ g40a g40b d_MO_layPush_194 (fun H locs hS => ?_)
  obtain ⟨M41, eM41⟩ : ∃ q, q = (setI M 223 v1_ v4_) := ⟨_, rfl⟩
  replace hS : St b C n M41 s H locs := by rw [eM41]; exact hS
  replace hT := qlet_eq hT eM41
  refine lv_aload_n F.hx F.hb d_MO_layPush_195 rfl (lv_at hl 0 rfl) ?_
  refine r_get (v := .ref (b + 222)) (N := 68) (T := T1) (j := 55) F hS (show 191 < 231 by decide) (show shK 191 = 5 from rfl) (show shN 191 = 68 from rfl) rfl (Nat.le_of_ble_eq_true rfl) ing1 mw_1444 (fv_sg rfl rfl rfl) d_MO_layPush_196 ?_
  refine lv_iload_n F.hx F.hb d_MO_layPush_199 rfl (lv_at hl 1 rfl) ?_
  refine lv_aload_n F.hx F.hb d_MO_layPush_200 rfl (lv_at hl 0 rfl) ?_
  refine r_get (v := .ref (b + 222)) (N := 68) (T := T1) (j := 55) F hS (show 191 < 231 by decide) (show shK 191 = 5 from rfl) (show shN 191 = 68 from rfl) rfl (Nat.le_of_ble_eq_true rfl) ing1 mw_1444 (fv_sg rfl rfl rfl) d_MO_layPush_201 ?_
  refine lv_iload F.hx F.hb d_MO_layPush_204 (lv_at hl 3 rfl) ?_
  obtain ⟨⟨g42a, g42b⟩, hT⟩ := q_guard hT
  refine r_iald F hS (show 222 < 231 by decide) (show shK 222 = 0 from rfl) (show shN 222 = 48 from rfl) hv3_ g42a g42b d_MO_layPush_206 ?_
  have i43 := hS.rng 222 v3_
  refine r_iconst F.hx F.hb d_MO_layPush_207 ?_
  refine r_iadd F.hx F.hb d_MO_layPush_208 ?_
  obtain ⟨⟨g44a, g44b⟩, hT⟩ := q_guard hT
  refine r_iast F hS (show 222 < 231 by decide) (show shK 222 = 0 from rfl) (show shN 222 = 48 from rfl) hv1_ (inr_w32 _) g44a g44b d_MO_layPush_209 (fun H locs hS => ?_)
  obtain ⟨M45, eM45⟩ : ∃ q, q = (setI M41 222 v1_ (w32 ((M41.1 222 v3_) + 1))) := ⟨_, rfl⟩
  replace hS : St b C n M45 s H locs := by rw [eM45]; exact hS
  replace hT := qlet_eq hT eM45
  refine r_iconst F.hx F.hb d_MO_layPush_210 ?_
  refine lv_istore_n (lv' := [(2, vI 1), (0, .ref (b + 191)), (3, vI v1_), (4, vI v2_), (5, vI v3_), (6, vI v4_)]) F.hx F.hb d_MO_layPush_211 rfl hl (Nat.le_of_ble_eq_true rfl) rfl (fun ls hl => ?_)
  exact k_MO_layPush_L212 l hlo x1 hx1 F hlk hr bk52 hbk52 bk60 hbk60 bk71 hbk71 M45 1 (Or.inr rfl) v1_ hv1_ v2_ hv2_ _ _ _ hS (lv_sub hl [1, 0, 2, 3] rfl) hT
set_option maxHeartbeats 4000000 in
set_option maxRecDepth 100000 in
theorem k_MO_layPush_L218 (l : Launch) {p : Program} {e : Env} {s : State} {m : MethodId} {below : List Frame} {meth : Method} {c : Code} {b n : Nat} {C : CT} (hlo : 231 ≤ n) (x1 : Int) (hx1 : InR x1) (F : Cx b p m c b_MO_layPush 7 s ([.ref (b + 191), vI x1] : List Value).toArray "WardFallsModel" C n 231) (hlk : meth.locks = false) (hr : meth.sig.returnType = none) {res : Mem} (bk52 : Mem → Int → Option (Mem)) (hbk52 : ∀ (M : Mem) (v1_ : Int) (hv1_ : v1_ = 0 ∨ v1_ = 1) (H : Heap) (locs : List Loc) (ls : Array Slot), St b C n M s H locs → lv_has ls 7 [(0, .ref (b + 191)), (2, vI v1_)] → bk52 M v1_ = some res → W p l e (headSpec (wsM y_MO_layPush b_MO_layPush 7 (none)) (rmD 5)).room s m ([.ref (b + 191), vI x1] : List Value).toArray below meth c H locs 0 0 (MQ below (QV b C n res) ([.ref (b + 191), vI x1] : List Value).toArray s 0 0 (frb b)) (F0 m 52 ls [])) (bk60 : Mem → Int → Int → Option (Mem)) (hbk60 : ∀ (M : Mem) (v1_ : Int) (hv1_ : v1_ = 0 ∨ v1_ = 1) (v2_ : Int) (hv2_ : InR v2_) (H : Heap) (locs : List Loc) (ls : Array Slot), St b C n M s H locs → lv_has ls 7 [(0, .ref (b + 191)), (2, vI v1_), (3, vI v2_)] → bk60 M v1_ v2_ = some res → W p l e (headSpec (wsM y_MO_layPush b_MO_layPush 7 (none)) (rmD 5)).room s m ([.ref (b + 191), vI x1] : List Value).toArray below meth c H locs 0 0 (MQ below (QV b C n res) ([.ref (b + 191), vI x1] : List Value).toArray s 0 0 (frb b)) (F0 m 60 ls [])) (M : Mem) (v1_ : Int) (hv1_ : v1_ = 0 ∨ v1_ = 1) (v2_ : Int) (hv2_ : InR v2_) (H : Heap) (locs : List Loc) (ls : Array Slot) (hS : St b C n M s H locs) (hl : lv_has ls 7 [(0, .ref (b + 191)), (2, vI v1_), (3, vI v2_)]) (hT : t_MO_layPush_L218 x1 bk52 bk60 M v1_ v2_ = some res) : W p l e (headSpec (wsM y_MO_layPush b_MO_layPush 7 (none)) (rmD 5)).room s m ([.ref (b + 191), vI x1] : List Value).toArray below meth c H locs 0 0 (MQ below (QV b C n res) ([.ref (b + 191), vI x1] : List Value).toArray s 0 0 (frb b)) (F0 m 218 ls []) := by
  unfold t_MO_layPush_L218 at hT
  refine lv_iinc (v := Int32.ofInt (w32 (v2_ + 1))) (lv' := [(3, vI (w32 (v2_ + 1))), (0, .ref (b + 191)), (2, vI v1_)]) F.hx F.hb d_MO_layPush_218 hl (k := 2) rfl (q_of_add _ _) (Nat.le_of_ble_eq_true rfl) rfl (fun ls hl => ?_)
  refine lv_goto (tgt := 60) F.hx F.hb d_MO_layPush_221 (by decide) ?_
  exact hbk60 M v1_ hv1_ (w32 (v2_ + 1)) (inr_w32 _) _ _ _ hS (lv_sub hl [1, 2, 0] rfl) hT
set_option maxHeartbeats 4000000 in
set_option maxRecDepth 100000 in
theorem k_MO_layPush_L71 (l : Launch) {p : Program} {e : Env} {s : State} {m : MethodId} {below : List Frame} {meth : Method} {c : Code} {b n : Nat} {C : CT} (hlo : 231 ≤ n) (x1 : Int) (hx1 : InR x1) (F : Cx b p m c b_MO_layPush 7 s ([.ref (b + 191), vI x1] : List Value).toArray "WardFallsModel" C n 231) (hlk : meth.locks = false) (hr : meth.sig.returnType = none) {res : Mem} (bk52 : Mem → Int → Option (Mem)) (hbk52 : ∀ (M : Mem) (v1_ : Int) (hv1_ : v1_ = 0 ∨ v1_ = 1) (H : Heap) (locs : List Loc) (ls : Array Slot), St b C n M s H locs → lv_has ls 7 [(0, .ref (b + 191)), (2, vI v1_)] → bk52 M v1_ = some res → W p l e (headSpec (wsM y_MO_layPush b_MO_layPush 7 (none)) (rmD 5)).room s m ([.ref (b + 191), vI x1] : List Value).toArray below meth c H locs 0 0 (MQ below (QV b C n res) ([.ref (b + 191), vI x1] : List Value).toArray s 0 0 (frb b)) (F0 m 52 ls [])) (bk60 : Mem → Int → Int → Option (Mem)) (hbk60 : ∀ (M : Mem) (v1_ : Int) (hv1_ : v1_ = 0 ∨ v1_ = 1) (v2_ : Int) (hv2_ : InR v2_) (H : Heap) (locs : List Loc) (ls : Array Slot), St b C n M s H locs → lv_has ls 7 [(0, .ref (b + 191)), (2, vI v1_), (3, vI v2_)] → bk60 M v1_ v2_ = some res → W p l e (headSpec (wsM y_MO_layPush b_MO_layPush 7 (none)) (rmD 5)).room s m ([.ref (b + 191), vI x1] : List Value).toArray below meth c H locs 0 0 (MQ below (QV b C n res) ([.ref (b + 191), vI x1] : List Value).toArray s 0 0 (frb b)) (F0 m 60 ls [])) : ∀ (fu : Nat) (M : Mem) (v1_ : Int) (hv1_ : v1_ = 0 ∨ v1_ = 1) (v2_ : Int) (hv2_ : InR v2_) (v3_ : Int) (hv3_ : InR v3_) (H : Heap) (locs : List Loc) (ls : Array Slot), St b C n M s H locs → lv_has ls 7 [(0, .ref (b + 191)), (2, vI v1_), (3, vI v2_), (4, vI v3_)] → t_MO_layPush_L71 x1 bk52 bk60 fu M v1_ v2_ v3_ = some res → W p l e (headSpec (wsM y_MO_layPush b_MO_layPush 7 (none)) (rmD 5)).room s m ([.ref (b + 191), vI x1] : List Value).toArray below meth c H locs 0 0 (MQ below (QV b C n res) ([.ref (b + 191), vI x1] : List Value).toArray s 0 0 (frb b)) (F0 m 71 ls []) := by
  intro fu
  induction fu with
  | zero => intro M v1_ hv1_ v2_ hv2_ v3_ hv3_ H locs ls hS hl hT; exact absurd hT (by simp [t_MO_layPush_L71])
  | succ fu ih =>
    intro M v1_ hv1_ v2_ hv2_ v3_ hv3_ H locs ls hS hl hT
    rw [t_MO_layPush_L71] at hT
    refine lv_iload F.hx F.hb d_MO_layPush_71 (lv_at hl 3 rfl) ?_
    refine r_iconst F.hx F.hb d_MO_layPush_73 ?_
    refine r_icmp_ge (tgt := 218) F.hx F.hb hv3_ (inr_c rfl) d_MO_layPush_74 (by decide) (fun c12 => ?_) (fun c12 => ?_)
    · replace hT := (if_pos c12).symm.trans hT
      exact k_MO_layPush_L218 l hlo x1 hx1 F hlk hr bk52 hbk52 bk60 hbk60 M v1_ hv1_ v2_ hv2_ _ _ _ hS (lv_sub hl [0, 1, 2] rfl) hT
    · replace hT := (if_neg c12).symm.trans hT
      refine lv_aload_n F.hx F.hb d_MO_layPush_77 rfl (lv_at hl 0 rfl) ?_
      refine r_get (v := .ref (b + 198)) (N := 68) (T := T1) (j := 8) F hS (show 191 < 231 by decide) (show shK 191 = 5 from rfl) (show shN 191 = 68 from rfl) rfl (Nat.le_of_ble_eq_true rfl) ing1 mw_1397 (fv_sg rfl rfl rfl) d_MO_layPush_78 ?_
      refine lv_iload_n F.hx F.hb d_MO_layPush_81 rfl (lv_at hl 2 rfl) ?_
      obtain ⟨⟨g13a, g13b⟩, hT⟩ := q_guard hT
      have z14 := hS.bool (show shK 198 = 1 from rfl) v2_
      refine r_zald F hS (show 198 < 231 by decide) (show shK 198 = 1 from rfl) (show shN 198 = 96 from rfl) hv2_ g13a g13b d_MO_layPush_82 ?_
      refine r_if_ne (tgt := 218) F.hx F.hb (inr_z z14) d_MO_layPush_83 (by decide) (fun c15 => ?_) (fun c15 => ?_)
      · replace hT := (if_neg c15).symm.trans hT
        exact k_MO_layPush_L218 l hlo x1 hx1 F hlk hr bk52 hbk52 bk60 hbk60 M v1_ hv1_ v2_ hv2_ _ _ _ hS (lv_sub hl [0, 1, 2] rfl) hT
      · replace hT := (if_pos c15).symm.trans hT
        refine lv_aload_n F.hx F.hb d_MO_layPush_86 rfl (lv_at hl 0 rfl) ?_
        refine lv_iload_n F.hx F.hb d_MO_layPush_87 rfl (lv_at hl 2 rfl) ?_
        refine lv_iload F.hx F.hb d_MO_layPush_88 (lv_at hl 3 rfl) ?_
        obtain ⟨q16, hq16, hT⟩ := q_obind hT
        refine r_backI F hS (r_runV (k := 191) (N := 68) (T := T1) (As := [vI v2_, vI v3_]) F hS (show 191 < 231 by decide) (show shK 191 = 5 from rfl) rfl (c_MO_beside l F.2.2.1 M v2_ v3_ hv2_ hv3_ _ hq16) gs_MO_338 hd_MO_beside ⟨Nat.le_of_ble_eq_true rfl, Nat.le_of_ble_eq_true rfl⟩ rfl hl.1 (Nat.le_of_ble_eq_true rfl) ⟨Nat.zero_le _, Nat.zero_le _⟩ rfl d_MO_layPush_90) (fun H locs hS h17 => ?_)
        refine lv_istore (lv' := [(5, vI q16), (0, .ref (b + 191)), (2, vI v1_), (3, vI v2_), (4, vI v3_)]) F.hx F.hb d_MO_layPush_93 hl (Nat.le_of_ble_eq_true rfl) rfl (fun ls hl => ?_)
        refine lv_iload F.hx F.hb d_MO_layPush_95 (lv_at hl 0 rfl) ?_
        refine r_iconst F.hx F.hb d_MO_layPush_97 ?_
        refine r_icmp_eq (tgt := 212) F.hx F.hb h17 (inr_c rfl) d_MO_layPush_98 (by decide) (fun c18 => ?_) (fun c18 => ?_)
        · replace hT := (if_pos c18).symm.trans hT
          exact k_MO_layPush_L212 l hlo x1 hx1 F hlk hr bk52 hbk52 bk60 hbk60 (fun a0_ a1_ a2_ a3_ => t_MO_layPush_L71 x1 bk52 bk60 fu a0_ a1_ a2_ a3_) ih M v1_ hv1_ v2_ hv2_ v3_ hv3_ _ _ _ hS (lv_sub hl [1, 2, 3, 4] rfl) hT
        · replace hT := (if_neg c18).symm.trans hT
          refine lv_aload_n F.hx F.hb d_MO_layPush_101 rfl (lv_at hl 1 rfl) ?_
          refine r_get (v := .ref (b + 198)) (N := 68) (T := T1) (j := 8) F hS (show 191 < 231 by decide) (show shK 191 = 5 from rfl) (show shN 191 = 68 from rfl) rfl (Nat.le_of_ble_eq_true rfl) ing1 mw_1397 (fv_sg rfl rfl rfl) d_MO_layPush_102 ?_
          refine lv_iload F.hx F.hb d_MO_layPush_105 (lv_at hl 0 rfl) ?_
          obtain ⟨⟨g19a, g19b⟩, hT⟩ := q_guard hT
          have z20 := hS.bool (show shK 198 = 1 from rfl) q16
          refine r_zald F hS (show 198 < 231 by decide) (show shK 198 = 1 from rfl) (show shN 198 = 96 from rfl) h17 g19a g19b d_MO_layPush_107 ?_
          refine r_if_ne (tgt := 212) F.hx F.hb (inr_z z20) d_MO_layPush_108 (by decide) (fun c21 => ?_) (fun c21 => ?_)
          · replace hT := (if_neg c21).symm.trans hT
            exact k_MO_layPush_L212 l hlo x1 hx1 F hlk hr bk52 hbk52 bk60 hbk60 (fun a0_ a1_ a2_ a3_ => t_MO_layPush_L71 x1 bk52 bk60 fu a0_ a1_ a2_ a3_) ih M v1_ hv1_ v2_ hv2_ v3_ hv3_ _ _ _ hS (lv_sub hl [1, 2, 3, 4] rfl) hT
          · replace hT := (if_pos c21).symm.trans hT
            refine lv_aload_n F.hx F.hb d_MO_layPush_111 rfl (lv_at hl 1 rfl) ?_
            refine r_get (v := .ref (b + 223)) (N := 68) (T := T1) (j := 56) F hS (show 191 < 231 by decide) (show shK 191 = 5 from rfl) (show shN 191 = 68 from rfl) rfl (Nat.le_of_ble_eq_true rfl) ing1 mw_1445 (fv_sg rfl rfl rfl) d_MO_layPush_112 ?_
            refine lv_iload F.hx F.hb d_MO_layPush_115 (lv_at hl 0 rfl) ?_
            obtain ⟨⟨g22a, g22b⟩, hT⟩ := q_guard hT
            refine r_iald F hS (show 223 < 231 by decide) (show shK 223 = 0 from rfl) (show shN 223 = 48 from rfl) h17 g22a g22b d_MO_layPush_117 ?_
            have i23 := hS.rng 223 q16
            refine lv_ldcw (v := Int32.ofInt 1000000) F.hx F.hb F.hown (F.hts mw_1943) d_MO_layPush_118 ?_
            refine r_icmp_lt (tgt := 127) F.hx F.hb i23 (inr_c rfl) d_MO_layPush_121 (by decide) (fun c24 => ?_) (fun c24 => ?_)
            · replace hT := (if_pos c24).symm.trans hT
              refine lv_aload_n F.hx F.hb d_MO_layPush_127 rfl (lv_at hl 1 rfl) ?_
              refine r_get (v := .ref (b + 223)) (N := 68) (T := T1) (j := 56) F hS (show 191 < 231 by decide) (show shK 191 = 5 from rfl) (show shN 191 = 68 from rfl) rfl (Nat.le_of_ble_eq_true rfl) ing1 mw_1445 (fv_sg rfl rfl rfl) d_MO_layPush_128 ?_
              refine lv_iload F.hx F.hb d_MO_layPush_131 (lv_at hl 0 rfl) ?_
              obtain ⟨⟨g25a, g25b⟩, hT⟩ := q_guard hT
              refine r_iald F hS (show 223 < 231 by decide) (show shK 223 = 0 from rfl) (show shN 223 = 48 from rfl) h17 g25a g25b d_MO_layPush_133 ?_
              have i26 := hS.rng 223 q16
              refine lv_aload_n F.hx F.hb d_MO_layPush_134 rfl (lv_at hl 1 rfl) ?_
              refine lv_iload_n F.hx F.hb d_MO_layPush_135 rfl (lv_at hl 3 rfl) ?_
              refine lv_iload F.hx F.hb d_MO_layPush_136 (lv_at hl 4 rfl) ?_
              obtain ⟨q27, hq27, hT⟩ := q_obind hT
              refine r_backI F hS (r_runV (k := 191) (N := 68) (T := T1) (As := [vI v2_, vI v3_]) F hS (show 191 < 231 by decide) (show shK 191 = 5 from rfl) rfl (c_MO_pushOf l F.2.2.1 M v2_ v3_ hv2_ hv3_ _ hq27) gs_MO_468 hd_MO_pushOf ⟨Nat.le_of_ble_eq_true rfl, Nat.le_of_ble_eq_true rfl⟩ rfl hl.1 (Nat.le_of_ble_eq_true rfl) ⟨Nat.zero_le _, Nat.zero_le _⟩ rfl d_MO_layPush_138) (fun H locs hS h28 => ?_)
              refine r_iadd F.hx F.hb d_MO_layPush_141 ?_
              refine lv_istore (lv' := [(6, vI (w32 ((M.1 223 q16) + (q27.2)))), (5, vI q16), (0, .ref (b + 191)), (2, vI v1_), (3, vI v2_), (4, vI v3_)]) F.hx F.hb d_MO_layPush_142 hl (Nat.le_of_ble_eq_true rfl) rfl (fun ls hl => ?_)
              refine lv_iload F.hx F.hb d_MO_layPush_144 (lv_at hl 0 rfl) ?_
              refine lv_aload_n F.hx F.hb d_MO_layPush_146 rfl (lv_at hl 2 rfl) ?_
              refine r_get (v := .ref (b + 223)) (N := 68) (T := T1) (j := 56) F hS (show 191 < 231 by decide) (show shK 191 = 5 from rfl) (show shN 191 = 68 from rfl) rfl (Nat.le_of_ble_eq_true rfl) ing1 mw_1445 (fv_sg rfl rfl rfl) d_MO_layPush_147 ?_
              refine lv_iload_n F.hx F.hb d_MO_layPush_150 rfl (lv_at hl 4 rfl) ?_
              obtain ⟨⟨g29a, g29b⟩, hT⟩ := q_guard hT
              refine r_iald F hS (show 223 < 231 by decide) (show shK 223 = 0 from rfl) (show shN 223 = 48 from rfl) hv2_ g29a g29b d_MO_layPush_151 ?_
              have i30 := hS.rng 223 v2_
              refine r_icmp_gt (tgt := 212) F.hx F.hb (inr_w32 _) i30 d_MO_layPush_152 (by decide) (fun c31 => ?_) (fun c31 => ?_)
              · replace hT := (if_pos c31).symm.trans hT
                exact k_MO_layPush_L212 l hlo x1 hx1 F hlk hr bk52 hbk52 bk60 hbk60 (fun a0_ a1_ a2_ a3_ => t_MO_layPush_L71 x1 bk52 bk60 fu a0_ a1_ a2_ a3_) ih (q27.1) v1_ hv1_ v2_ hv2_ v3_ hv3_ _ _ _ hS (lv_sub hl [2, 3, 4, 5] rfl) hT
              · replace hT := (if_neg c31).symm.trans hT
                refine lv_iload F.hx F.hb d_MO_layPush_155 (lv_at hl 0 rfl) ?_
                refine lv_aload_n F.hx F.hb d_MO_layPush_157 rfl (lv_at hl 2 rfl) ?_
                refine r_get (v := .ref (b + 223)) (N := 68) (T := T1) (j := 56) F hS (show 191 < 231 by decide) (show shK 191 = 5 from rfl) (show shN 191 = 68 from rfl) rfl (Nat.le_of_ble_eq_true rfl) ing1 mw_1445 (fv_sg rfl rfl rfl) d_MO_layPush_158 ?_
                refine lv_iload_n F.hx F.hb d_MO_layPush_161 rfl (lv_at hl 4 rfl) ?_
                obtain ⟨⟨g32a, g32b⟩, hT⟩ := q_guard hT
                refine r_iald F hS (show 223 < 231 by decide) (show shK 223 = 0 from rfl) (show shN 223 = 48 from rfl) hv2_ g32a g32b d_MO_layPush_162 ?_
                have i33 := hS.rng 223 v2_
                refine r_icmp_ne (tgt := 187) F.hx F.hb (inr_w32 _) i33 d_MO_layPush_163 (by decide) (fun c34 => ?_) (fun c34 => ?_)
                · replace hT := (if_neg c34).symm.trans hT
                  exact k_MO_layPush_L187 l hlo x1 hx1 F hlk hr bk52 hbk52 bk60 hbk60 (fun a0_ a1_ a2_ a3_ => t_MO_layPush_L71 x1 bk52 bk60 fu a0_ a1_ a2_ a3_) ih (q27.1) v2_ hv2_ v3_ hv3_ q16 h17 (w32 ((M.1 223 q16) + (q27.2))) (inr_w32 _) _ _ _ hS (lv_sub hl [2, 4, 5, 1, 0] rfl) hT
                · replace hT := (if_pos c34).symm.trans hT
                  refine lv_aload_n F.hx F.hb d_MO_layPush_166 rfl (lv_at hl 2 rfl) ?_
                  refine r_get (v := .ref (b + 222)) (N := 68) (T := T1) (j := 55) F hS (show 191 < 231 by decide) (show shK 191 = 5 from rfl) (show shN 191 = 68 from rfl) rfl (Nat.le_of_ble_eq_true rfl) ing1 mw_1444 (fv_sg rfl rfl rfl) d_MO_layPush_167 ?_
                  refine lv_iload F.hx F.hb d_MO_layPush_170 (lv_at hl 1 rfl) ?_
                  obtain ⟨⟨g35a, g35b⟩, hT⟩ := q_guard hT
                  refine r_iald F hS (show 222 < 231 by decide) (show shK 222 = 0 from rfl) (show shN 222 = 48 from rfl) h17 g35a g35b d_MO_layPush_172 ?_
                  have i36 := hS.rng 222 q16
                  refine r_iconst F.hx F.hb d_MO_layPush_173 ?_
                  refine r_iadd F.hx F.hb d_MO_layPush_174 ?_
                  refine lv_aload_n F.hx F.hb d_MO_layPush_175 rfl (lv_at hl 2 rfl) ?_
                  refine r_get (v := .ref (b + 222)) (N := 68) (T := T1) (j := 55) F hS (show 191 < 231 by decide) (show shK 191 = 5 from rfl) (show shN 191 = 68 from rfl) rfl (Nat.le_of_ble_eq_true rfl) ing1 mw_1444 (fv_sg rfl rfl rfl) d_MO_layPush_176 ?_
                  refine lv_iload_n F.hx F.hb d_MO_layPush_179 rfl (lv_at hl 4 rfl) ?_
                  obtain ⟨⟨g37a, g37b⟩, hT⟩ := q_guard hT
                  refine r_iald F hS (show 222 < 231 by decide) (show shK 222 = 0 from rfl) (show shN 222 = 48 from rfl) hv2_ g37a g37b d_MO_layPush_180 ?_
                  have i38 := hS.rng 222 v2_
                  refine r_icmp_lt (tgt := 187) F.hx F.hb (inr_w32 _) i38 d_MO_layPush_181 (by decide) (fun c39 => ?_) (fun c39 => ?_)
                  · replace hT := (if_pos c39).symm.trans hT
                    exact k_MO_layPush_L187 l hlo x1 hx1 F hlk hr bk52 hbk52 bk60 hbk60 (fun a0_ a1_ a2_ a3_ => t_MO_layPush_L71 x1 bk52 bk60 fu a0_ a1_ a2_ a3_) ih (q27.1) v2_ hv2_ v3_ hv3_ q16 h17 (w32 ((M.1 223 q16) + (q27.2))) (inr_w32 _) _ _ _ hS (lv_sub hl [2, 4, 5, 1, 0] rfl) hT
                  · replace hT := (if_neg c39).symm.trans hT
                    refine lv_goto (tgt := 212) F.hx F.hb d_MO_layPush_184 (by decide) ?_
                    exact k_MO_layPush_L212 l hlo x1 hx1 F hlk hr bk52 hbk52 bk60 hbk60 (fun a0_ a1_ a2_ a3_ => t_MO_layPush_L71 x1 bk52 bk60 fu a0_ a1_ a2_ a3_) ih (q27.1) v1_ hv1_ v2_ hv2_ v3_ hv3_ _ _ _ hS (lv_sub hl [2, 3, 4, 5] rfl) hT
            · replace hT := (if_neg c24).symm.trans hT
              refine lv_goto (tgt := 212) F.hx F.hb d_MO_layPush_124 (by decide) ?_
              exact k_MO_layPush_L212 l hlo x1 hx1 F hlk hr bk52 hbk52 bk60 hbk60 (fun a0_ a1_ a2_ a3_ => t_MO_layPush_L71 x1 bk52 bk60 fu a0_ a1_ a2_ a3_) ih M v1_ hv1_ v2_ hv2_ v3_ hv3_ _ _ _ hS (lv_sub hl [1, 2, 3, 4] rfl) hT
set_option maxHeartbeats 4000000 in
set_option maxRecDepth 100000 in
theorem k_MO_layPush_L60 (l : Launch) {p : Program} {e : Env} {s : State} {m : MethodId} {below : List Frame} {meth : Method} {c : Code} {b n : Nat} {C : CT} (hlo : 231 ≤ n) (x1 : Int) (hx1 : InR x1) (F : Cx b p m c b_MO_layPush 7 s ([.ref (b + 191), vI x1] : List Value).toArray "WardFallsModel" C n 231) (hlk : meth.locks = false) (hr : meth.sig.returnType = none) {res : Mem} (bk52 : Mem → Int → Option (Mem)) (hbk52 : ∀ (M : Mem) (v1_ : Int) (hv1_ : v1_ = 0 ∨ v1_ = 1) (H : Heap) (locs : List Loc) (ls : Array Slot), St b C n M s H locs → lv_has ls 7 [(0, .ref (b + 191)), (2, vI v1_)] → bk52 M v1_ = some res → W p l e (headSpec (wsM y_MO_layPush b_MO_layPush 7 (none)) (rmD 5)).room s m ([.ref (b + 191), vI x1] : List Value).toArray below meth c H locs 0 0 (MQ below (QV b C n res) ([.ref (b + 191), vI x1] : List Value).toArray s 0 0 (frb b)) (F0 m 52 ls [])) : ∀ (fu : Nat) (M : Mem) (v1_ : Int) (hv1_ : v1_ = 0 ∨ v1_ = 1) (v2_ : Int) (hv2_ : InR v2_) (H : Heap) (locs : List Loc) (ls : Array Slot), St b C n M s H locs → lv_has ls 7 [(0, .ref (b + 191)), (2, vI v1_), (3, vI v2_)] → t_MO_layPush_L60 x1 bk52 fu M v1_ v2_ = some res → W p l e (headSpec (wsM y_MO_layPush b_MO_layPush 7 (none)) (rmD 5)).room s m ([.ref (b + 191), vI x1] : List Value).toArray below meth c H locs 0 0 (MQ below (QV b C n res) ([.ref (b + 191), vI x1] : List Value).toArray s 0 0 (frb b)) (F0 m 60 ls []) := by
  intro fu
  induction fu with
  | zero => intro M v1_ hv1_ v2_ hv2_ H locs ls hS hl hT; exact absurd hT (by simp [t_MO_layPush_L60])
  | succ fu ih =>
    intro M v1_ hv1_ v2_ hv2_ H locs ls hS hl hT
    rw [t_MO_layPush_L60] at hT
    refine lv_iload_n F.hx F.hb d_MO_layPush_60 rfl (lv_at hl 2 rfl) ?_
    refine lv_aload_n F.hx F.hb d_MO_layPush_61 rfl (lv_at hl 0 rfl) ?_
    obtain ⟨q7, hq7⟩ : ∃ q, q = (t_MO_cells M) := ⟨_, rfl⟩
    replace hT := qlet_eq hT hq7
    refine r_backI F hS (r_runV (k := 191) (N := 68) (T := T1) (As := []) F hS (show 191 < 231 by decide) (show shK 191 = 5 from rfl) rfl (c_MO_cells l F.2.2.1 M _ hq7.symm) gs_MO_329 hd_MO_cells ⟨Nat.le_of_ble_eq_true rfl, Nat.le_of_ble_eq_true rfl⟩ rfl hl.1 (Nat.le_of_ble_eq_true rfl) ⟨Nat.zero_le _, Nat.zero_le _⟩ rfl d_MO_layPush_62) (fun H locs hS h8 => ?_)
    refine r_icmp_ge (tgt := 224) F.hx F.hb hv2_ h8 d_MO_layPush_65 (by decide) (fun c9 => ?_) (fun c9 => ?_)
    · replace hT := (if_pos c9).symm.trans hT
      refine lv_goto (tgt := 52) F.hx F.hb d_MO_layPush_224 (by decide) ?_
      exact hbk52 M v1_ hv1_ _ _ _ hS (lv_sub hl [0, 1] rfl) hT
    · replace hT := (if_neg c9).symm.trans hT
      refine r_iconst F.hx F.hb d_MO_layPush_68 ?_
      refine lv_istore (lv' := [(4, vI 0), (0, .ref (b + 191)), (2, vI v1_), (3, vI v2_)]) F.hx F.hb d_MO_layPush_69 hl (Nat.le_of_ble_eq_true rfl) rfl (fun ls hl => ?_)
      exact k_MO_layPush_L71 l hlo x1 hx1 F hlk hr bk52 hbk52 (fun a0_ a1_ a2_ => t_MO_layPush_L60 x1 bk52 fu a0_ a1_ a2_) ih FU M v1_ hv1_ v2_ hv2_ 0 (inr_c rfl) _ _ _ hS (lv_sub hl [1, 2, 3, 0] rfl) hT
set_option maxHeartbeats 4000000 in
set_option maxRecDepth 100000 in
theorem k_MO_layPush_L52 (l : Launch) {p : Program} {e : Env} {s : State} {m : MethodId} {below : List Frame} {meth : Method} {c : Code} {b n : Nat} {C : CT} (hlo : 231 ≤ n) (x1 : Int) (hx1 : InR x1) (F : Cx b p m c b_MO_layPush 7 s ([.ref (b + 191), vI x1] : List Value).toArray "WardFallsModel" C n 231) (hlk : meth.locks = false) (hr : meth.sig.returnType = none) {res : Mem} : ∀ (fu : Nat) (M : Mem) (v1_ : Int) (hv1_ : v1_ = 0 ∨ v1_ = 1) (H : Heap) (locs : List Loc) (ls : Array Slot), St b C n M s H locs → lv_has ls 7 [(0, .ref (b + 191)), (2, vI v1_)] → t_MO_layPush_L52 x1 fu M v1_ = some res → W p l e (headSpec (wsM y_MO_layPush b_MO_layPush 7 (none)) (rmD 5)).room s m ([.ref (b + 191), vI x1] : List Value).toArray below meth c H locs 0 0 (MQ below (QV b C n res) ([.ref (b + 191), vI x1] : List Value).toArray s 0 0 (frb b)) (F0 m 52 ls []) := by
  intro fu
  induction fu with
  | zero => intro M v1_ hv1_ H locs ls hS hl hT; exact absurd hT (by simp [t_MO_layPush_L52])
  | succ fu ih =>
    intro M v1_ hv1_ H locs ls hS hl hT
    rw [t_MO_layPush_L52] at hT
    refine lv_iload_n F.hx F.hb d_MO_layPush_52 rfl (lv_at hl 1 rfl) ?_
    refine r_if_eq (tgt := 227) F.hx F.hb (inr_z hv1_) d_MO_layPush_53 (by decide) (fun c3 => ?_) (fun c3 => ?_)
    · replace hT := (if_pos c3).symm.trans hT
      cases hT
      exact r_vret F hlk hr hS d_MO_layPush_227
    · replace hT := (if_neg c3).symm.trans hT
      refine r_iconst F.hx F.hb d_MO_layPush_56 ?_
      refine lv_istore_n (lv' := [(2, vI 0), (0, .ref (b + 191))]) F.hx F.hb d_MO_layPush_57 rfl hl (Nat.le_of_ble_eq_true rfl) rfl (fun ls hl => ?_)
      refine r_iconst F.hx F.hb d_MO_layPush_58 ?_
      refine lv_istore_n (lv' := [(3, vI 0), (2, vI 0), (0, .ref (b + 191))]) F.hx F.hb d_MO_layPush_59 rfl hl (Nat.le_of_ble_eq_true rfl) rfl (fun ls hl => ?_)
      exact k_MO_layPush_L60 l hlo x1 hx1 F hlk hr (fun a0_ a1_ => t_MO_layPush_L52 x1 fu a0_ a1_) ih FU M 0 (Or.inl rfl) 0 (inr_c rfl) _ _ _ hS (lv_sub hl [2, 1, 0] rfl) hT
set_option maxHeartbeats 4000000 in
set_option maxRecDepth 100000 in
theorem k_MO_layPush_L2 (l : Launch) {p : Program} {e : Env} {s : State} {m : MethodId} {below : List Frame} {meth : Method} {c : Code} {b n : Nat} {C : CT} (hlo : 231 ≤ n) (x1 : Int) (hx1 : InR x1) (F : Cx b p m c b_MO_layPush 7 s ([.ref (b + 191), vI x1] : List Value).toArray "WardFallsModel" C n 231) (hlk : meth.locks = false) (hr : meth.sig.returnType = none) {res : Mem} : ∀ (fu : Nat) (M : Mem) (v2_ : Int) (hv2_ : InR v2_) (H : Heap) (locs : List Loc) (ls : Array Slot), St b C n M s H locs → lv_has ls 7 [(0, .ref (b + 191)), (1, vI x1), (2, vI v2_)] → t_MO_layPush_L2 x1 fu M v2_ = some res → W p l e (headSpec (wsM y_MO_layPush b_MO_layPush 7 (none)) (rmD 5)).room s m ([.ref (b + 191), vI x1] : List Value).toArray below meth c H locs 0 0 (MQ below (QV b C n res) ([.ref (b + 191), vI x1] : List Value).toArray s 0 0 (frb b)) (F0 m 2 ls []) := by
  intro fu
  induction fu with
  | zero => intro M v2_ hv2_ H locs ls hS hl hT; exact absurd hT (by simp [t_MO_layPush_L2])
  | succ fu ih =>
    intro M v2_ hv2_ H locs ls hS hl hT
    rw [t_MO_layPush_L2] at hT
    refine lv_iload_n F.hx F.hb d_MO_layPush_2 rfl (lv_at hl 2 rfl) ?_
    refine r_bipush F.hx F.hb d_MO_layPush_3 rfl ?_
    refine r_icmp_ge (tgt := 50) F.hx F.hb hv2_ (inr_c rfl) d_MO_layPush_5 (by decide) (fun c1 => ?_) (fun c1 => ?_)
    · replace hT := (if_pos c1).symm.trans hT
      refine r_iconst F.hx F.hb d_MO_layPush_50 ?_
      refine lv_istore_n (lv' := [(2, vI 1), (0, .ref (b + 191)), (1, vI x1)]) F.hx F.hb d_MO_layPush_51 rfl hl (Nat.le_of_ble_eq_true rfl) rfl (fun ls hl => ?_)
      exact k_MO_layPush_L52 l hlo x1 hx1 F hlk hr FU M 1 (Or.inr rfl) _ _ _ hS (lv_sub hl [1, 0] rfl) hT
    · replace hT := (if_neg c1).symm.trans hT
      refine lv_aload_n F.hx F.hb d_MO_layPush_8 rfl (lv_at hl 0 rfl) ?_
      refine r_get (v := .ref (b + 223)) (N := 68) (T := T1) (j := 56) F hS (show 191 < 231 by decide) (show shK 191 = 5 from rfl) (show shN 191 = 68 from rfl) rfl (Nat.le_of_ble_eq_true rfl) ing1 mw_1445 (fv_sg rfl rfl rfl) d_MO_layPush_9 ?_
      refine lv_iload_n F.hx F.hb d_MO_layPush_12 rfl (lv_at hl 2 rfl) ?_
      refine lv_iload_n F.hx F.hb d_MO_layPush_13 rfl (lv_at hl 2 rfl) ?_
      refine lv_iload_n F.hx F.hb d_MO_layPush_14 rfl (lv_at hl 1 rfl) ?_
      refine r_icmp_ne (tgt := 22) F.hx F.hb hv2_ hx1 d_MO_layPush_15 (by decide) (fun c2 => ?_) (fun c2 => ?_)
      · replace hT := (if_neg c2).symm.trans hT
        refine lv_ldcw (v := Int32.ofInt 1000000) F.hx F.hb F.hown (F.hts mw_1943) d_MO_layPush_22 ?_
        exact k_MO_layPush_L25 l hlo x1 hx1 F hlk hr (fun a0_ a1_ => t_MO_layPush_L2 x1 fu a0_ a1_) ih M v2_ hv2_ v2_ hv2_ 1000000 (inr_c rfl) _ _ _ hS (lv_sub hl [0, 1, 2] rfl) hT
      · replace hT := (if_pos c2).symm.trans hT
        refine r_iconst F.hx F.hb d_MO_layPush_18 ?_
        refine lv_goto (tgt := 25) F.hx F.hb d_MO_layPush_19 (by decide) ?_
        exact k_MO_layPush_L25 l hlo x1 hx1 F hlk hr (fun a0_ a1_ => t_MO_layPush_L2 x1 fu a0_ a1_) ih M v2_ hv2_ v2_ hv2_ 0 (inr_c rfl) _ _ _ hS (lv_sub hl [0, 1, 2] rfl) hT
set_option maxHeartbeats 4000000 in
set_option maxRecDepth 100000 in
theorem c_MO_layPush (l : Launch) {b n : Nat} {C : CT} (hlo : 231 ≤ n) (M : Mem) (x1 : Int) (hx1 : InR x1) (res : Mem) (hT : t_MO_layPush M x1 = some res) : CM l b C n 5 y_MO_layPush b_MO_layPush 7 (none) [.ref (b + 191), vI x1] M (QV b C n res) := by
  refine CM.of (lo := 231) (ow := "WardFallsModel") (by decide) rfl (Nat.le_of_ble_eq_true rfl) hlo (fun p e s m below meth c F hlk hr hS ls hl => ?_)
  have hl : lv_has ls 7 [(0, .ref (b + 191)), (1, vI x1)] := hl
  unfold t_MO_layPush at hT
  refine r_iconst F.hx F.hb d_MO_layPush_0 ?_
  refine lv_istore_n (lv' := [(2, vI 0), (0, .ref (b + 191)), (1, vI x1)]) F.hx F.hb d_MO_layPush_1 rfl hl (Nat.le_of_ble_eq_true rfl) rfl (fun ls hl => ?_)
  exact k_MO_layPush_L2 l hlo x1 hx1 F hlk hr FU M 0 (inr_c rfl) _ _ _ hS (lv_sub hl [1, 2, 0] rfl) hT
theorem d_MO_push_0 : decode b_MO_push 0 = .ok (.aload_n 0, 1) := dc_42 (by decide +kernel)
theorem d_MO_push_1 : decode b_MO_push 1 = .ok (.iconst 0, 1) := dc_3 (by decide +kernel)
theorem d_MO_push_2 : decode b_MO_push 2 = .ok (.putfield 145, 3) := dc_181 (by decide +kernel)
theorem d_MO_push_5 : decode b_MO_push 5 = .ok (.aload_n 0, 1) := dc_42 (by decide +kernel)
theorem d_MO_push_6 : decode b_MO_push 6 = .ok (.iload_n 1, 1) := dc_27 (by decide +kernel)
theorem d_MO_push_7 : decode b_MO_push 7 = .ok (.invokevirtual 428, 3) := dc_182 (by decide +kernel)
theorem d_MO_push_10 : decode b_MO_push 10 = .ok (.ifCond .eq 20, 3) := dc_153 (by decide +kernel)
theorem d_MO_push_13 : decode b_MO_push 13 = .ok (.aload_n 0, 1) := dc_42 (by decide +kernel)
theorem d_MO_push_14 : decode b_MO_push 14 = .ok (.iload_n 2, 1) := dc_28 (by decide +kernel)
theorem d_MO_push_15 : decode b_MO_push 15 = .ok (.invokevirtual 428, 3) := dc_182 (by decide +kernel)
theorem d_MO_push_18 : decode b_MO_push 18 = .ok (.ifCond .eq 12, 3) := dc_153 (by decide +kernel)
theorem d_MO_push_21 : decode b_MO_push 21 = .ok (.iload_n 3, 1) := dc_29 (by decide +kernel)
theorem d_MO_push_22 : decode b_MO_push 22 = .ok (.ifCond .lt 8, 3) := dc_155 (by decide +kernel)
theorem d_MO_push_25 : decode b_MO_push 25 = .ok (.iload_n 3, 1) := dc_29 (by decide +kernel)
theorem d_MO_push_26 : decode b_MO_push 26 = .ok (.iconst 1, 1) := dc_4 (by decide +kernel)
theorem d_MO_push_27 : decode b_MO_push 27 = .ok (.if_icmp .le 5, 3) := dc_164 (by decide +kernel)
theorem d_MO_push_30 : decode b_MO_push 30 = .ok (.iconst (-1), 1) := dc_2 (by decide +kernel)
theorem d_MO_push_31 : decode b_MO_push 31 = .ok (.ireturn, 1) := dc_172 (by decide +kernel)
theorem d_MO_push_32 : decode b_MO_push 32 = .ok (.aload_n 0, 1) := dc_42 (by decide +kernel)
theorem d_MO_push_33 : decode b_MO_push 33 = .ok (.iload_n 2, 1) := dc_28 (by decide +kernel)
theorem d_MO_push_34 : decode b_MO_push 34 = .ok (.invokevirtual 471, 3) := dc_182 (by decide +kernel)
theorem d_MO_push_37 : decode b_MO_push 37 = .ok (.aload_n 0, 1) := dc_42 (by decide +kernel)
theorem d_MO_push_38 : decode b_MO_push 38 = .ok (.getfield 115, 3) := dc_180 (by decide +kernel)
theorem d_MO_push_41 : decode b_MO_push 41 = .ok (.iload_n 1, 1) := dc_27 (by decide +kernel)
theorem d_MO_push_42 : decode b_MO_push 42 = .ok (.iaload, 1) := dc_46 (by decide +kernel)
theorem d_MO_push_43 : decode b_MO_push 43 = .ok (.ldc_w 458, 3) := dc_19 (by decide +kernel)
theorem d_MO_push_46 : decode b_MO_push 46 = .ok (.if_icmp .lt 8, 3) := dc_161 (by decide +kernel)
theorem d_MO_push_49 : decode b_MO_push 49 = .ok (.bipush (-2), 2) := dc_16 (by decide +kernel)
theorem d_MO_push_51 : decode b_MO_push 51 = .ok (.goto 22, 3) := dc_167 (by decide +kernel)
theorem d_MO_push_54 : decode b_MO_push 54 = .ok (.iload_n 3, 1) := dc_29 (by decide +kernel)
theorem d_MO_push_55 : decode b_MO_push 55 = .ok (.ifCond .ne 12, 3) := dc_154 (by decide +kernel)
theorem d_MO_push_58 : decode b_MO_push 58 = .ok (.aload_n 0, 1) := dc_42 (by decide +kernel)
theorem d_MO_push_59 : decode b_MO_push 59 = .ok (.getfield 115, 3) := dc_180 (by decide +kernel)
theorem d_MO_push_62 : decode b_MO_push 62 = .ok (.iload_n 1, 1) := dc_27 (by decide +kernel)
theorem d_MO_push_63 : decode b_MO_push 63 = .ok (.iaload, 1) := dc_46 (by decide +kernel)
theorem d_MO_push_64 : decode b_MO_push 64 = .ok (.goto 9, 3) := dc_167 (by decide +kernel)
theorem d_MO_push_67 : decode b_MO_push 67 = .ok (.aload_n 0, 1) := dc_42 (by decide +kernel)
theorem d_MO_push_68 : decode b_MO_push 68 = .ok (.getfield 112, 3) := dc_180 (by decide +kernel)
theorem d_MO_push_71 : decode b_MO_push 71 = .ok (.iload_n 1, 1) := dc_27 (by decide +kernel)
theorem d_MO_push_72 : decode b_MO_push 72 = .ok (.iaload, 1) := dc_46 (by decide +kernel)
theorem d_MO_push_73 : decode b_MO_push 73 = .ok (.ireturn, 1) := dc_172 (by decide +kernel)
def t_MO_push (M : Mem) (x1 : Int) (x2 : Int) (x3 : Int) : Option (Mem × Int) := (qlet (setI M 191 0 0) fun M1 => (obind (t_MO_isOpen M1 x1) fun q2 => (if q2 = 0 then (some (M1, (-1))) else (obind (t_MO_isOpen M1 x2) fun q5 => (if q5 = 0 then (some (M1, (-1))) else (if x3 < 0 then (some (M1, (-1))) else (if x3 ≤ 1 then (obind (t_MO_layPush M1 x2) fun q10 => (qguard (0 ≤ x1 ∧ x1 < 48) (if (q10.1 223 x1) < 1000000 then (if x3 = 0 then (qguard (0 ≤ x1 ∧ x1 < 48) (some (q10, (q10.1 223 x1)))) else (qguard (0 ≤ x1 ∧ x1 < 48) (some (q10, (q10.1 222 x1))))) else (some (q10, (-2)))))) else (some (M1, (-1))))))))))
set_option maxHeartbeats 4000000 in
set_option maxRecDepth 100000 in
theorem c_MO_push (l : Launch) {b n : Nat} {C : CT} (hlo : 231 ≤ n) (M : Mem) (x1 : Int) (x2 : Int) (x3 : Int) (hx1 : InR x1) (hx2 : InR x2) (hx3 : InR x3) (res : Mem × Int) (hT : t_MO_push M x1 x2 x3 = some res) : CM l b C n 6 y_MO_push b_MO_push 4 (some .int) [.ref (b + 191), vI x1, vI x2, vI x3] M (QI b C n res.1 res.2) := by
  refine CM.of (lo := 231) (ow := "WardFallsModel") (by decide) rfl (Nat.le_of_ble_eq_true rfl) hlo (fun p e s m below meth c F hlk hr hS ls hl => ?_)
  have hl : lv_has ls 4 [(0, .ref (b + 191)), (1, vI x1), (2, vI x2), (3, vI x3)] := hl
  unfold t_MO_push at hT
  refine lv_aload_n F.hx F.hb d_MO_push_0 rfl (lv_at hl 0 rfl) ?_
  refine r_iconst F.hx F.hb d_MO_push_1 ?_
  refine r_putI (N := 68) (T := T1) (j := 0) F hS (show 191 < 231 by decide) (show shK 191 = 5 from rfl) (show shN 191 = 68 from rfl) rfl (Nat.le_of_ble_eq_true rfl) ing1 tyok1 nm1 rfl rfl rfl rfl rfl rfl mw_1389 (inr_c rfl) d_MO_push_2 (fun H locs hS => ?_)
  obtain ⟨M1, eM1⟩ : ∃ q, q = (setI M 191 0 0) := ⟨_, rfl⟩
  replace hS : St b C n M1 s H locs := by rw [eM1]; exact hS
  replace hT := qlet_eq hT eM1
  refine lv_aload_n F.hx F.hb d_MO_push_5 rfl (lv_at hl 0 rfl) ?_
  refine lv_iload_n F.hx F.hb d_MO_push_6 rfl (lv_at hl 1 rfl) ?_
  obtain ⟨q2, hq2, hT⟩ := q_obind hT
  refine r_backZ F hS (r_runV (k := 191) (N := 68) (T := T1) (As := [vI x1]) F hS (show 191 < 231 by decide) (show shK 191 = 5 from rfl) rfl (c_MO_isOpen l F.2.2.1 M1 x1 hx1 _ hq2) gs_MO_428 hd_MO_isOpen ⟨Nat.le_of_ble_eq_true rfl, Nat.le_of_ble_eq_true rfl⟩ rfl hl.1 (Nat.le_of_ble_eq_true rfl) ⟨Nat.zero_le _, Nat.zero_le _⟩ rfl d_MO_push_7) (fun H locs hS h3 => ?_)
  refine r_if_eq (tgt := 30) F.hx F.hb (inr_z h3) d_MO_push_10 (by decide) (fun c4 => ?_) (fun c4 => ?_)
  · replace hT := (if_pos c4).symm.trans hT
    refine r_iconst F.hx F.hb d_MO_push_30 ?_
    cases hT
    exact r_iret F hlk hr rfl hS (inr_c rfl) d_MO_push_31
  · replace hT := (if_neg c4).symm.trans hT
    refine lv_aload_n F.hx F.hb d_MO_push_13 rfl (lv_at hl 0 rfl) ?_
    refine lv_iload_n F.hx F.hb d_MO_push_14 rfl (lv_at hl 2 rfl) ?_
    obtain ⟨q5, hq5, hT⟩ := q_obind hT
    refine r_backZ F hS (r_runV (k := 191) (N := 68) (T := T1) (As := [vI x2]) F hS (show 191 < 231 by decide) (show shK 191 = 5 from rfl) rfl (c_MO_isOpen l F.2.2.1 M1 x2 hx2 _ hq5) gs_MO_428 hd_MO_isOpen ⟨Nat.le_of_ble_eq_true rfl, Nat.le_of_ble_eq_true rfl⟩ rfl hl.1 (Nat.le_of_ble_eq_true rfl) ⟨Nat.zero_le _, Nat.zero_le _⟩ rfl d_MO_push_15) (fun H locs hS h6 => ?_)
    refine r_if_eq (tgt := 30) F.hx F.hb (inr_z h6) d_MO_push_18 (by decide) (fun c7 => ?_) (fun c7 => ?_)
    · replace hT := (if_pos c7).symm.trans hT
      refine r_iconst F.hx F.hb d_MO_push_30 ?_
      cases hT
      exact r_iret F hlk hr rfl hS (inr_c rfl) d_MO_push_31
    · replace hT := (if_neg c7).symm.trans hT
      refine lv_iload_n F.hx F.hb d_MO_push_21 rfl (lv_at hl 3 rfl) ?_
      refine r_if_lt (tgt := 30) F.hx F.hb hx3 d_MO_push_22 (by decide) (fun c8 => ?_) (fun c8 => ?_)
      · replace hT := (if_pos c8).symm.trans hT
        refine r_iconst F.hx F.hb d_MO_push_30 ?_
        cases hT
        exact r_iret F hlk hr rfl hS (inr_c rfl) d_MO_push_31
      · replace hT := (if_neg c8).symm.trans hT
        refine lv_iload_n F.hx F.hb d_MO_push_25 rfl (lv_at hl 3 rfl) ?_
        refine r_iconst F.hx F.hb d_MO_push_26 ?_
        refine r_icmp_le (tgt := 32) F.hx F.hb hx3 (inr_c rfl) d_MO_push_27 (by decide) (fun c9 => ?_) (fun c9 => ?_)
        · replace hT := (if_pos c9).symm.trans hT
          refine lv_aload_n F.hx F.hb d_MO_push_32 rfl (lv_at hl 0 rfl) ?_
          refine lv_iload_n F.hx F.hb d_MO_push_33 rfl (lv_at hl 2 rfl) ?_
          obtain ⟨q10, hq10, hT⟩ := q_obind hT
          refine r_backV F hS (r_runV (k := 191) (N := 68) (T := T1) (As := [vI x2]) F hS (show 191 < 231 by decide) (show shK 191 = 5 from rfl) rfl (c_MO_layPush l F.2.2.1 M1 x2 hx2 _ hq10) gs_MO_471 hd_MO_layPush ⟨Nat.le_of_ble_eq_true rfl, Nat.le_of_ble_eq_true rfl⟩ rfl hl.1 (Nat.le_of_ble_eq_true rfl) ⟨Nat.zero_le _, Nat.zero_le _⟩ rfl d_MO_push_34) (fun H locs hS => ?_)
          refine lv_aload_n F.hx F.hb d_MO_push_37 rfl (lv_at hl 0 rfl) ?_
          refine r_get (v := .ref (b + 223)) (N := 68) (T := T1) (j := 56) F hS (show 191 < 231 by decide) (show shK 191 = 5 from rfl) (show shN 191 = 68 from rfl) rfl (Nat.le_of_ble_eq_true rfl) ing1 mw_1445 (fv_sg rfl rfl rfl) d_MO_push_38 ?_
          refine lv_iload_n F.hx F.hb d_MO_push_41 rfl (lv_at hl 1 rfl) ?_
          obtain ⟨⟨g12a, g12b⟩, hT⟩ := q_guard hT
          refine r_iald F hS (show 223 < 231 by decide) (show shK 223 = 0 from rfl) (show shN 223 = 48 from rfl) hx1 g12a g12b d_MO_push_42 ?_
          have i13 := hS.rng 223 x1
          refine lv_ldcw (v := Int32.ofInt 1000000) F.hx F.hb F.hown (F.hts mw_1943) d_MO_push_43 ?_
          refine r_icmp_lt (tgt := 54) F.hx F.hb i13 (inr_c rfl) d_MO_push_46 (by decide) (fun c14 => ?_) (fun c14 => ?_)
          · replace hT := (if_pos c14).symm.trans hT
            refine lv_iload_n F.hx F.hb d_MO_push_54 rfl (lv_at hl 3 rfl) ?_
            refine r_if_ne (tgt := 67) F.hx F.hb hx3 d_MO_push_55 (by decide) (fun c15 => ?_) (fun c15 => ?_)
            · replace hT := (if_neg c15).symm.trans hT
              refine lv_aload_n F.hx F.hb d_MO_push_67 rfl (lv_at hl 0 rfl) ?_
              refine r_get (v := .ref (b + 222)) (N := 68) (T := T1) (j := 55) F hS (show 191 < 231 by decide) (show shK 191 = 5 from rfl) (show shN 191 = 68 from rfl) rfl (Nat.le_of_ble_eq_true rfl) ing1 mw_1444 (fv_sg rfl rfl rfl) d_MO_push_68 ?_
              refine lv_iload_n F.hx F.hb d_MO_push_71 rfl (lv_at hl 1 rfl) ?_
              obtain ⟨⟨g16a, g16b⟩, hT⟩ := q_guard hT
              refine r_iald F hS (show 222 < 231 by decide) (show shK 222 = 0 from rfl) (show shN 222 = 48 from rfl) hx1 g16a g16b d_MO_push_72 ?_
              have i17 := hS.rng 222 x1
              cases hT
              exact r_iret F hlk hr rfl hS i17 d_MO_push_73
            · replace hT := (if_pos c15).symm.trans hT
              refine lv_aload_n F.hx F.hb d_MO_push_58 rfl (lv_at hl 0 rfl) ?_
              refine r_get (v := .ref (b + 223)) (N := 68) (T := T1) (j := 56) F hS (show 191 < 231 by decide) (show shK 191 = 5 from rfl) (show shN 191 = 68 from rfl) rfl (Nat.le_of_ble_eq_true rfl) ing1 mw_1445 (fv_sg rfl rfl rfl) d_MO_push_59 ?_
              refine lv_iload_n F.hx F.hb d_MO_push_62 rfl (lv_at hl 1 rfl) ?_
              obtain ⟨⟨g18a, g18b⟩, hT⟩ := q_guard hT
              refine r_iald F hS (show 223 < 231 by decide) (show shK 223 = 0 from rfl) (show shN 223 = 48 from rfl) hx1 g18a g18b d_MO_push_63 ?_
              have i19 := hS.rng 223 x1
              refine lv_goto (tgt := 73) F.hx F.hb d_MO_push_64 (by decide) ?_
              cases hT
              exact r_iret F hlk hr rfl hS i19 d_MO_push_73
          · replace hT := (if_neg c14).symm.trans hT
            refine r_bipush F.hx F.hb d_MO_push_49 rfl ?_
            refine lv_goto (tgt := 73) F.hx F.hb d_MO_push_51 (by decide) ?_
            cases hT
            exact r_iret F hlk hr rfl hS (inr_c rfl) d_MO_push_73
        · replace hT := (if_neg c9).symm.trans hT
          refine r_iconst F.hx F.hb d_MO_push_30 ?_
          cases hT
          exact r_iret F hlk hr rfl hS (inr_c rfl) d_MO_push_31
