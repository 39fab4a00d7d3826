theorem wn_Reader_read_0 : ∀ i, i < 31 → bA b_Reader_read (0 + i) = wB [42, 43, 182, 0, 9, 3, 62, 3, 54, 4, 21, 4, 17, 2, 188, 162, 0, 177, 42, 180, 0, 15, 16, 32, 159, 0, 168, 42, 180, 0, 15] i := wB_of (by decide +kernel)
theorem d_Reader_read_0 : decode b_Reader_read 0 = .ok (.aload_n 0, 1) := dc_42 (q0_win (r := 0) wn_Reader_read_0 (by decide +kernel))
theorem d_Reader_read_1 : decode b_Reader_read 1 = .ok (.aload_n 1, 1) := dc_43 (q0_win (r := 1) wn_Reader_read_0 (by decide +kernel))
theorem d_Reader_read_2 : decode b_Reader_read 2 = .ok (.invokevirtual 9, 3) := dc_182 (qU2_win (r := 2) wn_Reader_read_0 (by decide +kernel))
theorem d_Reader_read_5 : decode b_Reader_read 5 = .ok (.iconst 0, 1) := dc_3 (q0_win (r := 5) wn_Reader_read_0 (by decide +kernel))
theorem d_Reader_read_6 : decode b_Reader_read 6 = .ok (.istore_n 3, 1) := dc_62 (q0_win (r := 6) wn_Reader_read_0 (by decide +kernel))
theorem d_Reader_read_7 : decode b_Reader_read 7 = .ok (.iconst 0, 1) := dc_3 (q0_win (r := 7) wn_Reader_read_0 (by decide +kernel))
theorem d_Reader_read_8 : decode b_Reader_read 8 = .ok (.istore 4, 2) := dc_54 (qU1_win (r := 8) wn_Reader_read_0 (by decide +kernel))
theorem d_Reader_read_10 : decode b_Reader_read 10 = .ok (.iload 4, 2) := dc_21 (qU1_win (r := 10) wn_Reader_read_0 (by decide +kernel))
theorem d_Reader_read_12 : decode b_Reader_read 12 = .ok (.sipush 700, 3) := dc_17 (qS2_win (r := 12) wn_Reader_read_0 (by decide +kernel))
theorem d_Reader_read_15 : decode b_Reader_read 15 = .ok (.if_icmp .ge 177, 3) := dc_162 (qS2_win (r := 15) wn_Reader_read_0 (by decide +kernel))
theorem d_Reader_read_18 : decode b_Reader_read 18 = .ok (.aload_n 0, 1) := dc_42 (q0_win (r := 18) wn_Reader_read_0 (by decide +kernel))
theorem d_Reader_read_19 : decode b_Reader_read 19 = .ok (.getfield 15, 3) := dc_180 (qU2_win (r := 19) wn_Reader_read_0 (by decide +kernel))
theorem d_Reader_read_22 : decode b_Reader_read 22 = .ok (.bipush 32, 2) := dc_16 (qS1_win (r := 22) wn_Reader_read_0 (by decide +kernel))
theorem d_Reader_read_24 : decode b_Reader_read 24 = .ok (.if_icmp .eq 168, 3) := dc_159 (qS2_win (r := 24) wn_Reader_read_0 (by decide +kernel))
theorem d_Reader_read_27 : decode b_Reader_read 27 = .ok (.aload_n 0, 1) := dc_42 (q0_win (r := 27) wn_Reader_read_0 (by decide +kernel))
theorem d_Reader_read_28 : decode b_Reader_read 28 = .ok (.getfield 15, 3) := dc_180 (qU2_win (r := 28) wn_Reader_read_0 (by decide +kernel))
theorem d_Reader_read_31 : decode b_Reader_read 31 = .ok (.tableswitch 125 0 7 #[45, 55, 65, 75, 85, 95, 105, 115], 45) := by decide +kernel
theorem wn_Reader_read_76 : ∀ i, i < 96 → bA b_Reader_read (76 + i) = wB [42, 44, 182, 0, 19, 54, 5, 167, 0, 84, 42, 44, 182, 0, 23, 54, 5, 167, 0, 74, 42, 44, 182, 0, 26, 54, 5, 167, 0, 64, 42, 44, 182, 0, 29, 54, 5, 167, 0, 54, 42, 44, 182, 0, 32, 54, 5, 167, 0, 44, 42, 44, 182, 0, 35, 54, 5, 167, 0, 34, 42, 44, 182, 0, 38, 54, 5, 167, 0, 24, 42, 44, 182, 0, 41, 54, 5, 167, 0, 14, 42, 4, 42, 180, 0, 44, 182, 0, 47, 54, 5, 21, 5, 153, 0, 12] i := wB_of (by decide +kernel)
theorem d_Reader_read_76 : decode b_Reader_read 76 = .ok (.aload_n 0, 1) := dc_42 (q0_win (r := 0) wn_Reader_read_76 (by decide +kernel))
theorem d_Reader_read_77 : decode b_Reader_read 77 = .ok (.aload_n 2, 1) := dc_44 (q0_win (r := 1) wn_Reader_read_76 (by decide +kernel))
theorem d_Reader_read_78 : decode b_Reader_read 78 = .ok (.invokevirtual 19, 3) := dc_182 (qU2_win (r := 2) wn_Reader_read_76 (by decide +kernel))
theorem d_Reader_read_81 : decode b_Reader_read 81 = .ok (.istore 5, 2) := dc_54 (qU1_win (r := 5) wn_Reader_read_76 (by decide +kernel))
theorem d_Reader_read_83 : decode b_Reader_read 83 = .ok (.goto 84, 3) := dc_167 (qS2_win (r := 7) wn_Reader_read_76 (by decide +kernel))
theorem d_Reader_read_86 : decode b_Reader_read 86 = .ok (.aload_n 0, 1) := dc_42 (q0_win (r := 10) wn_Reader_read_76 (by decide +kernel))
theorem d_Reader_read_87 : decode b_Reader_read 87 = .ok (.aload_n 2, 1) := dc_44 (q0_win (r := 11) wn_Reader_read_76 (by decide +kernel))
theorem d_Reader_read_88 : decode b_Reader_read 88 = .ok (.invokevirtual 23, 3) := dc_182 (qU2_win (r := 12) wn_Reader_read_76 (by decide +kernel))
theorem d_Reader_read_91 : decode b_Reader_read 91 = .ok (.istore 5, 2) := dc_54 (qU1_win (r := 15) wn_Reader_read_76 (by decide +kernel))
theorem d_Reader_read_93 : decode b_Reader_read 93 = .ok (.goto 74, 3) := dc_167 (qS2_win (r := 17) wn_Reader_read_76 (by decide +kernel))
theorem d_Reader_read_96 : decode b_Reader_read 96 = .ok (.aload_n 0, 1) := dc_42 (q0_win (r := 20) wn_Reader_read_76 (by decide +kernel))
theorem d_Reader_read_97 : decode b_Reader_read 97 = .ok (.aload_n 2, 1) := dc_44 (q0_win (r := 21) wn_Reader_read_76 (by decide +kernel))
theorem d_Reader_read_98 : decode b_Reader_read 98 = .ok (.invokevirtual 26, 3) := dc_182 (qU2_win (r := 22) wn_Reader_read_76 (by decide +kernel))
theorem d_Reader_read_101 : decode b_Reader_read 101 = .ok (.istore 5, 2) := dc_54 (qU1_win (r := 25) wn_Reader_read_76 (by decide +kernel))
theorem d_Reader_read_103 : decode b_Reader_read 103 = .ok (.goto 64, 3) := dc_167 (qS2_win (r := 27) wn_Reader_read_76 (by decide +kernel))
theorem d_Reader_read_106 : decode b_Reader_read 106 = .ok (.aload_n 0, 1) := dc_42 (q0_win (r := 30) wn_Reader_read_76 (by decide +kernel))
theorem d_Reader_read_107 : decode b_Reader_read 107 = .ok (.aload_n 2, 1) := dc_44 (q0_win (r := 31) wn_Reader_read_76 (by decide +kernel))
theorem d_Reader_read_108 : decode b_Reader_read 108 = .ok (.invokevirtual 29, 3) := dc_182 (qU2_win (r := 32) wn_Reader_read_76 (by decide +kernel))
theorem d_Reader_read_111 : decode b_Reader_read 111 = .ok (.istore 5, 2) := dc_54 (qU1_win (r := 35) wn_Reader_read_76 (by decide +kernel))
theorem d_Reader_read_113 : decode b_Reader_read 113 = .ok (.goto 54, 3) := dc_167 (qS2_win (r := 37) wn_Reader_read_76 (by decide +kernel))
theorem d_Reader_read_116 : decode b_Reader_read 116 = .ok (.aload_n 0, 1) := dc_42 (q0_win (r := 40) wn_Reader_read_76 (by decide +kernel))
theorem d_Reader_read_117 : decode b_Reader_read 117 = .ok (.aload_n 2, 1) := dc_44 (q0_win (r := 41) wn_Reader_read_76 (by decide +kernel))
theorem d_Reader_read_118 : decode b_Reader_read 118 = .ok (.invokevirtual 32, 3) := dc_182 (qU2_win (r := 42) wn_Reader_read_76 (by decide +kernel))
theorem d_Reader_read_121 : decode b_Reader_read 121 = .ok (.istore 5, 2) := dc_54 (qU1_win (r := 45) wn_Reader_read_76 (by decide +kernel))
theorem d_Reader_read_123 : decode b_Reader_read 123 = .ok (.goto 44, 3) := dc_167 (qS2_win (r := 47) wn_Reader_read_76 (by decide +kernel))
theorem d_Reader_read_126 : decode b_Reader_read 126 = .ok (.aload_n 0, 1) := dc_42 (q0_win (r := 50) wn_Reader_read_76 (by decide +kernel))
theorem d_Reader_read_127 : decode b_Reader_read 127 = .ok (.aload_n 2, 1) := dc_44 (q0_win (r := 51) wn_Reader_read_76 (by decide +kernel))
theorem d_Reader_read_128 : decode b_Reader_read 128 = .ok (.invokevirtual 35, 3) := dc_182 (qU2_win (r := 52) wn_Reader_read_76 (by decide +kernel))
theorem d_Reader_read_131 : decode b_Reader_read 131 = .ok (.istore 5, 2) := dc_54 (qU1_win (r := 55) wn_Reader_read_76 (by decide +kernel))
theorem d_Reader_read_133 : decode b_Reader_read 133 = .ok (.goto 34, 3) := dc_167 (qS2_win (r := 57) wn_Reader_read_76 (by decide +kernel))
theorem d_Reader_read_136 : decode b_Reader_read 136 = .ok (.aload_n 0, 1) := dc_42 (q0_win (r := 60) wn_Reader_read_76 (by decide +kernel))
theorem d_Reader_read_137 : decode b_Reader_read 137 = .ok (.aload_n 2, 1) := dc_44 (q0_win (r := 61) wn_Reader_read_76 (by decide +kernel))
theorem d_Reader_read_138 : decode b_Reader_read 138 = .ok (.invokevirtual 38, 3) := dc_182 (qU2_win (r := 62) wn_Reader_read_76 (by decide +kernel))
theorem d_Reader_read_141 : decode b_Reader_read 141 = .ok (.istore 5, 2) := dc_54 (qU1_win (r := 65) wn_Reader_read_76 (by decide +kernel))
theorem d_Reader_read_143 : decode b_Reader_read 143 = .ok (.goto 24, 3) := dc_167 (qS2_win (r := 67) wn_Reader_read_76 (by decide +kernel))
theorem d_Reader_read_146 : decode b_Reader_read 146 = .ok (.aload_n 0, 1) := dc_42 (q0_win (r := 70) wn_Reader_read_76 (by decide +kernel))
theorem d_Reader_read_147 : decode b_Reader_read 147 = .ok (.aload_n 2, 1) := dc_44 (q0_win (r := 71) wn_Reader_read_76 (by decide +kernel))
theorem d_Reader_read_148 : decode b_Reader_read 148 = .ok (.invokevirtual 41, 3) := dc_182 (qU2_win (r := 72) wn_Reader_read_76 (by decide +kernel))
theorem d_Reader_read_151 : decode b_Reader_read 151 = .ok (.istore 5, 2) := dc_54 (qU1_win (r := 75) wn_Reader_read_76 (by decide +kernel))
theorem d_Reader_read_153 : decode b_Reader_read 153 = .ok (.goto 14, 3) := dc_167 (qS2_win (r := 77) wn_Reader_read_76 (by decide +kernel))
theorem d_Reader_read_156 : decode b_Reader_read 156 = .ok (.aload_n 0, 1) := dc_42 (q0_win (r := 80) wn_Reader_read_76 (by decide +kernel))
theorem d_Reader_read_157 : decode b_Reader_read 157 = .ok (.iconst 1, 1) := dc_4 (q0_win (r := 81) wn_Reader_read_76 (by decide +kernel))
theorem d_Reader_read_158 : decode b_Reader_read 158 = .ok (.aload_n 0, 1) := dc_42 (q0_win (r := 82) wn_Reader_read_76 (by decide +kernel))
theorem d_Reader_read_159 : decode b_Reader_read 159 = .ok (.getfield 44, 3) := dc_180 (qU2_win (r := 83) wn_Reader_read_76 (by decide +kernel))
theorem d_Reader_read_162 : decode b_Reader_read 162 = .ok (.invokevirtual 47, 3) := dc_182 (qU2_win (r := 86) wn_Reader_read_76 (by decide +kernel))
theorem d_Reader_read_165 : decode b_Reader_read 165 = .ok (.istore 5, 2) := dc_54 (qU1_win (r := 89) wn_Reader_read_76 (by decide +kernel))
theorem d_Reader_read_167 : decode b_Reader_read 167 = .ok (.iload 5, 2) := dc_21 (qU1_win (r := 91) wn_Reader_read_76 (by decide +kernel))
theorem d_Reader_read_169 : decode b_Reader_read 169 = .ok (.ifCond .eq 12, 3) := dc_153 (qS2_win (r := 93) wn_Reader_read_76 (by decide +kernel))
theorem wn_Reader_read_172 : ∀ i, i < 26 → bA b_Reader_read (172 + i) = wB [42, 16, 40, 182, 0, 51, 154, 0, 5, 2, 172, 132, 3, 1, 132, 4, 1, 167, 255, 77, 44, 182, 0, 55, 29, 172] i := wB_of (by decide +kernel)
theorem d_Reader_read_172 : decode b_Reader_read 172 = .ok (.aload_n 0, 1) := dc_42 (q0_win (r := 0) wn_Reader_read_172 (by decide +kernel))
theorem d_Reader_read_173 : decode b_Reader_read 173 = .ok (.bipush 40, 2) := dc_16 (qS1_win (r := 1) wn_Reader_read_172 (by decide +kernel))
theorem d_Reader_read_175 : decode b_Reader_read 175 = .ok (.invokevirtual 51, 3) := dc_182 (qU2_win (r := 3) wn_Reader_read_172 (by decide +kernel))
theorem d_Reader_read_178 : decode b_Reader_read 178 = .ok (.ifCond .ne 5, 3) := dc_154 (qS2_win (r := 6) wn_Reader_read_172 (by decide +kernel))
theorem d_Reader_read_181 : decode b_Reader_read 181 = .ok (.iconst (-1), 1) := dc_2 (q0_win (r := 9) wn_Reader_read_172 (by decide +kernel))
theorem d_Reader_read_182 : decode b_Reader_read 182 = .ok (.ireturn, 1) := dc_172 (q0_win (r := 10) wn_Reader_read_172 (by decide +kernel))
theorem d_Reader_read_183 : decode b_Reader_read 183 = .ok (.iinc 3 1, 3) := dc_132 (qI_win (r := 11) wn_Reader_read_172 (by decide +kernel))
theorem d_Reader_read_186 : decode b_Reader_read 186 = .ok (.iinc 4 1, 3) := dc_132 (qI_win (r := 14) wn_Reader_read_172 (by decide +kernel))
theorem d_Reader_read_189 : decode b_Reader_read 189 = .ok (.goto (-179), 3) := dc_167 (qS2_win (r := 17) wn_Reader_read_172 (by decide +kernel))
theorem d_Reader_read_192 : decode b_Reader_read 192 = .ok (.aload_n 2, 1) := dc_44 (q0_win (r := 20) wn_Reader_read_172 (by decide +kernel))
theorem d_Reader_read_193 : decode b_Reader_read 193 = .ok (.invokevirtual 55, 3) := dc_182 (qU2_win (r := 21) wn_Reader_read_172 (by decide +kernel))
theorem d_Reader_read_196 : decode b_Reader_read 196 = .ok (.iload_n 3, 1) := dc_29 (q0_win (r := 24) wn_Reader_read_172 (by decide +kernel))
theorem d_Reader_read_197 : decode b_Reader_read 197 = .ok (.ireturn, 1) := dc_172 (q0_win (r := 25) wn_Reader_read_172 (by decide +kernel))
def t_Reader_read_L167 (k2 : Nat) (bk10 : Mem → Int → Int → Option (Mem × Int)) (M : Mem) (v2_ : Int) (v3_ : Int) (v4_ : Int) : Option (Mem × Int) := (if v4_ = 0 then (some (M, (-1))) else (obind (t_Reader_take M 40) fun q37 => (if (q37.2) = 0 then (some ((q37.1), (-1))) else (bk10 (q37.1) (w32 (v2_ + 1)) (w32 (v3_ + 1))))))
def t_Reader_read_L192 (k2 : Nat)  (M : Mem) (v1_ : Int) : Option (Mem × Int) := (obind (t_Town_settle M k2) fun q34 => (some (q34, v1_)))
def t_Reader_read_L10 (k2 : Nat)  : Nat → Mem → Int → Int → Option (Mem × Int)
  | 0, _, _, _ => none
  | fu + 1, M, v2_, v3_ => (if 700 ≤ v3_ then (t_Reader_read_L192 k2 M v2_) else (if (M.1 46 2) = 32 then (t_Reader_read_L192 k2 M v2_) else (if (M.1 46 2) = 0 then (obind (t_Reader_readTown M k2) fun q8 => (t_Reader_read_L167 k2 (fun a0_ a1_ a2_ => t_Reader_read_L10 k2 fu a0_ a1_ a2_) (q8.1) v2_ v3_ (q8.2))) else (if (M.1 46 2) = 1 then (obind (t_Reader_readWard M k2) fun q11 => (t_Reader_read_L167 k2 (fun a0_ a1_ a2_ => t_Reader_read_L10 k2 fu a0_ a1_ a2_) (q11.1) v2_ v3_ (q11.2))) else (if (M.1 46 2) = 2 then (obind (t_Reader_readPart M k2) fun q14 => (t_Reader_read_L167 k2 (fun a0_ a1_ a2_ => t_Reader_read_L10 k2 fu a0_ a1_ a2_) (q14.1) v2_ v3_ (q14.2))) else (if (M.1 46 2) = 3 then (obind (t_Reader_readWall M k2) fun q17 => (t_Reader_read_L167 k2 (fun a0_ a1_ a2_ => t_Reader_read_L10 k2 fu a0_ a1_ a2_) (q17.1) v2_ v3_ (q17.2))) else (if (M.1 46 2) = 4 then (obind (t_Reader_readStair M k2) fun q20 => (t_Reader_read_L167 k2 (fun a0_ a1_ a2_ => t_Reader_read_L10 k2 fu a0_ a1_ a2_) (q20.1) v2_ v3_ (q20.2))) else (if (M.1 46 2) = 5 then (obind (t_Reader_readThing M k2) fun q23 => (t_Reader_read_L167 k2 (fun a0_ a1_ a2_ => t_Reader_read_L10 k2 fu a0_ a1_ a2_) (q23.1) v2_ v3_ (q23.2))) else (if (M.1 46 2) = 6 then (obind (t_Reader_readSeed M k2) fun q26 => (t_Reader_read_L167 k2 (fun a0_ a1_ a2_ => t_Reader_read_L10 k2 fu a0_ a1_ a2_) (q26.1) v2_ v3_ (q26.2))) else (if (M.1 46 2) = 7 then (obind (t_Reader_readLaw M k2) fun q29 => (t_Reader_read_L167 k2 (fun a0_ a1_ a2_ => t_Reader_read_L10 k2 fu a0_ a1_ a2_) (q29.1) v2_ v3_ (q29.2))) else (qlet (t_Reader_refuse M 1 (M.1 46 4)) fun q32 => (t_Reader_read_L167 k2 (fun a0_ a1_ a2_ => t_Reader_read_L10 k2 fu a0_ a1_ a2_) (q32.1) v2_ v3_ (q32.2)))))))))))))
def t_Reader_read (M : Mem) (k2 : Nat) : Option (Mem × Int) := (obind (t_Reader_begin M) fun q1 => (t_Reader_read_L10 k2 FU q1 0 0))
set_option maxHeartbeats 4000000 in
set_option maxRecDepth 100000 in
theorem k_Reader_read_L167 (l : Launch) {p : Program} {e : Env} {s : State} {m : MethodId} {below : List Frame} {meth : Method} {c : Code} {b n : Nat} {C : CT} (hlo : 191 ≤ n) (k2 : Nat) (hk2 : isTown k2) (F : Cx b p m c b_Reader_read 6 s ([.ref (b + 46), .ref (b + 42), .ref (b + k2)] : List Value).toArray "WardFalls$Reader" C n 191) (hlk : meth.locks = false) (hr : meth.sig.returnType = some .int) {res : Mem × Int} (bk10 : Mem → Int → Int → Option (Mem × Int)) (hbk10 : ∀ (M : Mem) (v2_ : Int) (hv2_ : InR v2_) (v3_ : Int) (hv3_ : InR v3_) (H : Heap) (locs : List Loc) (ls : Array Slot), St b C n M s H locs → lv_has ls 6 [(0, .ref (b + 46)), (2, .ref (b + k2)), (3, vI v2_), (4, vI v3_)] → bk10 M v2_ v3_ = some res → W p l e (headSpec (wsM y_Reader_read b_Reader_read 6 (some .int)) (rmD 6)).room s m ([.ref (b + 46), .ref (b + 42), .ref (b + k2)] : List Value).toArray below meth c H locs 0 0 (MQ below (QI b C n res.1 res.2) ([.ref (b + 46), .ref (b + 42), .ref (b + k2)] : List Value).toArray s 0 0 (frb b)) (F0 m 10 ls [])) (M : Mem) (v2_ : Int) (hv2_ : InR v2_) (v3_ : Int) (hv3_ : InR v3_) (v4_ : Int) (hv4_ : v4_ = 0 ∨ v4_ = 1) (H : Heap) (locs : List Loc) (ls : Array Slot) (hS : St b C n M s H locs) (hl : lv_has ls 6 [(0, .ref (b + 46)), (2, .ref (b + k2)), (3, vI v2_), (4, vI v3_), (5, vI v4_)]) (hT : t_Reader_read_L167 k2 bk10 M v2_ v3_ v4_ = some res) : W p l e (headSpec (wsM y_Reader_read b_Reader_read 6 (some .int)) (rmD 6)).room s m ([.ref (b + 46), .ref (b + 42), .ref (b + k2)] : List Value).toArray below meth c H locs 0 0 (MQ below (QI b C n res.1 res.2) ([.ref (b + 46), .ref (b + 42), .ref (b + k2)] : List Value).toArray s 0 0 (frb b)) (F0 m 167 ls []) := by
  unfold t_Reader_read_L167 at hT
  refine lv_iload F.hx F.hb d_Reader_read_167 (lv_at hl 4 rfl) ?_
  refine r_if_eq (tgt := 181) F.hx F.hb (inr_z hv4_) d_Reader_read_169 (by decide) (fun c36 => ?_) (fun c36 => ?_)
  · replace hT := (if_pos c36).symm.trans hT
    refine r_iconst F.hx F.hb d_Reader_read_181 ?_
    cases hT
    exact r_iret F hlk hr rfl hS (inr_c rfl) d_Reader_read_182
  · replace hT := (if_neg c36).symm.trans hT
    refine lv_aload_n F.hx F.hb d_Reader_read_172 rfl (lv_at hl 0 rfl) ?_
    refine r_bipush F.hx F.hb d_Reader_read_173 rfl ?_
    obtain ⟨q37, hq37, hT⟩ := q_obind hT
    refine r_backZ F hS (r_runV (k := 46) (N := 11) (T := T8) (As := [vI 40]) F hS (show 46 < 191 by decide) (show shK 46 = 12 from rfl) rfl (c_Reader_take l F.2.2.1 M 40 (inr_c rfl) _ hq37) gs_Reader_51 hd_Reader_take ⟨Nat.le_of_ble_eq_true rfl, Nat.le_of_ble_eq_true rfl⟩ rfl hl.1 (Nat.le_of_ble_eq_true rfl) ⟨Nat.zero_le _, Nat.zero_le _⟩ rfl d_Reader_read_175) (fun H locs hS h38 => ?_)
    refine r_if_ne (tgt := 183) F.hx F.hb (inr_z h38) d_Reader_read_178 (by decide) (fun c39 => ?_) (fun c39 => ?_)
    · replace hT := (if_neg c39).symm.trans hT
      refine lv_iinc (v := Int32.ofInt (w32 (v2_ + 1))) (lv' := [(3, vI (w32 (v2_ + 1))), (0, .ref (b + 46)), (2, .ref (b + k2)), (4, vI v3_), (5, vI v4_)]) F.hx F.hb d_Reader_read_183 hl (k := 2) rfl (q_of_add _ _) (Nat.le_of_ble_eq_true rfl) rfl (fun ls hl => ?_)
      refine lv_iinc (v := Int32.ofInt (w32 (v3_ + 1))) (lv' := [(4, vI (w32 (v3_ + 1))), (3, vI (w32 (v2_ + 1))), (0, .ref (b + 46)), (2, .ref (b + k2)), (5, vI v4_)]) F.hx F.hb d_Reader_read_186 hl (k := 3) rfl (q_of_add _ _) (Nat.le_of_ble_eq_true rfl) rfl (fun ls hl => ?_)
      refine lv_goto (tgt := 10) F.hx F.hb d_Reader_read_189 (by decide) ?_
      exact hbk10 (q37.1) (w32 (v2_ + 1)) (inr_w32 _) (w32 (v3_ + 1)) (inr_w32 _) _ _ _ hS (lv_sub hl [2, 3, 1, 0] rfl) hT
    · replace hT := (if_pos c39).symm.trans hT
      refine r_iconst F.hx F.hb d_Reader_read_181 ?_
      cases hT
      exact r_iret F hlk hr rfl hS (inr_c rfl) d_Reader_read_182
set_option maxHeartbeats 4000000 in
set_option maxRecDepth 100000 in
theorem k_Reader_read_L192 (l : Launch) {p : Program} {e : Env} {s : State} {m : MethodId} {below : List Frame} {meth : Method} {c : Code} {b n : Nat} {C : CT} (hlo : 191 ≤ n) (k2 : Nat) (hk2 : isTown k2) (F : Cx b p m c b_Reader_read 6 s ([.ref (b + 46), .ref (b + 42), .ref (b + k2)] : List Value).toArray "WardFalls$Reader" C n 191) (hlk : meth.locks = false) (hr : meth.sig.returnType = some .int) {res : Mem × Int} (M : Mem) (v1_ : Int) (hv1_ : InR v1_) (H : Heap) (locs : List Loc) (ls : Array Slot) (hS : St b C n M s H locs) (hl : lv_has ls 6 [(2, .ref (b + k2)), (3, vI v1_)]) (hT : t_Reader_read_L192 k2 M v1_ = some res) : W p l e (headSpec (wsM y_Reader_read b_Reader_read 6 (some .int)) (rmD 6)).room s m ([.ref (b + 46), .ref (b + 42), .ref (b + k2)] : List Value).toArray below meth c H locs 0 0 (MQ below (QI b C n res.1 res.2) ([.ref (b + 46), .ref (b + 42), .ref (b + k2)] : List Value).toArray s 0 0 (frb b)) (F0 m 192 ls []) := by
  unfold t_Reader_read_L192 at hT
  refine lv_aload_n F.hx F.hb d_Reader_read_192 rfl (lv_at hl 0 rfl) ?_
  obtain ⟨q34, hq34, hT⟩ := q_obind hT
  refine r_backV F hS (r_runV (k := k2) (N := 20) (T := T11) (As := []) F hS (Town_lt hk2) (Town_sh hk2) rfl (c_Town_settle l F.2.2.1 M k2 hk2 _ hq34) gs_Reader_55 hd_Town_settle ⟨Nat.le_of_ble_eq_true rfl, Nat.le_of_ble_eq_true rfl⟩ rfl hl.1 (Nat.le_of_ble_eq_true rfl) ⟨Nat.zero_le _, Nat.zero_le _⟩ rfl d_Reader_read_193) (fun H locs hS => ?_)
  refine lv_iload_n F.hx F.hb d_Reader_read_196 rfl (lv_at hl 1 rfl) ?_
  cases hT
  exact r_iret F hlk hr rfl hS hv1_ d_Reader_read_197
set_option maxHeartbeats 4000000 in
set_option maxRecDepth 100000 in
theorem k_Reader_read_L10 (l : Launch) {p : Program} {e : Env} {s : State} {m : MethodId} {below : List Frame} {meth : Method} {c : Code} {b n : Nat} {C : CT} (hlo : 191 ≤ n) (k2 : Nat) (hk2 : isTown k2) (F : Cx b p m c b_Reader_read 6 s ([.ref (b + 46), .ref (b + 42), .ref (b + k2)] : List Value).toArray "WardFalls$Reader" C n 191) (hlk : meth.locks = false) (hr : meth.sig.returnType = some .int) {res : Mem × Int} : ∀ (fu : Nat) (M : Mem) (v2_ : Int) (hv2_ : InR v2_) (v3_ : Int) (hv3_ : InR v3_) (H : Heap) (locs : List Loc) (ls : Array Slot), St b C n M s H locs → lv_has ls 6 [(0, .ref (b + 46)), (2, .ref (b + k2)), (3, vI v2_), (4, vI v3_)] → t_Reader_read_L10 k2 fu M v2_ v3_ = some res → W p l e (headSpec (wsM y_Reader_read b_Reader_read 6 (some .int)) (rmD 6)).room s m ([.ref (b + 46), .ref (b + 42), .ref (b + k2)] : List Value).toArray below meth c H locs 0 0 (MQ below (QI b C n res.1 res.2) ([.ref (b + 46), .ref (b + 42), .ref (b + k2)] : List Value).toArray s 0 0 (frb b)) (F0 m 10 ls []) := by
  intro fu
  induction fu with
  | zero => intro M v2_ hv2_ v3_ hv3_ H locs ls hS hl hT; exact absurd hT (by simp [t_Reader_read_L10])
  | succ fu ih =>
    intro M v2_ hv2_ v3_ hv3_ H locs ls hS hl hT
    rw [t_Reader_read_L10] at hT
    refine lv_iload F.hx F.hb d_Reader_read_10 (lv_at hl 3 rfl) ?_
    refine r_sipush F.hx F.hb d_Reader_read_12 rfl ?_
    refine r_icmp_ge (tgt := 192) F.hx F.hb hv3_ (inr_c rfl) d_Reader_read_15 (by decide) (fun c3 => ?_) (fun c3 => ?_)
    · replace hT := (if_pos c3).symm.trans hT
      exact k_Reader_read_L192 l hlo k2 hk2 F hlk hr M v2_ hv2_ _ _ _ hS (lv_sub hl [1, 2] rfl) hT
    · replace hT := (if_neg c3).symm.trans hT
      refine lv_aload_n F.hx F.hb d_Reader_read_18 rfl (lv_at hl 0 rfl) ?_
      refine r_get (v := vI (M.1 46 2)) (N := 11) (T := T8) (j := 2) F hS (show 46 < 191 by decide) (show shK 46 = 12 from rfl) (show shN 46 = 11 from rfl) rfl (Nat.le_of_ble_eq_true rfl) ing8 mw_232 (fv_int rfl) d_Reader_read_19 ?_
      have i4 := hS.rng 46 2
      refine r_bipush F.hx F.hb d_Reader_read_22 rfl ?_
      refine r_icmp_eq (tgt := 192) F.hx F.hb i4 (inr_c rfl) d_Reader_read_24 (by decide) (fun c5 => ?_) (fun c5 => ?_)
      · replace hT := (if_pos c5).symm.trans hT
        exact k_Reader_read_L192 l hlo k2 hk2 F hlk hr M v2_ hv2_ _ _ _ hS (lv_sub hl [1, 2] rfl) hT
      · replace hT := (if_neg c5).symm.trans hT
        refine lv_aload_n F.hx F.hb d_Reader_read_27 rfl (lv_at hl 0 rfl) ?_
        refine r_get (v := vI (M.1 46 2)) (N := 11) (T := T8) (j := 2) F hS (show 46 < 191 by decide) (show shK 46 = 12 from rfl) (show shN 46 = 11 from rfl) rfl (Nat.le_of_ble_eq_true rfl) ing8 mw_232 (fv_int rfl) d_Reader_read_28 ?_
        have i6 := hS.rng 46 2
        rcases q_ite hT with ⟨c7, hT⟩ | ⟨c7, hT⟩
        · refine r_tableIn (i := 0) (tgt := 76) F.hx F.hb i6 c7 d_Reader_read_31 (by decide) (by decide) rfl (by decide) ?_
          refine lv_aload_n F.hx F.hb d_Reader_read_76 rfl (lv_at hl 0 rfl) ?_
          refine lv_aload_n F.hx F.hb d_Reader_read_77 rfl (lv_at hl 1 rfl) ?_
          obtain ⟨q8, hq8, hT⟩ := q_obind hT
          refine r_backZ F hS (r_runV (k := 46) (N := 11) (T := T8) (As := [.ref (b + k2)]) F hS (show 46 < 191 by decide) (show shK 46 = 12 from rfl) rfl (c_Reader_readTown l F.2.2.1 M k2 hk2 _ hq8) gs_Reader_19 hd_Reader_readTown ⟨Nat.le_of_ble_eq_true rfl, Nat.le_of_ble_eq_true rfl⟩ rfl hl.1 (Nat.le_of_ble_eq_true rfl) ⟨Nat.zero_le _, Nat.zero_le _⟩ rfl d_Reader_read_78) (fun H locs hS h9 => ?_)
          refine lv_istore (lv' := [(5, vI (q8.2)), (0, .ref (b + 46)), (2, .ref (b + k2)), (3, vI v2_), (4, vI v3_)]) F.hx F.hb d_Reader_read_81 hl (Nat.le_of_ble_eq_true rfl) rfl (fun ls hl => ?_)
          refine lv_goto (tgt := 167) F.hx F.hb d_Reader_read_83 (by decide) ?_
          exact k_Reader_read_L167 l hlo k2 hk2 F hlk hr (fun a0_ a1_ a2_ => t_Reader_read_L10 k2 fu a0_ a1_ a2_) ih (q8.1) v2_ hv2_ v3_ hv3_ (q8.2) h9 _ _ _ hS (lv_sub hl [1, 2, 3, 4, 0] rfl) hT
        ·
          rcases q_ite hT with ⟨c10, hT⟩ | ⟨c10, hT⟩
          · refine r_tableIn (i := 1) (tgt := 86) F.hx F.hb i6 c10 d_Reader_read_31 (by decide) (by decide) rfl (by decide) ?_
            refine lv_aload_n F.hx F.hb d_Reader_read_86 rfl (lv_at hl 0 rfl) ?_
            refine lv_aload_n F.hx F.hb d_Reader_read_87 rfl (lv_at hl 1 rfl) ?_
            obtain ⟨q11, hq11, hT⟩ := q_obind hT
            refine r_backZ F hS (r_runV (k := 46) (N := 11) (T := T8) (As := [.ref (b + k2)]) F hS (show 46 < 191 by decide) (show shK 46 = 12 from rfl) rfl (c_Reader_readWard l F.2.2.1 M k2 hk2 _ hq11) gs_Reader_23 hd_Reader_readWard ⟨Nat.le_of_ble_eq_true rfl, Nat.le_of_ble_eq_true rfl⟩ rfl hl.1 (Nat.le_of_ble_eq_true rfl) ⟨Nat.zero_le _, Nat.zero_le _⟩ rfl d_Reader_read_88) (fun H locs hS h12 => ?_)
            refine lv_istore (lv' := [(5, vI (q11.2)), (0, .ref (b + 46)), (2, .ref (b + k2)), (3, vI v2_), (4, vI v3_)]) F.hx F.hb d_Reader_read_91 hl (Nat.le_of_ble_eq_true rfl) rfl (fun ls hl => ?_)
            refine lv_goto (tgt := 167) F.hx F.hb d_Reader_read_93 (by decide) ?_
            exact k_Reader_read_L167 l hlo k2 hk2 F hlk hr (fun a0_ a1_ a2_ => t_Reader_read_L10 k2 fu a0_ a1_ a2_) ih (q11.1) v2_ hv2_ v3_ hv3_ (q11.2) h12 _ _ _ hS (lv_sub hl [1, 2, 3, 4, 0] rfl) hT
          ·
            rcases q_ite hT with ⟨c13, hT⟩ | ⟨c13, hT⟩
            · refine r_tableIn (i := 2) (tgt := 96) F.hx F.hb i6 c13 d_Reader_read_31 (by decide) (by decide) rfl (by decide) ?_
              refine lv_aload_n F.hx F.hb d_Reader_read_96 rfl (lv_at hl 0 rfl) ?_
              refine lv_aload_n F.hx F.hb d_Reader_read_97 rfl (lv_at hl 1 rfl) ?_
              obtain ⟨q14, hq14, hT⟩ := q_obind hT
              refine r_backZ F hS (r_runV (k := 46) (N := 11) (T := T8) (As := [.ref (b + k2)]) F hS (show 46 < 191 by decide) (show shK 46 = 12 from rfl) rfl (c_Reader_readPart l F.2.2.1 M k2 hk2 _ hq14) gs_Reader_26 hd_Reader_readPart ⟨Nat.le_of_ble_eq_true rfl, Nat.le_of_ble_eq_true rfl⟩ rfl hl.1 (Nat.le_of_ble_eq_true rfl) ⟨Nat.zero_le _, Nat.zero_le _⟩ rfl d_Reader_read_98) (fun H locs hS h15 => ?_)
              refine lv_istore (lv' := [(5, vI (q14.2)), (0, .ref (b + 46)), (2, .ref (b + k2)), (3, vI v2_), (4, vI v3_)]) F.hx F.hb d_Reader_read_101 hl (Nat.le_of_ble_eq_true rfl) rfl (fun ls hl => ?_)
              refine lv_goto (tgt := 167) F.hx F.hb d_Reader_read_103 (by decide) ?_
              exact k_Reader_read_L167 l hlo k2 hk2 F hlk hr (fun a0_ a1_ a2_ => t_Reader_read_L10 k2 fu a0_ a1_ a2_) ih (q14.1) v2_ hv2_ v3_ hv3_ (q14.2) h15 _ _ _ hS (lv_sub hl [1, 2, 3, 4, 0] rfl) hT
            ·
              rcases q_ite hT with ⟨c16, hT⟩ | ⟨c16, hT⟩
              · refine r_tableIn (i := 3) (tgt := 106) F.hx F.hb i6 c16 d_Reader_read_31 (by decide) (by decide) rfl (by decide) ?_
                refine lv_aload_n F.hx F.hb d_Reader_read_106 rfl (lv_at hl 0 rfl) ?_
                refine lv_aload_n F.hx F.hb d_Reader_read_107 rfl (lv_at hl 1 rfl) ?_
                obtain ⟨q17, hq17, hT⟩ := q_obind hT
                refine r_backZ F hS (r_runV (k := 46) (N := 11) (T := T8) (As := [.ref (b + k2)]) F hS (show 46 < 191 by decide) (show shK 46 = 12 from rfl) rfl (c_Reader_readWall l F.2.2.1 M k2 hk2 _ hq17) gs_Reader_29 hd_Reader_readWall ⟨Nat.le_of_ble_eq_true rfl, Nat.le_of_ble_eq_true rfl⟩ rfl hl.1 (Nat.le_of_ble_eq_true rfl) ⟨Nat.zero_le _, Nat.zero_le _⟩ rfl d_Reader_read_108) (fun H locs hS h18 => ?_)
                refine lv_istore (lv' := [(5, vI (q17.2)), (0, .ref (b + 46)), (2, .ref (b + k2)), (3, vI v2_), (4, vI v3_)]) F.hx F.hb d_Reader_read_111 hl (Nat.le_of_ble_eq_true rfl) rfl (fun ls hl => ?_)
                refine lv_goto (tgt := 167) F.hx F.hb d_Reader_read_113 (by decide) ?_
                exact k_Reader_read_L167 l hlo k2 hk2 F hlk hr (fun a0_ a1_ a2_ => t_Reader_read_L10 k2 fu a0_ a1_ a2_) ih (q17.1) v2_ hv2_ v3_ hv3_ (q17.2) h18 _ _ _ hS (lv_sub hl [1, 2, 3, 4, 0] rfl) hT
              ·
                rcases q_ite hT with ⟨c19, hT⟩ | ⟨c19, hT⟩
                · refine r_tableIn (i := 4) (tgt := 116) F.hx F.hb i6 c19 d_Reader_read_31 (by decide) (by decide) rfl (by decide) ?_
                  refine lv_aload_n F.hx F.hb d_Reader_read_116 rfl (lv_at hl 0 rfl) ?_
                  refine lv_aload_n F.hx F.hb d_Reader_read_117 rfl (lv_at hl 1 rfl) ?_
                  obtain ⟨q20, hq20, hT⟩ := q_obind hT
                  refine r_backZ F hS (r_runV (k := 46) (N := 11) (T := T8) (As := [.ref (b + k2)]) F hS (show 46 < 191 by decide) (show shK 46 = 12 from rfl) rfl (c_Reader_readStair l F.2.2.1 M k2 hk2 _ hq20) gs_Reader_32 hd_Reader_readStair ⟨Nat.le_of_ble_eq_true rfl, Nat.le_of_ble_eq_true rfl⟩ rfl hl.1 (Nat.le_of_ble_eq_true rfl) ⟨Nat.zero_le _, Nat.zero_le _⟩ rfl d_Reader_read_118) (fun H locs hS h21 => ?_)
                  refine lv_istore (lv' := [(5, vI (q20.2)), (0, .ref (b + 46)), (2, .ref (b + k2)), (3, vI v2_), (4, vI v3_)]) F.hx F.hb d_Reader_read_121 hl (Nat.le_of_ble_eq_true rfl) rfl (fun ls hl => ?_)
                  refine lv_goto (tgt := 167) F.hx F.hb d_Reader_read_123 (by decide) ?_
                  exact k_Reader_read_L167 l hlo k2 hk2 F hlk hr (fun a0_ a1_ a2_ => t_Reader_read_L10 k2 fu a0_ a1_ a2_) ih (q20.1) v2_ hv2_ v3_ hv3_ (q20.2) h21 _ _ _ hS (lv_sub hl [1, 2, 3, 4, 0] rfl) hT
                ·
                  rcases q_ite hT with ⟨c22, hT⟩ | ⟨c22, hT⟩
                  · refine r_tableIn (i := 5) (tgt := 126) F.hx F.hb i6 c22 d_Reader_read_31 (by decide) (by decide) rfl (by decide) ?_
                    refine lv_aload_n F.hx F.hb d_Reader_read_126 rfl (lv_at hl 0 rfl) ?_
                    refine lv_aload_n F.hx F.hb d_Reader_read_127 rfl (lv_at hl 1 rfl) ?_
                    obtain ⟨q23, hq23, hT⟩ := q_obind hT
                    refine r_backZ F hS (r_runV (k := 46) (N := 11) (T := T8) (As := [.ref (b + k2)]) F hS (show 46 < 191 by decide) (show shK 46 = 12 from rfl) rfl (c_Reader_readThing l F.2.2.1 M k2 hk2 _ hq23) gs_Reader_35 hd_Reader_readThing ⟨Nat.le_of_ble_eq_true rfl, Nat.le_of_ble_eq_true rfl⟩ rfl hl.1 (Nat.le_of_ble_eq_true rfl) ⟨Nat.zero_le _, Nat.zero_le _⟩ rfl d_Reader_read_128) (fun H locs hS h24 => ?_)
                    refine lv_istore (lv' := [(5, vI (q23.2)), (0, .ref (b + 46)), (2, .ref (b + k2)), (3, vI v2_), (4, vI v3_)]) F.hx F.hb d_Reader_read_131 hl (Nat.le_of_ble_eq_true rfl) rfl (fun ls hl => ?_)
                    refine lv_goto (tgt := 167) F.hx F.hb d_Reader_read_133 (by decide) ?_
                    exact k_Reader_read_L167 l hlo k2 hk2 F hlk hr (fun a0_ a1_ a2_ => t_Reader_read_L10 k2 fu a0_ a1_ a2_) ih (q23.1) v2_ hv2_ v3_ hv3_ (q23.2) h24 _ _ _ hS (lv_sub hl [1, 2, 3, 4, 0] rfl) hT
                  ·
                    rcases q_ite hT with ⟨c25, hT⟩ | ⟨c25, hT⟩
                    · refine r_tableIn (i := 6) (tgt := 136) F.hx F.hb i6 c25 d_Reader_read_31 (by decide) (by decide) rfl (by decide) ?_
                      refine lv_aload_n F.hx F.hb d_Reader_read_136 rfl (lv_at hl 0 rfl) ?_
                      refine lv_aload_n F.hx F.hb d_Reader_read_137 rfl (lv_at hl 1 rfl) ?_
                      obtain ⟨q26, hq26, hT⟩ := q_obind hT
                      refine r_backZ F hS (r_runV (k := 46) (N := 11) (T := T8) (As := [.ref (b + k2)]) F hS (show 46 < 191 by decide) (show shK 46 = 12 from rfl) rfl (c_Reader_readSeed l F.2.2.1 M k2 hk2 _ hq26) gs_Reader_38 hd_Reader_readSeed ⟨Nat.le_of_ble_eq_true rfl, Nat.le_of_ble_eq_true rfl⟩ rfl hl.1 (Nat.le_of_ble_eq_true rfl) ⟨Nat.zero_le _, Nat.zero_le _⟩ rfl d_Reader_read_138) (fun H locs hS h27 => ?_)
                      refine lv_istore (lv' := [(5, vI (q26.2)), (0, .ref (b + 46)), (2, .ref (b + k2)), (3, vI v2_), (4, vI v3_)]) F.hx F.hb d_Reader_read_141 hl (Nat.le_of_ble_eq_true rfl) rfl (fun ls hl => ?_)
                      refine lv_goto (tgt := 167) F.hx F.hb d_Reader_read_143 (by decide) ?_
                      exact k_Reader_read_L167 l hlo k2 hk2 F hlk hr (fun a0_ a1_ a2_ => t_Reader_read_L10 k2 fu a0_ a1_ a2_) ih (q26.1) v2_ hv2_ v3_ hv3_ (q26.2) h27 _ _ _ hS (lv_sub hl [1, 2, 3, 4, 0] rfl) hT
                    ·
                      rcases q_ite hT with ⟨c28, hT⟩ | ⟨c28, hT⟩
                      · refine r_tableIn (i := 7) (tgt := 146) F.hx F.hb i6 c28 d_Reader_read_31 (by decide) (by decide) rfl (by decide) ?_
                        refine lv_aload_n F.hx F.hb d_Reader_read_146 rfl (lv_at hl 0 rfl) ?_
                        refine lv_aload_n F.hx F.hb d_Reader_read_147 rfl (lv_at hl 1 rfl) ?_
                        obtain ⟨q29, hq29, hT⟩ := q_obind hT
                        refine r_backZ F hS (r_runV (k := 46) (N := 11) (T := T8) (As := [.ref (b + k2)]) F hS (show 46 < 191 by decide) (show shK 46 = 12 from rfl) rfl (c_Reader_readLaw l F.2.2.1 M k2 hk2 _ hq29) gs_Reader_41 hd_Reader_readLaw ⟨Nat.le_of_ble_eq_true rfl, Nat.le_of_ble_eq_true rfl⟩ rfl hl.1 (Nat.le_of_ble_eq_true rfl) ⟨Nat.zero_le _, Nat.zero_le _⟩ rfl d_Reader_read_148) (fun H locs hS h30 => ?_)
                        refine lv_istore (lv' := [(5, vI (q29.2)), (0, .ref (b + 46)), (2, .ref (b + k2)), (3, vI v2_), (4, vI v3_)]) F.hx F.hb d_Reader_read_151 hl (Nat.le_of_ble_eq_true rfl) rfl (fun ls hl => ?_)
                        refine lv_goto (tgt := 167) F.hx F.hb d_Reader_read_153 (by decide) ?_
                        exact k_Reader_read_L167 l hlo k2 hk2 F hlk hr (fun a0_ a1_ a2_ => t_Reader_read_L10 k2 fu a0_ a1_ a2_) ih (q29.1) v2_ hv2_ v3_ hv3_ (q29.2) h30 _ _ _ hS (lv_sub hl [1, 2, 3, 4, 0] rfl) hT
                      ·
                        refine r_tableOut (tgt := 156) F.hx F.hb i6 (by omega) d_Reader_read_31 (by decide) ?_
                        refine lv_aload_n F.hx F.hb d_Reader_read_156 rfl (lv_at hl 0 rfl) ?_
                        refine r_iconst F.hx F.hb d_Reader_read_157 ?_
                        refine lv_aload_n F.hx F.hb d_Reader_read_158 rfl (lv_at hl 0 rfl) ?_
                        refine r_get (v := vI (M.1 46 4)) (N := 11) (T := T8) (j := 4) F hS (show 46 < 191 by decide) (show shK 46 = 12 from rfl) (show shN 46 = 11 from rfl) rfl (Nat.le_of_ble_eq_true rfl) ing8 mw_234 (fv_int rfl) d_Reader_read_159 ?_
                        have i31 := hS.rng 46 4
                        obtain ⟨q32, hq32⟩ : ∃ q, q = (t_Reader_refuse M 1 (M.1 46 4)) := ⟨_, rfl⟩
                        replace hT := qlet_eq hT hq32
                        refine r_backZ F hS (r_runV (k := 46) (N := 11) (T := T8) (As := [vI 1, vI (M.1 46 4)]) F hS (show 46 < 191 by decide) (show shK 46 = 12 from rfl) rfl (c_Reader_refuse l F.2.2.1 M 1 (M.1 46 4) (inr_c rfl) i31 _ hq32.symm) gs_Reader_47 hd_Reader_refuse ⟨Nat.le_of_ble_eq_true rfl, Nat.le_of_ble_eq_true rfl⟩ rfl hl.1 (Nat.le_of_ble_eq_true rfl) ⟨Nat.zero_le _, Nat.zero_le _⟩ rfl d_Reader_read_162) (fun H locs hS h33 => ?_)
                        refine lv_istore (lv' := [(5, vI (q32.2)), (0, .ref (b + 46)), (2, .ref (b + k2)), (3, vI v2_), (4, vI v3_)]) F.hx F.hb d_Reader_read_165 hl (Nat.le_of_ble_eq_true rfl) rfl (fun ls hl => ?_)
                        exact k_Reader_read_L167 l hlo k2 hk2 F hlk hr (fun a0_ a1_ a2_ => t_Reader_read_L10 k2 fu a0_ a1_ a2_) ih (q32.1) v2_ hv2_ v3_ hv3_ (q32.2) h33 _ _ _ hS (lv_sub hl [1, 2, 3, 4, 0] rfl) hT
set_option maxHeartbeats 4000000 in
set_option maxRecDepth 100000 in
theorem c_Reader_read (l : Launch) {b n : Nat} {C : CT} (hlo : 191 ≤ n) (M : Mem) (k2 : Nat) (hk2 : isTown k2) (res : Mem × Int) (hT : t_Reader_read M k2 = some res) : CM l b C n 6 y_Reader_read b_Reader_read 6 (some .int) [.ref (b + 46), .ref (b + 42), .ref (b + k2)] M (QI b C n res.1 res.2) := by
  refine CM.of (lo := 191) (ow := "WardFalls$Reader") (by decide) rfl (Nat.le_of_ble_eq_true rfl) hlo (fun p e s m below meth c F hlk hr hS ls hl => ?_)
  have hl : lv_has ls 6 [(0, .ref (b + 46)), (1, .ref (b + 42)), (2, .ref (b + k2))] := hl
  unfold t_Reader_read at hT
  refine lv_aload_n F.hx F.hb d_Reader_read_0 rfl (lv_at hl 0 rfl) ?_
  refine lv_aload_n F.hx F.hb d_Reader_read_1 rfl (lv_at hl 1 rfl) ?_
  obtain ⟨q1, hq1, hT⟩ := q_obind hT
  refine r_backV F hS (r_runV (k := 46) (N := 11) (T := T8) (As := [.ref (b + 42)]) F hS (show 46 < 191 by decide) (show shK 46 = 12 from rfl) rfl (c_Reader_begin l F.2.2.1 M _ hq1) gs_Reader_9 hd_Reader_begin ⟨Nat.le_of_ble_eq_true rfl, Nat.le_of_ble_eq_true rfl⟩ rfl hl.1 (Nat.le_of_ble_eq_true rfl) ⟨Nat.zero_le _, Nat.zero_le _⟩ rfl d_Reader_read_2) (fun H locs hS => ?_)
  refine r_iconst F.hx F.hb d_Reader_read_5 ?_
  refine lv_istore_n (lv' := [(3, vI 0), (0, .ref (b + 46)), (1, .ref (b + 42)), (2, .ref (b + k2))]) F.hx F.hb d_Reader_read_6 rfl hl (Nat.le_of_ble_eq_true rfl) rfl (fun ls hl => ?_)
  refine r_iconst F.hx F.hb d_Reader_read_7 ?_
  refine lv_istore (lv' := [(4, vI 0), (3, vI 0), (0, .ref (b + 46)), (1, .ref (b + 42)), (2, .ref (b + k2))]) F.hx F.hb d_Reader_read_8 hl (Nat.le_of_ble_eq_true rfl) rfl (fun ls hl => ?_)
  exact k_Reader_read_L10 l hlo k2 hk2 F hlk hr FU q1 0 (inr_c rfl) 0 (inr_c rfl) _ _ _ hS (lv_sub hl [2, 4, 1, 0] rfl) hT
theorem d_WF_text_0 : decode b_WF_text 0 = .ok (.iload_n 1, 1) := dc_27 (by decide +kernel)
theorem d_WF_text_1 : decode b_WF_text 1 = .ok (.ifCond .lt 11, 3) := dc_155 (by decide +kernel)
theorem d_WF_text_4 : decode b_WF_text 4 = .ok (.iload_n 1, 1) := dc_27 (by decide +kernel)
theorem d_WF_text_5 : decode b_WF_text 5 = .ok (.aload_n 0, 1) := dc_42 (by decide +kernel)
theorem d_WF_text_6 : decode b_WF_text 6 = .ok (.getfield 110, 3) := dc_180 (by decide +kernel)
theorem d_WF_text_9 : decode b_WF_text 9 = .ok (.if_icmp .le 6, 3) := dc_164 (by decide +kernel)
theorem d_WF_text_12 : decode b_WF_text 12 = .ok (.bipush (-2), 2) := dc_16 (by decide +kernel)
theorem d_WF_text_14 : decode b_WF_text 14 = .ok (.ireturn, 1) := dc_172 (by decide +kernel)
theorem d_WF_text_15 : decode b_WF_text 15 = .ok (.aload_n 0, 1) := dc_42 (by decide +kernel)
theorem d_WF_text_16 : decode b_WF_text 16 = .ok (.getfield 32, 3) := dc_180 (by decide +kernel)
theorem d_WF_text_19 : decode b_WF_text 19 = .ok (.aload_n 0, 1) := dc_42 (by decide +kernel)
theorem d_WF_text_20 : decode b_WF_text 20 = .ok (.getfield 11, 3) := dc_180 (by decide +kernel)
theorem d_WF_text_23 : decode b_WF_text 23 = .ok (.iload_n 1, 1) := dc_27 (by decide +kernel)
theorem d_WF_text_24 : decode b_WF_text 24 = .ok (.invokevirtual 117, 3) := dc_182 (by decide +kernel)
theorem d_WF_text_27 : decode b_WF_text 27 = .ok (.aload_n 0, 1) := dc_42 (by decide +kernel)
theorem d_WF_text_28 : decode b_WF_text 28 = .ok (.iconst 0, 1) := dc_3 (by decide +kernel)
theorem d_WF_text_29 : decode b_WF_text 29 = .ok (.putfield 110, 3) := dc_181 (by decide +kernel)
theorem d_WF_text_32 : decode b_WF_text 32 = .ok (.aload_n 0, 1) := dc_42 (by decide +kernel)
theorem d_WF_text_33 : decode b_WF_text 33 = .ok (.getfield 26, 3) := dc_180 (by decide +kernel)
theorem d_WF_text_36 : decode b_WF_text 36 = .ok (.invokevirtual 101, 3) := dc_182 (by decide +kernel)
theorem d_WF_text_39 : decode b_WF_text 39 = .ok (.aload_n 0, 1) := dc_42 (by decide +kernel)
theorem d_WF_text_40 : decode b_WF_text 40 = .ok (.getfield 39, 3) := dc_180 (by decide +kernel)
theorem d_WF_text_43 : decode b_WF_text 43 = .ok (.aload_n 0, 1) := dc_42 (by decide +kernel)
theorem d_WF_text_44 : decode b_WF_text 44 = .ok (.getfield 32, 3) := dc_180 (by decide +kernel)
theorem d_WF_text_47 : decode b_WF_text 47 = .ok (.aload_n 0, 1) := dc_42 (by decide +kernel)
theorem d_WF_text_48 : decode b_WF_text 48 = .ok (.getfield 26, 3) := dc_180 (by decide +kernel)
theorem d_WF_text_51 : decode b_WF_text 51 = .ok (.invokevirtual 121, 3) := dc_182 (by decide +kernel)
theorem d_WF_text_54 : decode b_WF_text 54 = .ok (.istore_n 2, 1) := dc_61 (by decide +kernel)
theorem d_WF_text_55 : decode b_WF_text 55 = .ok (.aload_n 0, 1) := dc_42 (by decide +kernel)
theorem d_WF_text_56 : decode b_WF_text 56 = .ok (.aload_n 0, 1) := dc_42 (by decide +kernel)
theorem d_WF_text_57 : decode b_WF_text 57 = .ok (.getfield 39, 3) := dc_180 (by decide +kernel)
theorem d_WF_text_60 : decode b_WF_text 60 = .ok (.getfield 125, 3) := dc_180 (by decide +kernel)
theorem d_WF_text_63 : decode b_WF_text 63 = .ok (.putfield 128, 3) := dc_181 (by decide +kernel)
theorem d_WF_text_66 : decode b_WF_text 66 = .ok (.aload_n 0, 1) := dc_42 (by decide +kernel)
theorem d_WF_text_67 : decode b_WF_text 67 = .ok (.aload_n 0, 1) := dc_42 (by decide +kernel)
theorem d_WF_text_68 : decode b_WF_text 68 = .ok (.getfield 39, 3) := dc_180 (by decide +kernel)
theorem d_WF_text_71 : decode b_WF_text 71 = .ok (.getfield 131, 3) := dc_180 (by decide +kernel)
theorem d_WF_text_74 : decode b_WF_text 74 = .ok (.putfield 15, 3) := dc_181 (by decide +kernel)
theorem d_WF_text_77 : decode b_WF_text 77 = .ok (.iload_n 2, 1) := dc_28 (by decide +kernel)
theorem d_WF_text_78 : decode b_WF_text 78 = .ok (.ifCond .ge 5, 3) := dc_156 (by decide +kernel)
theorem d_WF_text_81 : decode b_WF_text 81 = .ok (.iconst (-1), 1) := dc_2 (by decide +kernel)
theorem d_WF_text_82 : decode b_WF_text 82 = .ok (.ireturn, 1) := dc_172 (by decide +kernel)
theorem d_WF_text_83 : decode b_WF_text 83 = .ok (.aload_n 0, 1) := dc_42 (by decide +kernel)
theorem d_WF_text_84 : decode b_WF_text 84 = .ok (.getfield 26, 3) := dc_180 (by decide +kernel)
theorem d_WF_text_87 : decode b_WF_text 87 = .ok (.astore_n 3, 1) := dc_78 (by decide +kernel)
theorem d_WF_text_88 : decode b_WF_text 88 = .ok (.aload_n 0, 1) := dc_42 (by decide +kernel)
theorem d_WF_text_89 : decode b_WF_text 89 = .ok (.aload_n 0, 1) := dc_42 (by decide +kernel)
theorem d_WF_text_90 : decode b_WF_text 90 = .ok (.getfield 22, 3) := dc_180 (by decide +kernel)
theorem d_WF_text_93 : decode b_WF_text 93 = .ok (.putfield 26, 3) := dc_181 (by decide +kernel)
theorem d_WF_text_96 : decode b_WF_text 96 = .ok (.aload_n 0, 1) := dc_42 (by decide +kernel)
theorem d_WF_text_97 : decode b_WF_text 97 = .ok (.aload_n 3, 1) := dc_45 (by decide +kernel)
theorem d_WF_text_98 : decode b_WF_text 98 = .ok (.putfield 22, 3) := dc_181 (by decide +kernel)
theorem d_WF_text_101 : decode b_WF_text 101 = .ok (.aload_n 0, 1) := dc_42 (by decide +kernel)
theorem d_WF_text_102 : decode b_WF_text 102 = .ok (.invokevirtual 107, 3) := dc_182 (by decide +kernel)
theorem d_WF_text_105 : decode b_WF_text 105 = .ok (.iload_n 2, 1) := dc_28 (by decide +kernel)
theorem d_WF_text_106 : decode b_WF_text 106 = .ok (.ireturn, 1) := dc_172 (by decide +kernel)
def t_WF_text (M : Mem) (x1 : Int) : Option (Mem × Int) := (if x1 < 0 then (some (M, (-2))) else (if x1 ≤ (M.1 0 1) then (obind (t_Tokens_scan M 1 700 x1) fun q4 => (qlet (setI q4 0 1 0) fun M6 => (obind (t_Town_clear M6 ((M6.1 0 5).toNat)) fun q8 => (obind (t_Reader_read q8 ((q8.1 0 5).toNat)) fun q11 => (qlet (setI (q11.1) 0 2 ((q11.1).1 46 9)) fun M14 => (qlet (setI M14 0 3 (M14.1 46 10)) fun M16 => (if 0 ≤ (q11.2) then (qlet (setI M16 0 5 (((M16.1 0 4).toNat) : Nat)) fun M20 => (qlet (setI M20 0 4 (((M16.1 0 5).toNat) : Nat)) fun M21 => (obind (t_WF_startAnew M21) fun q22 => (some (q22, (q11.2)))))) else (some (M16, (-1)))))))))) else (some (M, (-2)))))
set_option maxHeartbeats 4000000 in
set_option maxRecDepth 100000 in
theorem c_WF_text (l : Launch) {b n : Nat} {C : CT} (hlo : 191 ≤ n) (M : Mem) (x1 : Int) (hx1 : InR x1) (res : Mem × Int) (hT : t_WF_text M x1 = some res) : CM l b C n 8 y_WF_text b_WF_text 4 (some .int) [.ref (b + 0), vI x1] M (QI b C n res.1 res.2) := by
  refine CM.of (lo := 191) (ow := "WardFalls") (by decide) rfl (Nat.le_of_ble_eq_true rfl) hlo (fun p e s m below meth c F hlk hr hS ls hl => ?_)
  have hl : lv_has ls 4 [(0, .ref (b + 0)), (1, vI x1)] := hl
  unfold t_WF_text at hT
  refine lv_iload_n F.hx F.hb d_WF_text_0 rfl (lv_at hl 1 rfl) ?_
  refine r_if_lt (tgt := 12) F.hx F.hb hx1 d_WF_text_1 (by decide) (fun c1 => ?_) (fun c1 => ?_)
  · replace hT := (if_pos c1).symm.trans hT
    refine r_bipush F.hx F.hb d_WF_text_12 rfl ?_
    cases hT
    exact r_iret F hlk hr rfl hS (inr_c rfl) d_WF_text_14
  · replace hT := (if_neg c1).symm.trans hT
    refine lv_iload_n F.hx F.hb d_WF_text_4 rfl (lv_at hl 1 rfl) ?_
    refine lv_aload_n F.hx F.hb d_WF_text_5 rfl (lv_at hl 0 rfl) ?_
    refine r_get (v := vI (M.1 0 1)) (N := 19) (T := T0) (j := 1) F hS (show 0 < 191 by decide) (show shK 0 = 4 from rfl) (show shN 0 = 19 from rfl) rfl (Nat.le_of_ble_eq_true rfl) ing0 mw_551 (fv_int rfl) d_WF_text_6 ?_
    have i2 := hS.rng 0 1
    refine r_icmp_le (tgt := 15) F.hx F.hb hx1 i2 d_WF_text_9 (by decide) (fun c3 => ?_) (fun c3 => ?_)
    · replace hT := (if_pos c3).symm.trans hT
      refine lv_aload_n F.hx F.hb d_WF_text_15 rfl (lv_at hl 0 rfl) ?_
      refine r_get (v := .ref (b + 42)) (N := 19) (T := T0) (j := 6) F hS (show 0 < 191 by decide) (show shK 0 = 4 from rfl) (show shN 0 = 19 from rfl) rfl (Nat.le_of_ble_eq_true rfl) ing0 mw_556 (fv_sg rfl rfl rfl) d_WF_text_16 ?_
      refine lv_aload_n F.hx F.hb d_WF_text_19 rfl (lv_at hl 0 rfl) ?_
      refine r_get (v := .ref (b + 1)) (N := 19) (T := T0) (j := 0) F hS (show 0 < 191 by decide) (show shK 0 = 4 from rfl) (show shN 0 = 19 from rfl) rfl (Nat.le_of_ble_eq_true rfl) ing0 mw_550 (fv_sg rfl rfl rfl) d_WF_text_20 ?_
      refine lv_iload_n F.hx F.hb d_WF_text_23 rfl (lv_at hl 1 rfl) ?_
      obtain ⟨q4, hq4, hT⟩ := q_obind hT
      refine r_backV F hS (r_runV (k := 42) (N := 4) (T := T10) (As := [.ref (b + 1), vI x1]) F hS (show 42 < 191 by decide) (show shK 42 = 14 from rfl) rfl (c_Tokens_scan l F.2.2.1 M 1 700 x1 (show arrP 0 1 700 191 from ⟨rfl, rfl, by decide⟩) hx1 _ hq4) gs_WF_117 hd_Tokens_scan ⟨Nat.le_of_ble_eq_true rfl, Nat.le_of_ble_eq_true rfl⟩ rfl hl.1 (Nat.le_of_ble_eq_true rfl) ⟨Nat.zero_le _, Nat.zero_le _⟩ rfl d_WF_text_24) (fun H locs hS => ?_)
      refine lv_aload_n F.hx F.hb d_WF_text_27 rfl (lv_at hl 0 rfl) ?_
      refine r_iconst F.hx F.hb d_WF_text_28 ?_
      refine r_putI (N := 19) (T := T0) (j := 1) F hS (show 0 < 191 by decide) (show shK 0 = 4 from rfl) (show shN 0 = 19 from rfl) rfl (Nat.le_of_ble_eq_true rfl) ing0 tyok0 nm0 rfl rfl rfl rfl rfl rfl mw_551 (inr_c rfl) d_WF_text_29 (fun H locs hS => ?_)
      obtain ⟨M6, eM6⟩ : ∃ q, q = (setI q4 0 1 0) := ⟨_, rfl⟩
      replace hS : St b C n M6 s H locs := by rw [eM6]; exact hS
      replace hT := qlet_eq hT eM6
      refine lv_aload_n F.hx F.hb d_WF_text_32 rfl (lv_at hl 0 rfl) ?_
      have h7 := St_spare hS
      refine r_get (v := .ref (b + ((M6.1 0 5).toNat))) (N := 19) (T := T0) (j := 5) F hS (show 0 < 191 by decide) (show shK 0 = 4 from rfl) (show shN 0 = 19 from rfl) rfl (Nat.le_of_ble_eq_true rfl) ing0 mw_555 (fv_spare hS) d_WF_text_33 ?_
      obtain ⟨q8, hq8, hT⟩ := q_obind hT
      refine r_backV F hS (r_runV (k := ((M6.1 0 5).toNat)) (N := 20) (T := T11) (As := []) F hS (Town_lt h7) (Town_sh h7) rfl (c_Town_clear l F.2.2.1 M6 ((M6.1 0 5).toNat) h7 _ hq8) gs_WF_101 hd_Town_clear ⟨Nat.le_of_ble_eq_true rfl, Nat.le_of_ble_eq_true rfl⟩ rfl hl.1 (Nat.le_of_ble_eq_true rfl) ⟨Nat.zero_le _, Nat.zero_le _⟩ rfl d_WF_text_36) (fun H locs hS => ?_)
      refine lv_aload_n F.hx F.hb d_WF_text_39 rfl (lv_at hl 0 rfl) ?_
      refine r_get (v := .ref (b + 46)) (N := 19) (T := T0) (j := 7) F hS (show 0 < 191 by decide) (show shK 0 = 4 from rfl) (show shN 0 = 19 from rfl) rfl (Nat.le_of_ble_eq_true rfl) ing0 mw_557 (fv_sg rfl rfl rfl) d_WF_text_40 ?_
      refine lv_aload_n F.hx F.hb d_WF_text_43 rfl (lv_at hl 0 rfl) ?_
      refine r_get (v := .ref (b + 42)) (N := 19) (T := T0) (j := 6) F hS (show 0 < 191 by decide) (show shK 0 = 4 from rfl) (show shN 0 = 19 from rfl) rfl (Nat.le_of_ble_eq_true rfl) ing0 mw_556 (fv_sg rfl rfl rfl) d_WF_text_44 ?_
      refine lv_aload_n F.hx F.hb d_WF_text_47 rfl (lv_at hl 0 rfl) ?_
      have h10 := St_spare hS
      refine r_get (v := .ref (b + ((q8.1 0 5).toNat))) (N := 19) (T := T0) (j := 5) F hS (show 0 < 191 by decide) (show shK 0 = 4 from rfl) (show shN 0 = 19 from rfl) rfl (Nat.le_of_ble_eq_true rfl) ing0 mw_555 (fv_spare hS) d_WF_text_48 ?_
      obtain ⟨q11, hq11, hT⟩ := q_obind hT
      refine r_backI F hS (r_runV (k := 46) (N := 11) (T := T8) (As := [.ref (b + 42), .ref (b + ((q8.1 0 5).toNat))]) F hS (show 46 < 191 by decide) (show shK 46 = 12 from rfl) rfl (c_Reader_read l F.2.2.1 q8 ((q8.1 0 5).toNat) h10 _ hq11) gs_WF_121 hd_Reader_read ⟨Nat.le_of_ble_eq_true rfl, Nat.le_of_ble_eq_true rfl⟩ rfl hl.1 (Nat.le_of_ble_eq_true rfl) ⟨Nat.zero_le _, Nat.zero_le _⟩ rfl d_WF_text_51) (fun H locs hS h12 => ?_)
      refine lv_istore_n (lv' := [(2, vI (q11.2)), (0, .ref (b + 0)), (1, vI x1)]) F.hx F.hb d_WF_text_54 rfl hl (Nat.le_of_ble_eq_true rfl) rfl (fun ls hl => ?_)
      refine lv_aload_n F.hx F.hb d_WF_text_55 rfl (lv_at hl 1 rfl) ?_
      refine lv_aload_n F.hx F.hb d_WF_text_56 rfl (lv_at hl 1 rfl) ?_
      refine r_get (v := .ref (b + 46)) (N := 19) (T := T0) (j := 7) F hS (show 0 < 191 by decide) (show shK 0 = 4 from rfl) (show shN 0 = 19 from rfl) rfl (Nat.le_of_ble_eq_true rfl) ing0 mw_557 (fv_sg rfl rfl rfl) d_WF_text_57 ?_
      refine r_get (v := vI ((q11.1).1 46 9)) (N := 11) (T := T8) (j := 9) F hS (show 46 < 191 by decide) (show shK 46 = 12 from rfl) (show shN 46 = 11 from rfl) rfl (Nat.le_of_ble_eq_true rfl) ing8 mw_240 (fv_int rfl) d_WF_text_60 ?_
      have i13 := hS.rng 46 9
      refine r_putI (N := 19) (T := T0) (j := 2) F hS (show 0 < 191 by decide) (show shK 0 = 4 from rfl) (show shN 0 = 19 from rfl) rfl (Nat.le_of_ble_eq_true rfl) ing0 tyok0 nm0 rfl rfl rfl rfl rfl rfl mw_552 i13 d_WF_text_63 (fun H locs hS => ?_)
      obtain ⟨M14, eM14⟩ : ∃ q, q = (setI (q11.1) 0 2 ((q11.1).1 46 9)) := ⟨_, rfl⟩
      replace hS : St b C n M14 s H locs := by rw [eM14]; exact hS
      replace hT := qlet_eq hT eM14
      refine lv_aload_n F.hx F.hb d_WF_text_66 rfl (lv_at hl 1 rfl) ?_
      refine lv_aload_n F.hx F.hb d_WF_text_67 rfl (lv_at hl 1 rfl) ?_
      refine r_get (v := .ref (b + 46)) (N := 19) (T := T0) (j := 7) F hS (show 0 < 191 by decide) (show shK 0 = 4 from rfl) (show shN 0 = 19 from rfl) rfl (Nat.le_of_ble_eq_true rfl) ing0 mw_557 (fv_sg rfl rfl rfl) d_WF_text_68 ?_
      refine r_get (v := vI (M14.1 46 10)) (N := 11) (T := T8) (j := 10) F hS (show 46 < 191 by decide) (show shK 46 = 12 from rfl) (show shN 46 = 11 from rfl) rfl (Nat.le_of_ble_eq_true rfl) ing8 mw_242 (fv_int rfl) d_WF_text_71 ?_
      have i15 := hS.rng 46 10
      refine r_putI (N := 19) (T := T0) (j := 3) F hS (show 0 < 191 by decide) (show shK 0 = 4 from rfl) (show shN 0 = 19 from rfl) rfl (Nat.le_of_ble_eq_true rfl) ing0 tyok0 nm0 rfl rfl rfl rfl rfl rfl mw_553 i15 d_WF_text_74 (fun H locs hS => ?_)
      obtain ⟨M16, eM16⟩ : ∃ q, q = (setI M14 0 3 (M14.1 46 10)) := ⟨_, rfl⟩
      replace hS : St b C n M16 s H locs := by rw [eM16]; exact hS
      replace hT := qlet_eq hT eM16
      refine lv_iload_n F.hx F.hb d_WF_text_77 rfl (lv_at hl 0 rfl) ?_
      refine r_if_ge (tgt := 83) F.hx F.hb h12 d_WF_text_78 (by decide) (fun c17 => ?_) (fun c17 => ?_)
      · replace hT := (if_pos c17).symm.trans hT
        refine lv_aload_n F.hx F.hb d_WF_text_83 rfl (lv_at hl 1 rfl) ?_
        have h18 := St_spare hS
        refine r_get (v := .ref (b + ((M16.1 0 5).toNat))) (N := 19) (T := T0) (j := 5) F hS (show 0 < 191 by decide) (show shK 0 = 4 from rfl) (show shN 0 = 19 from rfl) rfl (Nat.le_of_ble_eq_true rfl) ing0 mw_555 (fv_spare hS) d_WF_text_84 ?_
        refine lv_astore_n (lv' := [(3, .ref (b + ((M16.1 0 5).toNat))), (2, vI (q11.2)), (0, .ref (b + 0)), (1, vI x1)]) F.hx F.hb d_WF_text_87 rfl hl (Nat.le_of_ble_eq_true rfl) rfl (fun ls hl => ?_)
        refine lv_aload_n F.hx F.hb d_WF_text_88 rfl (lv_at hl 2 rfl) ?_
        refine lv_aload_n F.hx F.hb d_WF_text_89 rfl (lv_at hl 2 rfl) ?_
        have h19 := St_town hS
        refine r_get (v := .ref (b + ((M16.1 0 4).toNat))) (N := 19) (T := T0) (j := 4) F hS (show 0 < 191 by decide) (show shK 0 = 4 from rfl) (show shN 0 = 19 from rfl) rfl (Nat.le_of_ble_eq_true rfl) ing0 mw_554 (fv_town hS) d_WF_text_90 ?_
        refine r_putSpare F hS h19 mw_555 d_WF_text_93 (fun H locs hS => ?_)
        obtain ⟨M20, eM20⟩ : ∃ q, q = (setI M16 0 5 (((M16.1 0 4).toNat) : Nat)) := ⟨_, rfl⟩
        replace hS : St b C n M20 s H locs := by rw [eM20]; exact hS
        replace hT := qlet_eq hT eM20
        refine lv_aload_n F.hx F.hb d_WF_text_96 rfl (lv_at hl 2 rfl) ?_
        refine lv_aload_n F.hx F.hb d_WF_text_97 rfl (lv_at hl 0 rfl) ?_
        refine r_putTown F hS h18 mw_554 d_WF_text_98 (fun H locs hS => ?_)
        obtain ⟨M21, eM21⟩ : ∃ q, q = (setI M20 0 4 (((M16.1 0 5).toNat) : Nat)) := ⟨_, rfl⟩
        replace hS : St b C n M21 s H locs := by rw [eM21]; exact hS
        replace hT := qlet_eq hT eM21
        refine lv_aload_n F.hx F.hb d_WF_text_101 rfl (lv_at hl 2 rfl) ?_
        obtain ⟨q22, hq22, hT⟩ := q_obind hT
        refine r_backV F hS (r_runV (k := 0) (N := 19) (T := T0) (As := []) F hS (show 0 < 191 by decide) (show shK 0 = 4 from rfl) rfl (c_WF_startAnew l F.2.2.1 M21 _ hq22) gs_WF_107 hd_WF_startAnew ⟨Nat.le_of_ble_eq_true rfl, Nat.le_of_ble_eq_true rfl⟩ rfl hl.1 (Nat.le_of_ble_eq_true rfl) ⟨Nat.zero_le _, Nat.zero_le _⟩ rfl d_WF_text_102) (fun H locs hS => ?_)
        refine lv_iload_n F.hx F.hb d_WF_text_105 rfl (lv_at hl 1 rfl) ?_
        cases hT
        exact r_iret F hlk hr rfl hS h12 d_WF_text_106
      · replace hT := (if_neg c17).symm.trans hT
        refine r_iconst F.hx F.hb d_WF_text_81 ?_
        cases hT
        exact r_iret F hlk hr rfl hS (inr_c rfl) d_WF_text_82
    · replace hT := (if_neg c3).symm.trans hT
      refine r_bipush F.hx F.hb d_WF_text_12 rfl ?_
      cases hT
      exact r_iret F hlk hr rfl hS (inr_c rfl) d_WF_text_14
theorem d_WF_fault_0 : decode b_WF_fault 0 = .ok (.iload_n 1, 1) := dc_27 (by decide +kernel)
theorem d_WF_fault_1 : decode b_WF_fault 1 = .ok (.lookupswitch 37 #[(0, 27), (1, 32)], 27) := by decide +kernel
theorem d_WF_fault_28 : decode b_WF_fault 28 = .ok (.aload_n 0, 1) := dc_42 (by decide +kernel)
theorem d_WF_fault_29 : decode b_WF_fault 29 = .ok (.getfield 128, 3) := dc_180 (by decide +kernel)
theorem d_WF_fault_32 : decode b_WF_fault 32 = .ok (.ireturn, 1) := dc_172 (by decide +kernel)
theorem d_WF_fault_33 : decode b_WF_fault 33 = .ok (.aload_n 0, 1) := dc_42 (by decide +kernel)
theorem d_WF_fault_34 : decode b_WF_fault 34 = .ok (.getfield 15, 3) := dc_180 (by decide +kernel)
theorem d_WF_fault_37 : decode b_WF_fault 37 = .ok (.ireturn, 1) := dc_172 (by decide +kernel)
theorem d_WF_fault_38 : decode b_WF_fault 38 = .ok (.iconst (-1), 1) := dc_2 (by decide +kernel)
theorem d_WF_fault_39 : decode b_WF_fault 39 = .ok (.ireturn, 1) := dc_172 (by decide +kernel)
def t_WF_fault (M : Mem) (x1 : Int) : Int := (if x1 = 0 then (M.1 0 2) else (if x1 = 1 then (M.1 0 3) else (-1)))
set_option maxHeartbeats 4000000 in
set_option maxRecDepth 100000 in
theorem c_WF_fault (l : Launch) {b n : Nat} {C : CT} (hlo : 191 ≤ n) (M : Mem) (x1 : Int) (hx1 : InR x1) (res : Int) (hT : t_WF_fault M x1 = res) : CM l b C n 0 y_WF_fault b_WF_fault 2 (some .int) [.ref (b + 0), vI x1] M (QI b C n M res) := by
  refine CM.of (lo := 191) (ow := "WardFalls") (by decide) rfl (Nat.le_of_ble_eq_true rfl) hlo (fun p e s m below meth c F hlk hr hS ls hl => ?_)
  have hl : lv_has ls 2 [(0, .ref (b + 0)), (1, vI x1)] := hl
  unfold t_WF_fault at hT
  refine lv_iload_n F.hx F.hb d_WF_fault_0 rfl (lv_at hl 1 rfl) ?_
  rcases q_ite hT with ⟨c1, hT⟩ | ⟨c1, hT⟩
  · refine r_lookup (off := 27) (tgt := 28) F.hx F.hb hx1 d_WF_fault_1 (by decide) (by rw [c1] <;> rfl) (by decide) ?_
    refine lv_aload_n F.hx F.hb d_WF_fault_28 rfl (lv_at hl 0 rfl) ?_
    refine r_get (v := vI (M.1 0 2)) (N := 19) (T := T0) (j := 2) F hS (show 0 < 191 by decide) (show shK 0 = 4 from rfl) (show shN 0 = 19 from rfl) rfl (Nat.le_of_ble_eq_true rfl) ing0 mw_552 (fv_int rfl) d_WF_fault_29 ?_
    have i2 := hS.rng 0 2
    subst hT
    exact r_iret F hlk hr rfl hS i2 d_WF_fault_32
  ·
    rcases q_ite hT with ⟨c3, hT⟩ | ⟨c3, hT⟩
    · refine r_lookup (off := 32) (tgt := 33) F.hx F.hb hx1 d_WF_fault_1 (by decide) (by rw [c3] <;> rfl) (by decide) ?_
      refine lv_aload_n F.hx F.hb d_WF_fault_33 rfl (lv_at hl 0 rfl) ?_
      refine r_get (v := vI (M.1 0 3)) (N := 19) (T := T0) (j := 3) F hS (show 0 < 191 by decide) (show shK 0 = 4 from rfl) (show shN 0 = 19 from rfl) rfl (Nat.le_of_ble_eq_true rfl) ing0 mw_553 (fv_int rfl) d_WF_fault_34 ?_
      have i4 := hS.rng 0 3
      subst hT
      exact r_iret F hlk hr rfl hS i4 d_WF_fault_37
    ·
      refine r_lookup (off := 37) (tgt := 38) F.hx F.hb hx1 d_WF_fault_1 (by decide) (by simp [Op.lookupswitch.offset, List.find?, q_nes c1, q_nes c3]) (by decide) ?_
      refine r_iconst F.hx F.hb d_WF_fault_38 ?_
      subst hT
      exact r_iret F hlk hr rfl hS (inr_c rfl) d_WF_fault_39
theorem d_WF_named_0 : decode b_WF_named 0 = .ok (.iload_n 1, 1) := dc_27 (by decide +kernel)
theorem d_WF_named_1 : decode b_WF_named 1 = .ok (.lookupswitch 65 #[(0, 27), (1, 46)], 27) := by decide +kernel
theorem d_WF_named_28 : decode b_WF_named 28 = .ok (.aload_n 0, 1) := dc_42 (by decide +kernel)
theorem d_WF_named_29 : decode b_WF_named 29 = .ok (.getfield 22, 3) := dc_180 (by decide +kernel)
theorem d_WF_named_32 : decode b_WF_named 32 = .ok (.getfield 134, 3) := dc_180 (by decide +kernel)
theorem d_WF_named_35 : decode b_WF_named 35 = .ok (.aload_n 0, 1) := dc_42 (by decide +kernel)
theorem d_WF_named_36 : decode b_WF_named 36 = .ok (.getfield 22, 3) := dc_180 (by decide +kernel)
theorem d_WF_named_39 : decode b_WF_named 39 = .ok (.getfield 137, 3) := dc_180 (by decide +kernel)
theorem d_WF_named_42 : decode b_WF_named 42 = .ok (.iload_n 2, 1) := dc_28 (by decide +kernel)
theorem d_WF_named_43 : decode b_WF_named 43 = .ok (.invokestatic 140, 3) := dc_184 (by decide +kernel)
theorem d_WF_named_46 : decode b_WF_named 46 = .ok (.ireturn, 1) := dc_172 (by decide +kernel)
theorem d_WF_named_47 : decode b_WF_named 47 = .ok (.aload_n 0, 1) := dc_42 (by decide +kernel)
theorem d_WF_named_48 : decode b_WF_named 48 = .ok (.getfield 22, 3) := dc_180 (by decide +kernel)
theorem d_WF_named_51 : decode b_WF_named 51 = .ok (.getfield 144, 3) := dc_180 (by decide +kernel)
theorem d_WF_named_54 : decode b_WF_named 54 = .ok (.aload_n 0, 1) := dc_42 (by decide +kernel)
theorem d_WF_named_55 : decode b_WF_named 55 = .ok (.getfield 22, 3) := dc_180 (by decide +kernel)
theorem d_WF_named_58 : decode b_WF_named 58 = .ok (.getfield 147, 3) := dc_180 (by decide +kernel)
theorem d_WF_named_61 : decode b_WF_named 61 = .ok (.iload_n 2, 1) := dc_28 (by decide +kernel)
theorem d_WF_named_62 : decode b_WF_named 62 = .ok (.invokestatic 140, 3) := dc_184 (by decide +kernel)
theorem d_WF_named_65 : decode b_WF_named 65 = .ok (.ireturn, 1) := dc_172 (by decide +kernel)
theorem d_WF_named_66 : decode b_WF_named 66 = .ok (.iconst (-1), 1) := dc_2 (by decide +kernel)
theorem d_WF_named_67 : decode b_WF_named 67 = .ok (.ireturn, 1) := dc_172 (by decide +kernel)
def t_WF_named (M : Mem) (x1 : Int) (x2 : Int) : Option (Int) := (if x1 = 0 then (obind (t_WF_indexOf M (((M.1 0 4).toNat) + 1) 4 (M.1 ((M.1 0 4).toNat) 14) x2) fun q5 => (some q5)) else (if x1 = 1 then (obind (t_WF_indexOf M (((M.1 0 4).toNat) + 5) 8 (M.1 ((M.1 0 4).toNat) 15) x2) fun q11 => (some q11)) else (some (-1))))
set_option maxHeartbeats 4000000 in
set_option maxRecDepth 100000 in
theorem c_WF_named (l : Launch) {b n : Nat} {C : CT} (hlo : 191 ≤ n) (M : Mem) (x1 : Int) (x2 : Int) (hx1 : InR x1) (hx2 : InR x2) (res : Int) (hT : t_WF_named M x1 x2 = some res) : CM l b C n 1 y_WF_named b_WF_named 3 (some .int) [.ref (b + 0), vI x1, vI x2] M (QI b C n M res) := by
  refine CM.of (lo := 191) (ow := "WardFalls") (by decide) rfl (Nat.le_of_ble_eq_true rfl) hlo (fun p e s m below meth c F hlk hr hS ls hl => ?_)
  have hl : lv_has ls 3 [(0, .ref (b + 0)), (1, vI x1), (2, vI x2)] := hl
  unfold t_WF_named at hT
  refine lv_iload_n F.hx F.hb d_WF_named_0 rfl (lv_at hl 1 rfl) ?_
  rcases q_ite hT with ⟨c1, hT⟩ | ⟨c1, hT⟩
  · refine r_lookup (off := 27) (tgt := 28) F.hx F.hb hx1 d_WF_named_1 (by decide) (by rw [c1] <;> rfl) (by decide) ?_
    refine lv_aload_n F.hx F.hb d_WF_named_28 rfl (lv_at hl 0 rfl) ?_
    have h2 := St_town hS
    refine r_get (v := .ref (b + ((M.1 0 4).toNat))) (N := 19) (T := T0) (j := 4) F hS (show 0 < 191 by decide) (show shK 0 = 4 from rfl) (show shN 0 = 19 from rfl) rfl (Nat.le_of_ble_eq_true rfl) ing0 mw_554 (fv_town hS) d_WF_named_29 ?_
    refine r_get (v := .ref (b + (((M.1 0 4).toNat) + 1))) (N := 20) (T := T11) (j := 0) F hS (Town_lt h2) (Town_sh h2) (Town_N h2) rfl (Nat.le_of_ble_eq_true rfl) ing11 mw_90 (Town_g0 h2 _) d_WF_named_32 ?_
    refine lv_aload_n F.hx F.hb d_WF_named_35 rfl (lv_at hl 0 rfl) ?_
    have h3 := St_town hS
    refine r_get (v := .ref (b + ((M.1 0 4).toNat))) (N := 19) (T := T0) (j := 4) F hS (show 0 < 191 by decide) (show shK 0 = 4 from rfl) (show shN 0 = 19 from rfl) rfl (Nat.le_of_ble_eq_true rfl) ing0 mw_554 (fv_town hS) d_WF_named_36 ?_
    refine r_get (v := vI (M.1 ((M.1 0 4).toNat) 14)) (N := 20) (T := T11) (j := 14) F hS (Town_lt h3) (Town_sh h3) (Town_N h3) rfl (Nat.le_of_ble_eq_true rfl) ing11 mw_137 (fv_int rfl) d_WF_named_39 ?_
    have i4 := hS.rng ((M.1 0 4).toNat) 14
    refine lv_iload_n F.hx F.hb d_WF_named_42 rfl (lv_at hl 2 rfl) ?_
    obtain ⟨q5, hq5, hT⟩ := q_obind hT
    refine r_backI F hS (r_runS (As := [.ref (b + (((M.1 0 4).toNat) + 1)), vI (M.1 ((M.1 0 4).toNat) 14), vI x2]) F hS (c_WF_indexOf l F.2.2.1 M (((M.1 0 4).toNat) + 1) 4 (M.1 ((M.1 0 4).toNat) 14) x2 (Town_f0 h2) i4 hx2 _ hq5) gs_WF_140 hd_WF_indexOf ⟨Nat.le_of_ble_eq_true rfl, Nat.le_of_ble_eq_true rfl⟩ rfl hl.1 (Nat.le_of_ble_eq_true rfl) ⟨Nat.zero_le _, Nat.zero_le _⟩ rfl d_WF_named_43) (fun H locs hS h6 => ?_)
    cases hT
    exact r_iret F hlk hr rfl hS h6 d_WF_named_46
  ·
    rcases q_ite hT with ⟨c7, hT⟩ | ⟨c7, hT⟩
    · refine r_lookup (off := 46) (tgt := 47) F.hx F.hb hx1 d_WF_named_1 (by decide) (by rw [c7] <;> rfl) (by decide) ?_
      refine lv_aload_n F.hx F.hb d_WF_named_47 rfl (lv_at hl 0 rfl) ?_
      have h8 := St_town hS
      refine r_get (v := .ref (b + ((M.1 0 4).toNat))) (N := 19) (T := T0) (j := 4) F hS (show 0 < 191 by decide) (show shK 0 = 4 from rfl) (show shN 0 = 19 from rfl) rfl (Nat.le_of_ble_eq_true rfl) ing0 mw_554 (fv_town hS) d_WF_named_48 ?_
      refine r_get (v := .ref (b + (((M.1 0 4).toNat) + 5))) (N := 20) (T := T11) (j := 4) F hS (Town_lt h8) (Town_sh h8) (Town_N h8) rfl (Nat.le_of_ble_eq_true rfl) ing11 mw_102 (Town_g4 h8 _) d_WF_named_51 ?_
      refine lv_aload_n F.hx F.hb d_WF_named_54 rfl (lv_at hl 0 rfl) ?_
      have h9 := St_town hS
      refine r_get (v := .ref (b + ((M.1 0 4).toNat))) (N := 19) (T := T0) (j := 4) F hS (show 0 < 191 by decide) (show shK 0 = 4 from rfl) (show shN 0 = 19 from rfl) rfl (Nat.le_of_ble_eq_true rfl) ing0 mw_554 (fv_town hS) d_WF_named_55 ?_
      refine r_get (v := vI (M.1 ((M.1 0 4).toNat) 15)) (N := 20) (T := T11) (j := 15) F hS (Town_lt h9) (Town_sh h9) (Town_N h9) rfl (Nat.le_of_ble_eq_true rfl) ing11 mw_143 (fv_int rfl) d_WF_named_58 ?_
      have i10 := hS.rng ((M.1 0 4).toNat) 15
      refine lv_iload_n F.hx F.hb d_WF_named_61 rfl (lv_at hl 2 rfl) ?_
      obtain ⟨q11, hq11, hT⟩ := q_obind hT
      refine r_backI F hS (r_runS (As := [.ref (b + (((M.1 0 4).toNat) + 5)), vI (M.1 ((M.1 0 4).toNat) 15), vI x2]) F hS (c_WF_indexOf l F.2.2.1 M (((M.1 0 4).toNat) + 5) 8 (M.1 ((M.1 0 4).toNat) 15) x2 (Town_f4 h8) i10 hx2 _ hq11) gs_WF_140 hd_WF_indexOf ⟨Nat.le_of_ble_eq_true rfl, Nat.le_of_ble_eq_true rfl⟩ rfl hl.1 (Nat.le_of_ble_eq_true rfl) ⟨Nat.zero_le _, Nat.zero_le _⟩ rfl d_WF_named_62) (fun H locs hS h12 => ?_)
      cases hT
      exact r_iret F hlk hr rfl hS h12 d_WF_named_65
    ·
      refine r_lookup (off := 65) (tgt := 66) F.hx F.hb hx1 d_WF_named_1 (by decide) (by simp [Op.lookupswitch.offset, List.find?, q_nes c1, q_nes c7]) (by decide) ?_
      refine r_iconst F.hx F.hb d_WF_named_66 ?_
      cases hT
      exact r_iret F hlk hr rfl hS (inr_c rfl) d_WF_named_67
theorem d_Town_hasCell_0 : decode b_Town_hasCell 0 = .ok (.iload_n 1, 1) := dc_27 (by decide +kernel)
theorem d_Town_hasCell_1 : decode b_Town_hasCell 1 = .ok (.ifCond .lt 15, 3) := dc_155 (by decide +kernel)
theorem d_Town_hasCell_4 : decode b_Town_hasCell 4 = .ok (.iload_n 1, 1) := dc_27 (by decide +kernel)
theorem d_Town_hasCell_5 : decode b_Town_hasCell 5 = .ok (.aload_n 0, 1) := dc_42 (by decide +kernel)
theorem d_Town_hasCell_6 : decode b_Town_hasCell 6 = .ok (.getfield 84, 3) := dc_180 (by decide +kernel)
theorem d_Town_hasCell_9 : decode b_Town_hasCell 9 = .ok (.if_icmp .ge 7, 3) := dc_162 (by decide +kernel)
theorem d_Town_hasCell_12 : decode b_Town_hasCell 12 = .ok (.iconst 1, 1) := dc_4 (by decide +kernel)
theorem d_Town_hasCell_13 : decode b_Town_hasCell 13 = .ok (.goto 4, 3) := dc_167 (by decide +kernel)
theorem d_Town_hasCell_16 : decode b_Town_hasCell 16 = .ok (.iconst 0, 1) := dc_3 (by decide +kernel)
theorem d_Town_hasCell_17 : decode b_Town_hasCell 17 = .ok (.ireturn, 1) := dc_172 (by decide +kernel)
def t_Town_hasCell (M : Mem) (k0 : Nat) (x1 : Int) : Int := (if x1 < 0 then 0 else (if (M.1 k0 13) ≤ x1 then 0 else 1))
set_option maxHeartbeats 4000000 in
set_option maxRecDepth 100000 in
theorem c_Town_hasCell (l : Launch) {b n : Nat} {C : CT} (hlo : 191 ≤ n) (M : Mem) (k0 : Nat) (x1 : Int) (hk0 : isTown k0) (hx1 : InR x1) (res : Int) (hT : t_Town_hasCell M k0 x1 = res) : CM l b C n 0 y_Town_hasCell b_Town_hasCell 2 (some .boolean) [.ref (b + k0), vI x1] M (QZ b C n M res) := by
  refine CM.of (lo := 191) (ow := "WardFalls$Town") (by decide) rfl (Nat.le_of_ble_eq_true rfl) hlo (fun p e s m below meth c F hlk hr hS ls hl => ?_)
  have hl : lv_has ls 2 [(0, .ref (b + k0)), (1, vI x1)] := hl
  unfold t_Town_hasCell at hT
  refine lv_iload_n F.hx F.hb d_Town_hasCell_0 rfl (lv_at hl 1 rfl) ?_
  refine r_if_lt (tgt := 16) F.hx F.hb hx1 d_Town_hasCell_1 (by decide) (fun c1 => ?_) (fun c1 => ?_)
  · replace hT := (if_pos c1).symm.trans hT
    refine r_iconst F.hx F.hb d_Town_hasCell_16 ?_
    subst hT
    exact r_zret F hlk hr hS (Or.inl rfl) d_Town_hasCell_17
  · replace hT := (if_neg c1).symm.trans hT
    refine lv_iload_n F.hx F.hb d_Town_hasCell_4 rfl (lv_at hl 1 rfl) ?_
    refine lv_aload_n F.hx F.hb d_Town_hasCell_5 rfl (lv_at hl 0 rfl) ?_
    refine r_get (v := vI (M.1 k0 13)) (N := 20) (T := T11) (j := 13) F hS (Town_lt hk0) (Town_sh hk0) (Town_N hk0) rfl (Nat.le_of_ble_eq_true rfl) ing11 mw_128 (fv_int rfl) d_Town_hasCell_6 ?_
    have i2 := hS.rng k0 13
    refine r_icmp_ge (tgt := 16) F.hx F.hb hx1 i2 d_Town_hasCell_9 (by decide) (fun c3 => ?_) (fun c3 => ?_)
    · replace hT := (if_pos c3).symm.trans hT
      refine r_iconst F.hx F.hb d_Town_hasCell_16 ?_
      subst hT
      exact r_zret F hlk hr hS (Or.inl rfl) d_Town_hasCell_17
    · replace hT := (if_neg c3).symm.trans hT
      refine r_iconst F.hx F.hb d_Town_hasCell_12 ?_
      refine lv_goto (tgt := 17) F.hx F.hb d_Town_hasCell_13 (by decide) ?_
      subst hT
      exact r_zret F hlk hr hS (Or.inr rfl) d_Town_hasCell_17
theorem d_Scene_thingIn_0 : decode b_Scene_thingIn 0 = .ok (.aload_n 0, 1) := dc_42 (by decide +kernel)
theorem d_Scene_thingIn_1 : decode b_Scene_thingIn 1 = .ok (.getfield 15, 3) := dc_180 (by decide +kernel)
theorem d_Scene_thingIn_4 : decode b_Scene_thingIn 4 = .ok (.aload_n 1, 1) := dc_43 (by decide +kernel)
theorem d_Scene_thingIn_5 : decode b_Scene_thingIn 5 = .ok (.getfield 72, 3) := dc_180 (by decide +kernel)
theorem d_Scene_thingIn_8 : decode b_Scene_thingIn 8 = .ok (.iload_n 2, 1) := dc_28 (by decide +kernel)
theorem d_Scene_thingIn_9 : decode b_Scene_thingIn 9 = .ok (.invokestatic 76, 3) := dc_184 (by decide +kernel)
theorem d_Scene_thingIn_12 : decode b_Scene_thingIn 12 = .ok (.ireturn, 1) := dc_172 (by decide +kernel)
def t_Scene_thingIn (M : Mem) (k0 : Nat) (k1 : Nat) (x2 : Int) : Option (Int) := (obind (t_WF_indexOf M (k0 + 2) 8 (M.1 k1 15) x2) fun q2 => (some q2))
set_option maxHeartbeats 4000000 in
set_option maxRecDepth 100000 in
theorem c_Scene_thingIn (l : Launch) {b n : Nat} {C : CT} (hlo : 191 ≤ n) (M : Mem) (k0 : Nat) (k1 : Nat) (x2 : Int) (hk0 : isScene k0) (hk1 : isTown k1) (hx2 : InR x2) (res : Int) (hT : t_Scene_thingIn M k0 k1 x2 = some res) : CM l b C n 1 y_Scene_thingIn b_Scene_thingIn 3 (some .int) [.ref (b + k0), .ref (b + k1), vI x2] M (QI b C n M res) := by
  refine CM.of (lo := 191) (ow := "WardFalls$Scene") (by decide) rfl (Nat.le_of_ble_eq_true rfl) hlo (fun p e s m below meth c F hlk hr hS ls hl => ?_)
  have hl : lv_has ls 3 [(0, .ref (b + k0)), (1, .ref (b + k1)), (2, vI x2)] := hl
  unfold t_Scene_thingIn at hT
  refine lv_aload_n F.hx F.hb d_Scene_thingIn_0 rfl (lv_at hl 0 rfl) ?_
  refine r_get (v := .ref (b + (k0 + 2))) (N := 7) (T := T9) (j := 1) F hS (Scene_lt hk0) (Scene_sh hk0) (Scene_N hk0) rfl (Nat.le_of_ble_eq_true rfl) ing9 mw_278 (Scene_g1 hk0 _) d_Scene_thingIn_1 ?_
  refine lv_aload_n F.hx F.hb d_Scene_thingIn_4 rfl (lv_at hl 1 rfl) ?_
  refine r_get (v := vI (M.1 k1 15)) (N := 20) (T := T11) (j := 15) F hS (Town_lt hk1) (Town_sh hk1) (Town_N hk1) rfl (Nat.le_of_ble_eq_true rfl) ing11 mw_144 (fv_int rfl) d_Scene_thingIn_5 ?_
  have i1 := hS.rng k1 15
  refine lv_iload_n F.hx F.hb d_Scene_thingIn_8 rfl (lv_at hl 2 rfl) ?_
  obtain ⟨q2, hq2, hT⟩ := q_obind hT
  refine r_backI F hS (r_runSN (As := [.ref (b + (k0 + 2)), vI (M.1 k1 15), vI x2]) F hS (c_WF_indexOf l F.2.2.1 M (k0 + 2) 8 (M.1 k1 15) x2 (Scene_f1 hk0) i1 hx2 _ hq2) mw_748 mw_747 mw_1 gs_Scene_76 hd_WF_indexOf ⟨Nat.le_of_ble_eq_true rfl, Nat.le_of_ble_eq_true rfl⟩ rfl hl.1 (Nat.le_of_ble_eq_true rfl) ⟨Nat.zero_le _, Nat.zero_le _⟩ rfl d_Scene_thingIn_9) (fun H locs hS h3 => ?_)
  cases hT
  exact r_iret F hlk hr rfl hS h3 d_Scene_thingIn_12
theorem d_Scene_downOf_0 : decode b_Scene_downOf 0 = .ok (.aload_n 1, 1) := dc_43 (by decide +kernel)
theorem d_Scene_downOf_1 : decode b_Scene_downOf 1 = .ok (.getfield 53, 3) := dc_180 (by decide +kernel)
theorem d_Scene_downOf_4 : decode b_Scene_downOf 4 = .ok (.iload_n 2, 1) := dc_28 (by decide +kernel)
theorem d_Scene_downOf_5 : decode b_Scene_downOf 5 = .ok (.invokestatic 56, 3) := dc_184 (by decide +kernel)
theorem d_Scene_downOf_8 : decode b_Scene_downOf 8 = .ok (.istore_n 3, 1) := dc_62 (by decide +kernel)
theorem d_Scene_downOf_9 : decode b_Scene_downOf 9 = .ok (.iload_n 3, 1) := dc_29 (by decide +kernel)
theorem d_Scene_downOf_10 : decode b_Scene_downOf 10 = .ok (.ifCond .ge 7, 3) := dc_156 (by decide +kernel)
theorem d_Scene_downOf_13 : decode b_Scene_downOf 13 = .ok (.iconst 4, 1) := dc_7 (by decide +kernel)
theorem d_Scene_downOf_14 : decode b_Scene_downOf 14 = .ok (.goto 11, 3) := dc_167 (by decide +kernel)
theorem d_Scene_downOf_17 : decode b_Scene_downOf 17 = .ok (.aload_n 0, 1) := dc_42 (by decide +kernel)
theorem d_Scene_downOf_18 : decode b_Scene_downOf 18 = .ok (.getfield 9, 3) := dc_180 (by decide +kernel)
theorem d_Scene_downOf_21 : decode b_Scene_downOf 21 = .ok (.iload_n 3, 1) := dc_29 (by decide +kernel)
theorem d_Scene_downOf_22 : decode b_Scene_downOf 22 = .ok (.invokestatic 56, 3) := dc_184 (by decide +kernel)
theorem d_Scene_downOf_25 : decode b_Scene_downOf 25 = .ok (.ireturn, 1) := dc_172 (by decide +kernel)
def t_Scene_downOf (M : Mem) (k0 : Nat) (k1 : Nat) (x2 : Int) : Int := (qlet (t_WF_look M (k1 + 8) 48 x2) fun q1 => (if 0 ≤ q1 then (qlet (t_WF_look M (k0 + 1) 4 q1) fun q4 => q4) else 4))
set_option maxHeartbeats 4000000 in
set_option maxRecDepth 100000 in
theorem c_Scene_downOf (l : Launch) {b n : Nat} {C : CT} (hlo : 191 ≤ n) (M : Mem) (k0 : Nat) (k1 : Nat) (x2 : Int) (hk0 : isScene k0) (hk1 : isTown k1) (hx2 : InR x2) (res : Int) (hT : t_Scene_downOf M k0 k1 x2 = res) : CM l b C n 1 y_Scene_downOf b_Scene_downOf 4 (some .int) [.ref (b + k0), .ref (b + k1), vI x2] M (QI b C n M res) := by
  refine CM.of (lo := 191) (ow := "WardFalls$Scene") (by decide) rfl (Nat.le_of_ble_eq_true rfl) hlo (fun p e s m below meth c F hlk hr hS ls hl => ?_)
  have hl : lv_has ls 4 [(0, .ref (b + k0)), (1, .ref (b + k1)), (2, vI x2)] := hl
  unfold t_Scene_downOf at hT
  refine lv_aload_n F.hx F.hb d_Scene_downOf_0 rfl (lv_at hl 1 rfl) ?_
  refine r_get (v := .ref (b + (k1 + 8))) (N := 20) (T := T11) (j := 7) F hS (Town_lt hk1) (Town_sh hk1) (Town_N hk1) rfl (Nat.le_of_ble_eq_true rfl) ing11 mw_112 (Town_g7 hk1 _) d_Scene_downOf_1 ?_
  refine lv_iload_n F.hx F.hb d_Scene_downOf_4 rfl (lv_at hl 2 rfl) ?_
  obtain ⟨q1, hq1⟩ : ∃ q, q = (t_WF_look M (k1 + 8) 48 x2) := ⟨_, rfl⟩
  replace hT := qlet_eq hT hq1
  refine r_backI F hS (r_runSN (As := [.ref (b + (k1 + 8)), vI x2]) F hS (c_WF_look l F.2.2.1 M (k1 + 8) 48 x2 (Town_f7 hk1) hx2 _ hq1.symm) mw_519 mw_518 mw_1 gs_Scene_56 hd_WF_look ⟨Nat.le_of_ble_eq_true rfl, Nat.le_of_ble_eq_true rfl⟩ rfl hl.1 (Nat.le_of_ble_eq_true rfl) ⟨Nat.zero_le _, Nat.zero_le _⟩ rfl d_Scene_downOf_5) (fun H locs hS h2 => ?_)
  refine lv_istore_n (lv' := [(3, vI q1), (0, .ref (b + k0)), (1, .ref (b + k1)), (2, vI x2)]) F.hx F.hb d_Scene_downOf_8 rfl hl (Nat.le_of_ble_eq_true rfl) rfl (fun ls hl => ?_)
  refine lv_iload_n F.hx F.hb d_Scene_downOf_9 rfl (lv_at hl 0 rfl) ?_
  refine r_if_ge (tgt := 17) F.hx F.hb h2 d_Scene_downOf_10 (by decide) (fun c3 => ?_) (fun c3 => ?_)
  · replace hT := (if_pos c3).symm.trans hT
    refine lv_aload_n F.hx F.hb d_Scene_downOf_17 rfl (lv_at hl 1 rfl) ?_
    refine r_get (v := .ref (b + (k0 + 1))) (N := 7) (T := T9) (j := 0) F hS (Scene_lt hk0) (Scene_sh hk0) (Scene_N hk0) rfl (Nat.le_of_ble_eq_true rfl) ing9 mw_272 (Scene_g0 hk0 _) d_Scene_downOf_18 ?_
    refine lv_iload_n F.hx F.hb d_Scene_downOf_21 rfl (lv_at hl 0 rfl) ?_
    obtain ⟨q4, hq4⟩ : ∃ q, q = (t_WF_look M (k0 + 1) 4 q1) := ⟨_, rfl⟩
    replace hT := qlet_eq hT hq4
    refine r_backI F hS (r_runSN (As := [.ref (b + (k0 + 1)), vI q1]) F hS (c_WF_look l F.2.2.1 M (k0 + 1) 4 q1 (Scene_f0 hk0) h2 _ hq4.symm) mw_519 mw_518 mw_1 gs_Scene_56 hd_WF_look ⟨Nat.le_of_ble_eq_true rfl, Nat.le_of_ble_eq_true rfl⟩ rfl hl.1 (Nat.le_of_ble_eq_true rfl) ⟨Nat.zero_le _, Nat.zero_le _⟩ rfl d_Scene_downOf_22) (fun H locs hS h5 => ?_)
    subst hT
    exact r_iret F hlk hr rfl hS h5 d_Scene_downOf_25
  · replace hT := (if_neg c3).symm.trans hT
    refine r_iconst F.hx F.hb d_Scene_downOf_13 ?_
    refine lv_goto (tgt := 25) F.hx F.hb d_Scene_downOf_14 (by decide) ?_
    subst hT
    exact r_iret F hlk hr rfl hS (inr_c rfl) d_Scene_downOf_25
theorem d_Town_beside_0 : decode b_Town_beside 0 = .ok (.aload_n 0, 1) := dc_42 (by decide +kernel)
theorem d_Town_beside_1 : decode b_Town_beside 1 = .ok (.iload_n 1, 1) := dc_27 (by decide +kernel)
theorem d_Town_beside_2 : decode b_Town_beside 2 = .ok (.invokevirtual 99, 3) := dc_182 (by decide +kernel)
theorem d_Town_beside_5 : decode b_Town_beside 5 = .ok (.ifCond .eq 27, 3) := dc_153 (by decide +kernel)
theorem d_Town_beside_8 : decode b_Town_beside 8 = .ok (.iload_n 2, 1) := dc_28 (by decide +kernel)
theorem d_Town_beside_9 : decode b_Town_beside 9 = .ok (.ifCond .lt 23, 3) := dc_155 (by decide +kernel)
theorem d_Town_beside_12 : decode b_Town_beside 12 = .ok (.iload_n 2, 1) := dc_28 (by decide +kernel)
theorem d_Town_beside_13 : decode b_Town_beside 13 = .ok (.iconst 4, 1) := dc_7 (by decide +kernel)
theorem d_Town_beside_14 : decode b_Town_beside 14 = .ok (.if_icmp .ge 18, 3) := dc_162 (by decide +kernel)
theorem d_Town_beside_17 : decode b_Town_beside 17 = .ok (.aload_n 0, 1) := dc_42 (by decide +kernel)
theorem d_Town_beside_18 : decode b_Town_beside 18 = .ok (.getfield 36, 3) := dc_180 (by decide +kernel)
theorem d_Town_beside_21 : decode b_Town_beside 21 = .ok (.iload_n 1, 1) := dc_27 (by decide +kernel)
theorem d_Town_beside_22 : decode b_Town_beside 22 = .ok (.iconst 4, 1) := dc_7 (by decide +kernel)
theorem d_Town_beside_23 : decode b_Town_beside 23 = .ok (.imul, 1) := dc_104 (by decide +kernel)
theorem d_Town_beside_24 : decode b_Town_beside 24 = .ok (.iload_n 2, 1) := dc_28 (by decide +kernel)
theorem d_Town_beside_25 : decode b_Town_beside 25 = .ok (.iadd, 1) := dc_96 (by decide +kernel)
theorem d_Town_beside_26 : decode b_Town_beside 26 = .ok (.invokestatic 95, 3) := dc_184 (by decide +kernel)
theorem d_Town_beside_29 : decode b_Town_beside 29 = .ok (.goto 4, 3) := dc_167 (by decide +kernel)
theorem d_Town_beside_32 : decode b_Town_beside 32 = .ok (.iconst (-1), 1) := dc_2 (by decide +kernel)
theorem d_Town_beside_33 : decode b_Town_beside 33 = .ok (.ireturn, 1) := dc_172 (by decide +kernel)
def t_Town_beside (M : Mem) (k0 : Nat) (x1 : Int) (x2 : Int) : Int := (qlet (t_Town_hasCell M k0 x1) fun q1 => (if q1 = 0 then (-1) else (if x2 < 0 then (-1) else (if 4 ≤ x2 then (-1) else (qlet (t_WF_look M (k0 + 9) 192 (w32 ((w32 (x1 * 4)) + x2))) fun q6 => q6)))))
set_option maxHeartbeats 4000000 in
set_option maxRecDepth 100000 in
theorem c_Town_beside (l : Launch) {b n : Nat} {C : CT} (hlo : 191 ≤ n) (M : Mem) (k0 : Nat) (x1 : Int) (x2 : Int) (hk0 : isTown k0) (hx1 : InR x1) (hx2 : InR x2) (res : Int) (hT : t_Town_beside M k0 x1 x2 = res) : CM l b C n 1 y_Town_beside b_Town_beside 3 (some .int) [.ref (b + k0), vI x1, vI x2] M (QI b C n M res) := by
  refine CM.of (lo := 191) (ow := "WardFalls$Town") (by decide) rfl (Nat.le_of_ble_eq_true rfl) hlo (fun p e s m below meth c F hlk hr hS ls hl => ?_)
  have hl : lv_has ls 3 [(0, .ref (b + k0)), (1, vI x1), (2, vI x2)] := hl
  unfold t_Town_beside at hT
  refine lv_aload_n F.hx F.hb d_Town_beside_0 rfl (lv_at hl 0 rfl) ?_
  refine lv_iload_n F.hx F.hb d_Town_beside_1 rfl (lv_at hl 1 rfl) ?_
  obtain ⟨q1, hq1⟩ : ∃ q, q = (t_Town_hasCell M k0 x1) := ⟨_, rfl⟩
  replace hT := qlet_eq hT hq1
  refine r_backZ F hS (r_runV (k := k0) (N := 20) (T := T11) (As := [vI x1]) F hS (Town_lt hk0) (Town_sh hk0) rfl (c_Town_hasCell l F.2.2.1 M k0 x1 hk0 hx1 _ hq1.symm) gs_Town_99 hd_Town_hasCell ⟨Nat.le_of_ble_eq_true rfl, Nat.le_of_ble_eq_true rfl⟩ rfl hl.1 (Nat.le_of_ble_eq_true rfl) ⟨Nat.zero_le _, Nat.zero_le _⟩ rfl d_Town_beside_2) (fun H locs hS h2 => ?_)
  refine r_if_eq (tgt := 32) F.hx F.hb (inr_z h2) d_Town_beside_5 (by decide) (fun c3 => ?_) (fun c3 => ?_)
  · replace hT := (if_pos c3).symm.trans hT
    refine r_iconst F.hx F.hb d_Town_beside_32 ?_
    subst hT
    exact r_iret F hlk hr rfl hS (inr_c rfl) d_Town_beside_33
  · replace hT := (if_neg c3).symm.trans hT
    refine lv_iload_n F.hx F.hb d_Town_beside_8 rfl (lv_at hl 2 rfl) ?_
    refine r_if_lt (tgt := 32) F.hx F.hb hx2 d_Town_beside_9 (by decide) (fun c4 => ?_) (fun c4 => ?_)
    · replace hT := (if_pos c4).symm.trans hT
      refine r_iconst F.hx F.hb d_Town_beside_32 ?_
      subst hT
      exact r_iret F hlk hr rfl hS (inr_c rfl) d_Town_beside_33
    · replace hT := (if_neg c4).symm.trans hT
      refine lv_iload_n F.hx F.hb d_Town_beside_12 rfl (lv_at hl 2 rfl) ?_
      refine r_iconst F.hx F.hb d_Town_beside_13 ?_
      refine r_icmp_ge (tgt := 32) F.hx F.hb hx2 (inr_c rfl) d_Town_beside_14 (by decide) (fun c5 => ?_) (fun c5 => ?_)
      · replace hT := (if_pos c5).symm.trans hT
        refine r_iconst F.hx F.hb d_Town_beside_32 ?_
        subst hT
        exact r_iret F hlk hr rfl hS (inr_c rfl) d_Town_beside_33
      · replace hT := (if_neg c5).symm.trans hT
        refine lv_aload_n F.hx F.hb d_Town_beside_17 rfl (lv_at hl 0 rfl) ?_
        refine r_get (v := .ref (b + (k0 + 9))) (N := 20) (T := T11) (j := 8) F hS (Town_lt hk0) (Town_sh hk0) (Town_N hk0) rfl (Nat.le_of_ble_eq_true rfl) ing11 mw_114 (Town_g8 hk0 _) d_Town_beside_18 ?_
        refine lv_iload_n F.hx F.hb d_Town_beside_21 rfl (lv_at hl 1 rfl) ?_
        refine r_iconst F.hx F.hb d_Town_beside_22 ?_
        refine r_imul F.hx F.hb d_Town_beside_23 ?_
        refine lv_iload_n F.hx F.hb d_Town_beside_24 rfl (lv_at hl 2 rfl) ?_
        refine r_iadd F.hx F.hb d_Town_beside_25 ?_
        obtain ⟨q6, hq6⟩ : ∃ q, q = (t_WF_look M (k0 + 9) 192 (w32 ((w32 (x1 * 4)) + x2))) := ⟨_, rfl⟩
        replace hT := qlet_eq hT hq6
        refine r_backI F hS (r_runSN (As := [.ref (b + (k0 + 9)), vI (w32 ((w32 (x1 * 4)) + x2))]) F hS (c_WF_look l F.2.2.1 M (k0 + 9) 192 (w32 ((w32 (x1 * 4)) + x2)) (Town_f8 hk0) (inr_w32 _) _ hq6.symm) mw_519 mw_518 mw_1 gs_Town_95 hd_WF_look ⟨Nat.le_of_ble_eq_true rfl, Nat.le_of_ble_eq_true rfl⟩ rfl hl.1 (Nat.le_of_ble_eq_true rfl) ⟨Nat.zero_le _, Nat.zero_le _⟩ rfl d_Town_beside_26) (fun H locs hS h7 => ?_)
        refine lv_goto (tgt := 33) F.hx F.hb d_Town_beside_29 (by decide) ?_
        subst hT
        exact r_iret F hlk hr rfl hS h7 d_Town_beside_33
theorem d_Scene_nextOf_0 : decode b_Scene_nextOf 0 = .ok (.aload_n 0, 1) := dc_42 (by decide +kernel)
theorem d_Scene_nextOf_1 : decode b_Scene_nextOf 1 = .ok (.getfield 47, 3) := dc_180 (by decide +kernel)
theorem d_Scene_nextOf_4 : decode b_Scene_nextOf 4 = .ok (.iload_n 2, 1) := dc_28 (by decide +kernel)
theorem d_Scene_nextOf_5 : decode b_Scene_nextOf 5 = .ok (.invokestatic 60, 3) := dc_184 (by decide +kernel)
theorem d_Scene_nextOf_8 : decode b_Scene_nextOf 8 = .ok (.iconst 1, 1) := dc_4 (by decide +kernel)
theorem d_Scene_nextOf_9 : decode b_Scene_nextOf 9 = .ok (.if_icmp .ne 5, 3) := dc_160 (by decide +kernel)
theorem d_Scene_nextOf_12 : decode b_Scene_nextOf 12 = .ok (.iconst (-1), 1) := dc_2 (by decide +kernel)
theorem d_Scene_nextOf_13 : decode b_Scene_nextOf 13 = .ok (.ireturn, 1) := dc_172 (by decide +kernel)
theorem d_Scene_nextOf_14 : decode b_Scene_nextOf 14 = .ok (.aload_n 1, 1) := dc_43 (by decide +kernel)
theorem d_Scene_nextOf_15 : decode b_Scene_nextOf 15 = .ok (.iload_n 2, 1) := dc_28 (by decide +kernel)
theorem d_Scene_nextOf_16 : decode b_Scene_nextOf 16 = .ok (.aload_n 0, 1) := dc_42 (by decide +kernel)
theorem d_Scene_nextOf_17 : decode b_Scene_nextOf 17 = .ok (.aload_n 1, 1) := dc_43 (by decide +kernel)
theorem d_Scene_nextOf_18 : decode b_Scene_nextOf 18 = .ok (.iload_n 2, 1) := dc_28 (by decide +kernel)
theorem d_Scene_nextOf_19 : decode b_Scene_nextOf 19 = .ok (.invokevirtual 64, 3) := dc_182 (by decide +kernel)
theorem d_Scene_nextOf_22 : decode b_Scene_nextOf 22 = .ok (.invokevirtual 68, 3) := dc_182 (by decide +kernel)
theorem d_Scene_nextOf_25 : decode b_Scene_nextOf 25 = .ok (.istore_n 3, 1) := dc_62 (by decide +kernel)
theorem d_Scene_nextOf_26 : decode b_Scene_nextOf 26 = .ok (.iload_n 3, 1) := dc_29 (by decide +kernel)
theorem d_Scene_nextOf_27 : decode b_Scene_nextOf 27 = .ok (.ifCond .lt 15, 3) := dc_155 (by decide +kernel)
theorem d_Scene_nextOf_30 : decode b_Scene_nextOf 30 = .ok (.aload_n 0, 1) := dc_42 (by decide +kernel)
theorem d_Scene_nextOf_31 : decode b_Scene_nextOf 31 = .ok (.getfield 46, 3) := dc_180 (by decide +kernel)
theorem d_Scene_nextOf_34 : decode b_Scene_nextOf 34 = .ok (.iload_n 3, 1) := dc_29 (by decide +kernel)
theorem d_Scene_nextOf_35 : decode b_Scene_nextOf 35 = .ok (.invokestatic 60, 3) := dc_184 (by decide +kernel)
theorem d_Scene_nextOf_38 : decode b_Scene_nextOf 38 = .ok (.iconst 1, 1) := dc_4 (by decide +kernel)
theorem d_Scene_nextOf_39 : decode b_Scene_nextOf 39 = .ok (.if_icmp .ne 7, 3) := dc_160 (by decide +kernel)
theorem d_Scene_nextOf_42 : decode b_Scene_nextOf 42 = .ok (.iconst (-1), 1) := dc_2 (by decide +kernel)
theorem d_Scene_nextOf_43 : decode b_Scene_nextOf 43 = .ok (.goto 4, 3) := dc_167 (by decide +kernel)
theorem d_Scene_nextOf_46 : decode b_Scene_nextOf 46 = .ok (.iload_n 3, 1) := dc_29 (by decide +kernel)
theorem d_Scene_nextOf_47 : decode b_Scene_nextOf 47 = .ok (.ireturn, 1) := dc_172 (by decide +kernel)
def t_Scene_nextOf (M : Mem) (k0 : Nat) (k1 : Nat) (x2 : Int) : Int := (qlet (t_WF_bitOf M (M.2 k0 5) x2) fun q1 => (if q1 = 1 then (-1) else (qlet (t_Scene_downOf M k0 k1 x2) fun q4 => (qlet (t_Town_beside M k1 x2 q4) fun q6 => (if q6 < 0 then (-1) else (qlet (t_WF_bitOf M (M.2 k0 4) q6) fun q9 => (if q9 = 1 then (-1) else q6)))))))
set_option maxHeartbeats 4000000 in
set_option maxRecDepth 100000 in
theorem c_Scene_nextOf (l : Launch) {b n : Nat} {C : CT} (hlo : 191 ≤ n) (M : Mem) (k0 : Nat) (k1 : Nat) (x2 : Int) (hk0 : isScene k0) (hk1 : isTown k1) (hx2 : InR x2) (res : Int) (hT : t_Scene_nextOf M k0 k1 x2 = res) : CM l b C n 2 y_Scene_nextOf b_Scene_nextOf 4 (some .int) [.ref (b + k0), .ref (b + k1), vI x2] M (QI b C n M res) := by
  refine CM.of (lo := 191) (ow := "WardFalls$Scene") (by decide) rfl (Nat.le_of_ble_eq_true rfl) hlo (fun p e s m below meth c F hlk hr hS ls hl => ?_)
  have hl : lv_has ls 4 [(0, .ref (b + k0)), (1, .ref (b + k1)), (2, vI x2)] := hl
  unfold t_Scene_nextOf at hT
  refine lv_aload_n F.hx F.hb d_Scene_nextOf_0 rfl (lv_at hl 0 rfl) ?_
  refine r_get (v := .long (M.2 k0 5)) (N := 7) (T := T9) (j := 5) F hS (Scene_lt hk0) (Scene_sh hk0) (Scene_N hk0) rfl (Nat.le_of_ble_eq_true rfl) ing9 mw_289 (fv_long rfl) d_Scene_nextOf_1 ?_
  refine lv_iload_n F.hx F.hb d_Scene_nextOf_4 rfl (lv_at hl 2 rfl) ?_
  obtain ⟨q1, hq1⟩ : ∃ q, q = (t_WF_bitOf M (M.2 k0 5) x2) := ⟨_, rfl⟩
  replace hT := qlet_eq hT hq1
  refine r_backI F hS (r_runSN (As := [.long (M.2 k0 5), vI x2]) F hS (c_WF_bitOf l F.2.2.1 M (M.2 k0 5) x2 hx2 _ hq1.symm) mw_773 mw_772 mw_1 gs_Scene_60 hd_WF_bitOf ⟨Nat.le_of_ble_eq_true rfl, Nat.le_of_ble_eq_true rfl⟩ rfl hl.1 (Nat.le_of_ble_eq_true rfl) ⟨Nat.zero_le _, Nat.zero_le _⟩ rfl d_Scene_nextOf_5) (fun H locs hS h2 => ?_)
  refine r_iconst F.hx F.hb d_Scene_nextOf_8 ?_
  refine r_icmp_ne (tgt := 14) F.hx F.hb h2 (inr_c rfl) d_Scene_nextOf_9 (by decide) (fun c3 => ?_) (fun c3 => ?_)
  · replace hT := (if_neg c3).symm.trans hT
    refine lv_aload_n F.hx F.hb d_Scene_nextOf_14 rfl (lv_at hl 1 rfl) ?_
    refine lv_iload_n F.hx F.hb d_Scene_nextOf_15 rfl (lv_at hl 2 rfl) ?_
    refine lv_aload_n F.hx F.hb d_Scene_nextOf_16 rfl (lv_at hl 0 rfl) ?_
    refine lv_aload_n F.hx F.hb d_Scene_nextOf_17 rfl (lv_at hl 1 rfl) ?_
    refine lv_iload_n F.hx F.hb d_Scene_nextOf_18 rfl (lv_at hl 2 rfl) ?_
    obtain ⟨q4, hq4⟩ : ∃ q, q = (t_Scene_downOf M k0 k1 x2) := ⟨_, rfl⟩
    replace hT := qlet_eq hT hq4
    refine r_backI F hS (r_runV (k := k0) (N := 7) (T := T9) (As := [.ref (b + k1), vI x2]) F hS (Scene_lt hk0) (Scene_sh hk0) rfl (c_Scene_downOf l F.2.2.1 M k0 k1 x2 hk0 hk1 hx2 _ hq4.symm) gs_Scene_64 hd_Scene_downOf ⟨Nat.le_of_ble_eq_true rfl, Nat.le_of_ble_eq_true rfl⟩ rfl hl.1 (Nat.le_of_ble_eq_true rfl) ⟨Nat.zero_le _, Nat.zero_le _⟩ rfl d_Scene_nextOf_19) (fun H locs hS h5 => ?_)
    obtain ⟨q6, hq6⟩ : ∃ q, q = (t_Town_beside M k1 x2 q4) := ⟨_, rfl⟩
    replace hT := qlet_eq hT hq6
    refine r_backI F hS (r_runV (k := k1) (N := 20) (T := T11) (As := [vI x2, vI q4]) F hS (Town_lt hk1) (Town_sh hk1) rfl (c_Town_beside l F.2.2.1 M k1 x2 q4 hk1 hx2 h5 _ hq6.symm) gs_Scene_68 hd_Town_beside ⟨Nat.le_of_ble_eq_true rfl, Nat.le_of_ble_eq_true rfl⟩ rfl hl.1 (Nat.le_of_ble_eq_true rfl) ⟨Nat.zero_le _, Nat.zero_le _⟩ rfl d_Scene_nextOf_22) (fun H locs hS h7 => ?_)
    refine lv_istore_n (lv' := [(3, vI q6), (0, .ref (b + k0)), (1, .ref (b + k1)), (2, vI x2)]) F.hx F.hb d_Scene_nextOf_25 rfl hl (Nat.le_of_ble_eq_true rfl) rfl (fun ls hl => ?_)
    refine lv_iload_n F.hx F.hb d_Scene_nextOf_26 rfl (lv_at hl 0 rfl) ?_
    refine r_if_lt (tgt := 42) F.hx F.hb h7 d_Scene_nextOf_27 (by decide) (fun c8 => ?_) (fun c8 => ?_)
    · replace hT := (if_pos c8).symm.trans hT
      refine r_iconst F.hx F.hb d_Scene_nextOf_42 ?_
      refine lv_goto (tgt := 47) F.hx F.hb d_Scene_nextOf_43 (by decide) ?_
      subst hT
      exact r_iret F hlk hr rfl hS (inr_c rfl) d_Scene_nextOf_47
    · replace hT := (if_neg c8).symm.trans hT
      refine lv_aload_n F.hx F.hb d_Scene_nextOf_30 rfl (lv_at hl 1 rfl) ?_
      refine r_get (v := .long (M.2 k0 4)) (N := 7) (T := T9) (j := 4) F hS (Scene_lt hk0) (Scene_sh hk0) (Scene_N hk0) rfl (Nat.le_of_ble_eq_true rfl) ing9 mw_285 (fv_long rfl) d_Scene_nextOf_31 ?_
      refine lv_iload_n F.hx F.hb d_Scene_nextOf_34 rfl (lv_at hl 0 rfl) ?_
      obtain ⟨q9, hq9⟩ : ∃ q, q = (t_WF_bitOf M (M.2 k0 4) q6) := ⟨_, rfl⟩
      replace hT := qlet_eq hT hq9
      refine r_backI F hS (r_runSN (As := [.long (M.2 k0 4), vI q6]) F hS (c_WF_bitOf l F.2.2.1 M (M.2 k0 4) q6 h7 _ hq9.symm) mw_773 mw_772 mw_1 gs_Scene_60 hd_WF_bitOf ⟨Nat.le_of_ble_eq_true rfl, Nat.le_of_ble_eq_true rfl⟩ rfl hl.1 (Nat.le_of_ble_eq_true rfl) ⟨Nat.zero_le _, Nat.zero_le _⟩ rfl d_Scene_nextOf_35) (fun H locs hS h10 => ?_)
      refine r_iconst F.hx F.hb d_Scene_nextOf_38 ?_
      refine r_icmp_ne (tgt := 46) F.hx F.hb h10 (inr_c rfl) d_Scene_nextOf_39 (by decide) (fun c11 => ?_) (fun c11 => ?_)
      · replace hT := (if_neg c11).symm.trans hT
        refine lv_iload_n F.hx F.hb d_Scene_nextOf_46 rfl (lv_at hl 0 rfl) ?_
        subst hT
        exact r_iret F hlk hr rfl hS h7 d_Scene_nextOf_47
      · replace hT := (if_pos c11).symm.trans hT
        refine r_iconst F.hx F.hb d_Scene_nextOf_42 ?_
        refine lv_goto (tgt := 47) F.hx F.hb d_Scene_nextOf_43 (by decide) ?_
        subst hT
        exact r_iret F hlk hr rfl hS (inr_c rfl) d_Scene_nextOf_47
  · replace hT := (if_pos c3).symm.trans hT
    refine r_iconst F.hx F.hb d_Scene_nextOf_12 ?_
    subst hT
    exact r_iret F hlk hr rfl hS (inr_c rfl) d_Scene_nextOf_13
theorem d_Scene_standsIn_0 : decode b_Scene_standsIn 0 = .ok (.aload_n 0, 1) := dc_42 (by decide +kernel)
theorem d_Scene_standsIn_1 : decode b_Scene_standsIn 1 = .ok (.getfield 46, 3) := dc_180 (by decide +kernel)
theorem d_Scene_standsIn_4 : decode b_Scene_standsIn 4 = .ok (.iload_n 2, 1) := dc_28 (by decide +kernel)
theorem d_Scene_standsIn_5 : decode b_Scene_standsIn 5 = .ok (.invokestatic 60, 3) := dc_184 (by decide +kernel)
theorem d_Scene_standsIn_8 : decode b_Scene_standsIn 8 = .ok (.iconst 1, 1) := dc_4 (by decide +kernel)
theorem d_Scene_standsIn_9 : decode b_Scene_standsIn 9 = .ok (.if_icmp .ne 5, 3) := dc_160 (by decide +kernel)
theorem d_Scene_standsIn_12 : decode b_Scene_standsIn 12 = .ok (.iconst 0, 1) := dc_3 (by decide +kernel)
theorem d_Scene_standsIn_13 : decode b_Scene_standsIn 13 = .ok (.ireturn, 1) := dc_172 (by decide +kernel)
theorem d_Scene_standsIn_14 : decode b_Scene_standsIn 14 = .ok (.aload_n 0, 1) := dc_42 (by decide +kernel)
theorem d_Scene_standsIn_15 : decode b_Scene_standsIn 15 = .ok (.aload_n 1, 1) := dc_43 (by decide +kernel)
theorem d_Scene_standsIn_16 : decode b_Scene_standsIn 16 = .ok (.iload_n 2, 1) := dc_28 (by decide +kernel)
theorem d_Scene_standsIn_17 : decode b_Scene_standsIn 17 = .ok (.invokevirtual 64, 3) := dc_182 (by decide +kernel)
theorem d_Scene_standsIn_20 : decode b_Scene_standsIn 20 = .ok (.istore_n 3, 1) := dc_62 (by decide +kernel)
theorem d_Scene_standsIn_21 : decode b_Scene_standsIn 21 = .ok (.aload_n 1, 1) := dc_43 (by decide +kernel)
theorem d_Scene_standsIn_22 : decode b_Scene_standsIn 22 = .ok (.getfield 80, 3) := dc_180 (by decide +kernel)
theorem d_Scene_standsIn_25 : decode b_Scene_standsIn 25 = .ok (.iload_n 2, 1) := dc_28 (by decide +kernel)
theorem d_Scene_standsIn_26 : decode b_Scene_standsIn 26 = .ok (.invokestatic 60, 3) := dc_184 (by decide +kernel)
theorem d_Scene_standsIn_29 : decode b_Scene_standsIn 29 = .ok (.iconst 1, 1) := dc_4 (by decide +kernel)
theorem d_Scene_standsIn_30 : decode b_Scene_standsIn 30 = .ok (.if_icmp .eq 8, 3) := dc_159 (by decide +kernel)
theorem d_Scene_standsIn_33 : decode b_Scene_standsIn 33 = .ok (.iload_n 3, 1) := dc_29 (by decide +kernel)
theorem d_Scene_standsIn_34 : decode b_Scene_standsIn 34 = .ok (.iconst 4, 1) := dc_7 (by decide +kernel)
theorem d_Scene_standsIn_35 : decode b_Scene_standsIn 35 = .ok (.if_icmp .ne 21, 3) := dc_160 (by decide +kernel)
theorem d_Scene_standsIn_38 : decode b_Scene_standsIn 38 = .ok (.aload_n 1, 1) := dc_43 (by decide +kernel)
theorem d_Scene_standsIn_39 : decode b_Scene_standsIn 39 = .ok (.getfield 80, 3) := dc_180 (by decide +kernel)
theorem d_Scene_standsIn_42 : decode b_Scene_standsIn 42 = .ok (.iload_n 2, 1) := dc_28 (by decide +kernel)
theorem d_Scene_standsIn_43 : decode b_Scene_standsIn 43 = .ok (.invokestatic 60, 3) := dc_184 (by decide +kernel)
theorem d_Scene_standsIn_46 : decode b_Scene_standsIn 46 = .ok (.iconst 1, 1) := dc_4 (by decide +kernel)
theorem d_Scene_standsIn_47 : decode b_Scene_standsIn 47 = .ok (.if_icmp .ne 7, 3) := dc_160 (by decide +kernel)
theorem d_Scene_standsIn_50 : decode b_Scene_standsIn 50 = .ok (.iconst 1, 1) := dc_4 (by decide +kernel)
theorem d_Scene_standsIn_51 : decode b_Scene_standsIn 51 = .ok (.goto 4, 3) := dc_167 (by decide +kernel)
theorem d_Scene_standsIn_54 : decode b_Scene_standsIn 54 = .ok (.iconst 0, 1) := dc_3 (by decide +kernel)
theorem d_Scene_standsIn_55 : decode b_Scene_standsIn 55 = .ok (.ireturn, 1) := dc_172 (by decide +kernel)
theorem d_Scene_standsIn_56 : decode b_Scene_standsIn 56 = .ok (.aload_n 1, 1) := dc_43 (by decide +kernel)
theorem d_Scene_standsIn_57 : decode b_Scene_standsIn 57 = .ok (.iload_n 2, 1) := dc_28 (by decide +kernel)
theorem d_Scene_standsIn_58 : decode b_Scene_standsIn 58 = .ok (.iload_n 3, 1) := dc_29 (by decide +kernel)
theorem d_Scene_standsIn_59 : decode b_Scene_standsIn 59 = .ok (.invokevirtual 68, 3) := dc_182 (by decide +kernel)
theorem d_Scene_standsIn_62 : decode b_Scene_standsIn 62 = .ok (.istore 4, 2) := dc_54 (by decide +kernel)
theorem d_Scene_standsIn_64 : decode b_Scene_standsIn 64 = .ok (.iload 4, 2) := dc_21 (by decide +kernel)
theorem d_Scene_standsIn_66 : decode b_Scene_standsIn 66 = .ok (.ifCond .lt 16, 3) := dc_155 (by decide +kernel)
theorem d_Scene_standsIn_69 : decode b_Scene_standsIn 69 = .ok (.aload_n 0, 1) := dc_42 (by decide +kernel)
theorem d_Scene_standsIn_70 : decode b_Scene_standsIn 70 = .ok (.getfield 46, 3) := dc_180 (by decide +kernel)
theorem d_Scene_standsIn_73 : decode b_Scene_standsIn 73 = .ok (.iload 4, 2) := dc_21 (by decide +kernel)
theorem d_Scene_standsIn_75 : decode b_Scene_standsIn 75 = .ok (.invokestatic 60, 3) := dc_184 (by decide +kernel)
theorem d_Scene_standsIn_78 : decode b_Scene_standsIn 78 = .ok (.iconst 1, 1) := dc_4 (by decide +kernel)
theorem d_Scene_standsIn_79 : decode b_Scene_standsIn 79 = .ok (.if_icmp .ne 7, 3) := dc_160 (by decide +kernel)
theorem d_Scene_standsIn_82 : decode b_Scene_standsIn 82 = .ok (.iconst 1, 1) := dc_4 (by decide +kernel)
theorem d_Scene_standsIn_83 : decode b_Scene_standsIn 83 = .ok (.goto 4, 3) := dc_167 (by decide +kernel)
theorem d_Scene_standsIn_86 : decode b_Scene_standsIn 86 = .ok (.iconst 0, 1) := dc_3 (by decide +kernel)
theorem d_Scene_standsIn_87 : decode b_Scene_standsIn 87 = .ok (.ireturn, 1) := dc_172 (by decide +kernel)
def t_Scene_standsIn_L38 (k0 : Nat) (k1 : Nat) (x2 : Int)  (M : Mem)  : Int := (qlet (t_WF_bitOf M (M.2 k1 19) x2) fun q16 => (if q16 = 1 then 1 else 0))
def t_Scene_standsIn (M : Mem) (k0 : Nat) (k1 : Nat) (x2 : Int) : Int := (qlet (t_WF_bitOf M (M.2 k0 4) x2) fun q1 => (if q1 = 1 then 0 else (qlet (t_Scene_downOf M k0 k1 x2) fun q4 => (qlet (t_WF_bitOf M (M.2 k1 19) x2) fun q6 => (if q6 = 1 then (t_Scene_standsIn_L38 k0 k1 x2 M) else (if q4 = 4 then (t_Scene_standsIn_L38 k0 k1 x2 M) else (qlet (t_Town_beside M k1 x2 q4) fun q10 => (if q10 < 0 then 1 else (qlet (t_WF_bitOf M (M.2 k0 4) q10) fun q13 => (if q13 = 1 then 1 else 0))))))))))
set_option maxHeartbeats 4000000 in
set_option maxRecDepth 100000 in
theorem k_Scene_standsIn_L38 (l : Launch) {p : Program} {e : Env} {s : State} {m : MethodId} {below : List Frame} {meth : Method} {c : Code} {b n : Nat} {C : CT} (hlo : 191 ≤ n) (k0 : Nat) (k1 : Nat) (x2 : Int) (hk0 : isScene k0) (hk1 : isTown k1) (hx2 : InR x2) (F : Cx b p m c b_Scene_standsIn 5 s ([.ref (b + k0), .ref (b + k1), vI x2] : List Value).toArray "WardFalls$Scene" C n 191) (hlk : meth.locks = false) (hr : meth.sig.returnType = some .boolean) {res : Int} (M : Mem)  (H : Heap) (locs : List Loc) (ls : Array Slot) (hS : St b C n M s H locs) (hl : lv_has ls 5 [(1, .ref (b + k1)), (2, vI x2)]) (hT : t_Scene_standsIn_L38 k0 k1 x2 M = res) : W p l e (headSpec (wsM y_Scene_standsIn b_Scene_standsIn 5 (some .boolean)) (rmD 2)).room s m ([.ref (b + k0), .ref (b + k1), vI x2] : List Value).toArray below meth c H locs 0 0 (MQ below (QZ b C n M res) ([.ref (b + k0), .ref (b + k1), vI x2] : List Value).toArray s 0 0 (frb b)) (F0 m 38 ls []) := by
  unfold t_Scene_standsIn_L38 at hT
  refine lv_aload_n F.hx F.hb d_Scene_standsIn_38 rfl (lv_at hl 0 rfl) ?_
  refine r_get (v := .long (M.2 k1 19)) (N := 20) (T := T11) (j := 19) F hS (Town_lt hk1) (Town_sh hk1) (Town_N hk1) rfl (Nat.le_of_ble_eq_true rfl) ing11 mw_158 (fv_long rfl) d_Scene_standsIn_39 ?_
  refine lv_iload_n F.hx F.hb d_Scene_standsIn_42 rfl (lv_at hl 1 rfl) ?_
  obtain ⟨q16, hq16⟩ : ∃ q, q = (t_WF_bitOf M (M.2 k1 19) x2) := ⟨_, rfl⟩
  replace hT := qlet_eq hT hq16
  refine r_backI F hS (r_runSN (As := [.long (M.2 k1 19), vI x2]) F hS (c_WF_bitOf l F.2.2.1 M (M.2 k1 19) x2 hx2 _ hq16.symm) mw_773 mw_772 mw_1 gs_Scene_60 hd_WF_bitOf ⟨Nat.le_of_ble_eq_true rfl, Nat.le_of_ble_eq_true rfl⟩ rfl hl.1 (Nat.le_of_ble_eq_true rfl) ⟨Nat.zero_le _, Nat.zero_le _⟩ rfl d_Scene_standsIn_43) (fun H locs hS h17 => ?_)
  refine r_iconst F.hx F.hb d_Scene_standsIn_46 ?_
  refine r_icmp_ne (tgt := 54) F.hx F.hb h17 (inr_c rfl) d_Scene_standsIn_47 (by decide) (fun c18 => ?_) (fun c18 => ?_)
  · replace hT := (if_neg c18).symm.trans hT
    refine r_iconst F.hx F.hb d_Scene_standsIn_54 ?_
    subst hT
    exact r_zret F hlk hr hS (Or.inl rfl) d_Scene_standsIn_55
  · replace hT := (if_pos c18).symm.trans hT
    refine r_iconst F.hx F.hb d_Scene_standsIn_50 ?_
    refine lv_goto (tgt := 55) F.hx F.hb d_Scene_standsIn_51 (by decide) ?_
    subst hT
    exact r_zret F hlk hr hS (Or.inr rfl) d_Scene_standsIn_55
set_option maxHeartbeats 4000000 in
set_option maxRecDepth 100000 in
theorem c_Scene_standsIn (l : Launch) {b n : Nat} {C : CT} (hlo : 191 ≤ n) (M : Mem) (k0 : Nat) (k1 : Nat) (x2 : Int) (hk0 : isScene k0) (hk1 : isTown k1) (hx2 : InR x2) (res : Int) (hT : t_Scene_standsIn M k0 k1 x2 = res) : CM l b C n 2 y_Scene_standsIn b_Scene_standsIn 5 (some .boolean) [.ref (b + k0), .ref (b + k1), vI x2] M (QZ b C n M res) := by
  refine CM.of (lo := 191) (ow := "WardFalls$Scene") (by decide) rfl (Nat.le_of_ble_eq_true rfl) hlo (fun p e s m below meth c F hlk hr hS ls hl => ?_)
  have hl : lv_has ls 5 [(0, .ref (b + k0)), (1, .ref (b + k1)), (2, vI x2)] := hl
  unfold t_Scene_standsIn at hT
  refine lv_aload_n F.hx F.hb d_Scene_standsIn_0 rfl (lv_at hl 0 rfl) ?_
  refine r_get (v := .long (M.2 k0 4)) (N := 7) (T := T9) (j := 4) F hS (Scene_lt hk0) (Scene_sh hk0) (Scene_N hk0) rfl (Nat.le_of_ble_eq_true rfl) ing9 mw_285 (fv_long rfl) d_Scene_standsIn_1 ?_
  refine lv_iload_n F.hx F.hb d_Scene_standsIn_4 rfl (lv_at hl 2 rfl) ?_
  obtain ⟨q1, hq1⟩ : ∃ q, q = (t_WF_bitOf M (M.2 k0 4) x2) := ⟨_, rfl⟩
  replace hT := qlet_eq hT hq1
  refine r_backI F hS (r_runSN (As := [.long (M.2 k0 4), vI x2]) F hS (c_WF_bitOf l F.2.2.1 M (M.2 k0 4) x2 hx2 _ hq1.symm) mw_773 mw_772 mw_1 gs_Scene_60 hd_WF_bitOf ⟨Nat.le_of_ble_eq_true rfl, Nat.le_of_ble_eq_true rfl⟩ rfl hl.1 (Nat.le_of_ble_eq_true rfl) ⟨Nat.zero_le _, Nat.zero_le _⟩ rfl d_Scene_standsIn_5) (fun H locs hS h2 => ?_)
  refine r_iconst F.hx F.hb d_Scene_standsIn_8 ?_
  refine r_icmp_ne (tgt := 14) F.hx F.hb h2 (inr_c rfl) d_Scene_standsIn_9 (by decide) (fun c3 => ?_) (fun c3 => ?_)
  · replace hT := (if_neg c3).symm.trans hT
    refine lv_aload_n F.hx F.hb d_Scene_standsIn_14 rfl (lv_at hl 0 rfl) ?_
    refine lv_aload_n F.hx F.hb d_Scene_standsIn_15 rfl (lv_at hl 1 rfl) ?_
    refine lv_iload_n F.hx F.hb d_Scene_standsIn_16 rfl (lv_at hl 2 rfl) ?_
    obtain ⟨q4, hq4⟩ : ∃ q, q = (t_Scene_downOf M k0 k1 x2) := ⟨_, rfl⟩
    replace hT := qlet_eq hT hq4
    refine r_backI F hS (r_runV (k := k0) (N := 7) (T := T9) (As := [.ref (b + k1), vI x2]) F hS (Scene_lt hk0) (Scene_sh hk0) rfl (c_Scene_downOf l F.2.2.1 M k0 k1 x2 hk0 hk1 hx2 _ hq4.symm) gs_Scene_64 hd_Scene_downOf ⟨Nat.le_of_ble_eq_true rfl, Nat.le_of_ble_eq_true rfl⟩ rfl hl.1 (Nat.le_of_ble_eq_true rfl) ⟨Nat.zero_le _, Nat.zero_le _⟩ rfl d_Scene_standsIn_17) (fun H locs hS h5 => ?_)
    refine lv_istore_n (lv' := [(3, vI q4), (0, .ref (b + k0)), (1, .ref (b + k1)), (2, vI x2)]) F.hx F.hb d_Scene_standsIn_20 rfl hl (Nat.le_of_ble_eq_true rfl) rfl (fun ls hl => ?_)
    refine lv_aload_n F.hx F.hb d_Scene_standsIn_21 rfl (lv_at hl 2 rfl) ?_
    refine r_get (v := .long (M.2 k1 19)) (N := 20) (T := T11) (j := 19) F hS (Town_lt hk1) (Town_sh hk1) (Town_N hk1) rfl (Nat.le_of_ble_eq_true rfl) ing11 mw_158 (fv_long rfl) d_Scene_standsIn_22 ?_
    refine lv_iload_n F.hx F.hb d_Scene_standsIn_25 rfl (lv_at hl 3 rfl) ?_
    obtain ⟨q6, hq6⟩ : ∃ q, q = (t_WF_bitOf M (M.2 k1 19) x2) := ⟨_, rfl⟩
    replace hT := qlet_eq hT hq6
    refine r_backI F hS (r_runSN (As := [.long (M.2 k1 19), vI x2]) F hS (c_WF_bitOf l F.2.2.1 M (M.2 k1 19) x2 hx2 _ hq6.symm) mw_773 mw_772 mw_1 gs_Scene_60 hd_WF_bitOf ⟨Nat.le_of_ble_eq_true rfl, Nat.le_of_ble_eq_true rfl⟩ rfl hl.1 (Nat.le_of_ble_eq_true rfl) ⟨Nat.zero_le _, Nat.zero_le _⟩ rfl d_Scene_standsIn_26) (fun H locs hS h7 => ?_)
    refine r_iconst F.hx F.hb d_Scene_standsIn_29 ?_
    refine r_icmp_eq (tgt := 38) F.hx F.hb h7 (inr_c rfl) d_Scene_standsIn_30 (by decide) (fun c8 => ?_) (fun c8 => ?_)
    · replace hT := (if_pos c8).symm.trans hT
      exact k_Scene_standsIn_L38 l hlo k0 k1 x2 hk0 hk1 hx2 F hlk hr M _ _ _ hS (lv_sub hl [2, 3] rfl) hT
    · replace hT := (if_neg c8).symm.trans hT
      refine lv_iload_n F.hx F.hb d_Scene_standsIn_33 rfl (lv_at hl 0 rfl) ?_
      refine r_iconst F.hx F.hb d_Scene_standsIn_34 ?_
      refine r_icmp_ne (tgt := 56) F.hx F.hb h5 (inr_c rfl) d_Scene_standsIn_35 (by decide) (fun c9 => ?_) (fun c9 => ?_)
      · replace hT := (if_neg c9).symm.trans hT
        refine lv_aload_n F.hx F.hb d_Scene_standsIn_56 rfl (lv_at hl 2 rfl) ?_
        refine lv_iload_n F.hx F.hb d_Scene_standsIn_57 rfl (lv_at hl 3 rfl) ?_
        refine lv_iload_n F.hx F.hb d_Scene_standsIn_58 rfl (lv_at hl 0 rfl) ?_
        obtain ⟨q10, hq10⟩ : ∃ q, q = (t_Town_beside M k1 x2 q4) := ⟨_, rfl⟩
        replace hT := qlet_eq hT hq10
        refine r_backI F hS (r_runV (k := k1) (N := 20) (T := T11) (As := [vI x2, vI q4]) F hS (Town_lt hk1) (Town_sh hk1) rfl (c_Town_beside l F.2.2.1 M k1 x2 q4 hk1 hx2 h5 _ hq10.symm) gs_Scene_68 hd_Town_beside ⟨Nat.le_of_ble_eq_true rfl, Nat.le_of_ble_eq_true rfl⟩ rfl hl.1 (Nat.le_of_ble_eq_true rfl) ⟨Nat.zero_le _, Nat.zero_le _⟩ rfl d_Scene_standsIn_59) (fun H locs hS h11 => ?_)
        refine lv_istore (lv' := [(4, vI q10), (3, vI q4), (0, .ref (b + k0)), (1, .ref (b + k1)), (2, vI x2)]) F.hx F.hb d_Scene_standsIn_62 hl (Nat.le_of_ble_eq_true rfl) rfl (fun ls hl => ?_)
        refine lv_iload F.hx F.hb d_Scene_standsIn_64 (lv_at hl 0 rfl) ?_
        refine r_if_lt (tgt := 82) F.hx F.hb h11 d_Scene_standsIn_66 (by decide) (fun c12 => ?_) (fun c12 => ?_)
        · replace hT := (if_pos c12).symm.trans hT
          refine r_iconst F.hx F.hb d_Scene_standsIn_82 ?_
          refine lv_goto (tgt := 87) F.hx F.hb d_Scene_standsIn_83 (by decide) ?_
          subst hT
          exact r_zret F hlk hr hS (Or.inr rfl) d_Scene_standsIn_87
        · replace hT := (if_neg c12).symm.trans hT
          refine lv_aload_n F.hx F.hb d_Scene_standsIn_69 rfl (lv_at hl 2 rfl) ?_
          refine r_get (v := .long (M.2 k0 4)) (N := 7) (T := T9) (j := 4) F hS (Scene_lt hk0) (Scene_sh hk0) (Scene_N hk0) rfl (Nat.le_of_ble_eq_true rfl) ing9 mw_285 (fv_long rfl) d_Scene_standsIn_70 ?_
          refine lv_iload F.hx F.hb d_Scene_standsIn_73 (lv_at hl 0 rfl) ?_
          obtain ⟨q13, hq13⟩ : ∃ q, q = (t_WF_bitOf M (M.2 k0 4) q10) := ⟨_, rfl⟩
          replace hT := qlet_eq hT hq13
          refine r_backI F hS (r_runSN (As := [.long (M.2 k0 4), vI q10]) F hS (c_WF_bitOf l F.2.2.1 M (M.2 k0 4) q10 h11 _ hq13.symm) mw_773 mw_772 mw_1 gs_Scene_60 hd_WF_bitOf ⟨Nat.le_of_ble_eq_true rfl, Nat.le_of_ble_eq_true rfl⟩ rfl hl.1 (Nat.le_of_ble_eq_true rfl) ⟨Nat.zero_le _, Nat.zero_le _⟩ rfl d_Scene_standsIn_75) (fun H locs hS h14 => ?_)
          refine r_iconst F.hx F.hb d_Scene_standsIn_78 ?_
          refine r_icmp_ne (tgt := 86) F.hx F.hb h14 (inr_c rfl) d_Scene_standsIn_79 (by decide) (fun c15 => ?_) (fun c15 => ?_)
          · replace hT := (if_neg c15).symm.trans hT
            refine r_iconst F.hx F.hb d_Scene_standsIn_86 ?_
            subst hT
            exact r_zret F hlk hr hS (Or.inl rfl) d_Scene_standsIn_87
          · replace hT := (if_pos c15).symm.trans hT
            refine r_iconst F.hx F.hb d_Scene_standsIn_82 ?_
            refine lv_goto (tgt := 87) F.hx F.hb d_Scene_standsIn_83 (by decide) ?_
            subst hT
            exact r_zret F hlk hr hS (Or.inr rfl) d_Scene_standsIn_87
      · replace hT := (if_pos c9).symm.trans hT
        exact k_Scene_standsIn_L38 l hlo k0 k1 x2 hk0 hk1 hx2 F hlk hr M _ _ _ hS (lv_sub hl [2, 3] rfl) hT
  · replace hT := (if_pos c3).symm.trans hT
    refine r_iconst F.hx F.hb d_Scene_standsIn_12 ?_
    subst hT
    exact r_zret F hlk hr hS (Or.inl rfl) d_Scene_standsIn_13
theorem d_Town_hasWard_0 : decode b_Town_hasWard 0 = .ok (.iload_n 1, 1) := dc_27 (by decide +kernel)
theorem d_Town_hasWard_1 : decode b_Town_hasWard 1 = .ok (.ifCond .lt 15, 3) := dc_155 (by decide +kernel)
theorem d_Town_hasWard_4 : decode b_Town_hasWard 4 = .ok (.iload_n 1, 1) := dc_27 (by decide +kernel)
theorem d_Town_hasWard_5 : decode b_Town_hasWard 5 = .ok (.aload_n 0, 1) := dc_42 (by decide +kernel)
theorem d_Town_hasWard_6 : decode b_Town_hasWard 6 = .ok (.getfield 56, 3) := dc_180 (by decide +kernel)
theorem d_Town_hasWard_9 : decode b_Town_hasWard 9 = .ok (.if_icmp .ge 7, 3) := dc_162 (by decide +kernel)
theorem d_Town_hasWard_12 : decode b_Town_hasWard 12 = .ok (.iconst 1, 1) := dc_4 (by decide +kernel)
theorem d_Town_hasWard_13 : decode b_Town_hasWard 13 = .ok (.goto 4, 3) := dc_167 (by decide +kernel)
theorem d_Town_hasWard_16 : decode b_Town_hasWard 16 = .ok (.iconst 0, 1) := dc_3 (by decide +kernel)
theorem d_Town_hasWard_17 : decode b_Town_hasWard 17 = .ok (.ireturn, 1) := dc_172 (by decide +kernel)
def t_Town_hasWard (M : Mem) (k0 : Nat) (x1 : Int) : Int := (if x1 < 0 then 0 else (if (M.1 k0 14) ≤ x1 then 0 else 1))
set_option maxHeartbeats 4000000 in
set_option maxRecDepth 100000 in
theorem c_Town_hasWard (l : Launch) {b n : Nat} {C : CT} (hlo : 191 ≤ n) (M : Mem) (k0 : Nat) (x1 : Int) (hk0 : isTown k0) (hx1 : InR x1) (res : Int) (hT : t_Town_hasWard M k0 x1 = res) : CM l b C n 0 y_Town_hasWard b_Town_hasWard 2 (some .boolean) [.ref (b + k0), vI x1] M (QZ b C n M res) := by
  refine CM.of (lo := 191) (ow := "WardFalls$Town") (by decide) rfl (Nat.le_of_ble_eq_true rfl) hlo (fun p e s m below meth c F hlk hr hS ls hl => ?_)
  have hl : lv_has ls 2 [(0, .ref (b + k0)), (1, vI x1)] := hl
  unfold t_Town_hasWard at hT
  refine lv_iload_n F.hx F.hb d_Town_hasWard_0 rfl (lv_at hl 1 rfl) ?_
  refine r_if_lt (tgt := 16) F.hx F.hb hx1 d_Town_hasWard_1 (by decide) (fun c1 => ?_) (fun c1 => ?_)
  · replace hT := (if_pos c1).symm.trans hT
    refine r_iconst F.hx F.hb d_Town_hasWard_16 ?_
    subst hT
    exact r_zret F hlk hr hS (Or.inl rfl) d_Town_hasWard_17
  · replace hT := (if_neg c1).symm.trans hT
    refine lv_iload_n F.hx F.hb d_Town_hasWard_4 rfl (lv_at hl 1 rfl) ?_
    refine lv_aload_n F.hx F.hb d_Town_hasWard_5 rfl (lv_at hl 0 rfl) ?_
    refine r_get (v := vI (M.1 k0 14)) (N := 20) (T := T11) (j := 14) F hS (Town_lt hk0) (Town_sh hk0) (Town_N hk0) rfl (Nat.le_of_ble_eq_true rfl) ing11 mw_133 (fv_int rfl) d_Town_hasWard_6 ?_
    have i2 := hS.rng k0 14
    refine r_icmp_ge (tgt := 16) F.hx F.hb hx1 i2 d_Town_hasWard_9 (by decide) (fun c3 => ?_) (fun c3 => ?_)
    · replace hT := (if_pos c3).symm.trans hT
      refine r_iconst F.hx F.hb d_Town_hasWard_16 ?_
      subst hT
      exact r_zret F hlk hr hS (Or.inl rfl) d_Town_hasWard_17
    · replace hT := (if_neg c3).symm.trans hT
      refine r_iconst F.hx F.hb d_Town_hasWard_12 ?_
      refine lv_goto (tgt := 17) F.hx F.hb d_Town_hasWard_13 (by decide) ?_
      subst hT
      exact r_zret F hlk hr hS (Or.inr rfl) d_Town_hasWard_17
theorem d_Town_isLine_0 : decode b_Town_isLine 0 = .ok (.aload_n 0, 1) := dc_42 (by decide +kernel)
theorem d_Town_isLine_1 : decode b_Town_isLine 1 = .ok (.iload_n 1, 1) := dc_27 (by decide +kernel)
theorem d_Town_isLine_2 : decode b_Town_isLine 2 = .ok (.invokevirtual 91, 3) := dc_182 (by decide +kernel)
theorem d_Town_isLine_5 : decode b_Town_isLine 5 = .ok (.aload_n 0, 1) := dc_42 (by decide +kernel)
theorem d_Town_isLine_6 : decode b_Town_isLine 6 = .ok (.iload_n 2, 1) := dc_28 (by decide +kernel)
theorem d_Town_isLine_7 : decode b_Town_isLine 7 = .ok (.invokevirtual 91, 3) := dc_182 (by decide +kernel)
theorem d_Town_isLine_10 : decode b_Town_isLine 10 = .ok (.if_icmp .eq 7, 3) := dc_159 (by decide +kernel)
theorem d_Town_isLine_13 : decode b_Town_isLine 13 = .ok (.iconst 1, 1) := dc_4 (by decide +kernel)
theorem d_Town_isLine_14 : decode b_Town_isLine 14 = .ok (.goto 4, 3) := dc_167 (by decide +kernel)
theorem d_Town_isLine_17 : decode b_Town_isLine 17 = .ok (.iconst 0, 1) := dc_3 (by decide +kernel)
theorem d_Town_isLine_18 : decode b_Town_isLine 18 = .ok (.ireturn, 1) := dc_172 (by decide +kernel)
def t_Town_isLine (M : Mem) (k0 : Nat) (x1 : Int) (x2 : Int) : Int := (qlet (t_Town_ownerOf M k0 x1) fun q1 => (qlet (t_Town_ownerOf M k0 x2) fun q3 => (if q1 = q3 then 0 else 1)))
set_option maxHeartbeats 4000000 in
set_option maxRecDepth 100000 in
theorem c_Town_isLine (l : Launch) {b n : Nat} {C : CT} (hlo : 191 ≤ n) (M : Mem) (k0 : Nat) (x1 : Int) (x2 : Int) (hk0 : isTown k0) (hx1 : InR x1) (hx2 : InR x2) (res : Int) (hT : t_Town_isLine M k0 x1 x2 = res) : CM l b C n 2 y_Town_isLine b_Town_isLine 3 (some .boolean) [.ref (b + k0), vI x1, vI x2] M (QZ b C n M res) := by
  refine CM.of (lo := 191) (ow := "WardFalls$Town") (by decide) rfl (Nat.le_of_ble_eq_true rfl) hlo (fun p e s m below meth c F hlk hr hS ls hl => ?_)
  have hl : lv_has ls 3 [(0, .ref (b + k0)), (1, vI x1), (2, vI x2)] := hl
  unfold t_Town_isLine at hT
  refine lv_aload_n F.hx F.hb d_Town_isLine_0 rfl (lv_at hl 0 rfl) ?_
  refine lv_iload_n F.hx F.hb d_Town_isLine_1 rfl (lv_at hl 1 rfl) ?_
  obtain ⟨q1, hq1⟩ : ∃ q, q = (t_Town_ownerOf M k0 x1) := ⟨_, rfl⟩
  replace hT := qlet_eq hT hq1
  refine r_backI F hS (r_runV (k := k0) (N := 20) (T := T11) (As := [vI x1]) F hS (Town_lt hk0) (Town_sh hk0) rfl (c_Town_ownerOf l F.2.2.1 M k0 x1 hk0 hx1 _ hq1.symm) gs_Town_91 hd_Town_ownerOf ⟨Nat.le_of_ble_eq_true rfl, Nat.le_of_ble_eq_true rfl⟩ rfl hl.1 (Nat.le_of_ble_eq_true rfl) ⟨Nat.zero_le _, Nat.zero_le _⟩ rfl d_Town_isLine_2) (fun H locs hS h2 => ?_)
  refine lv_aload_n F.hx F.hb d_Town_isLine_5 rfl (lv_at hl 0 rfl) ?_
  refine lv_iload_n F.hx F.hb d_Town_isLine_6 rfl (lv_at hl 2 rfl) ?_
  obtain ⟨q3, hq3⟩ : ∃ q, q = (t_Town_ownerOf M k0 x2) := ⟨_, rfl⟩
  replace hT := qlet_eq hT hq3
  refine r_backI F hS (r_runV (k := k0) (N := 20) (T := T11) (As := [vI x2]) F hS (Town_lt hk0) (Town_sh hk0) rfl (c_Town_ownerOf l F.2.2.1 M k0 x2 hk0 hx2 _ hq3.symm) gs_Town_91 hd_Town_ownerOf ⟨Nat.le_of_ble_eq_true rfl, Nat.le_of_ble_eq_true rfl⟩ rfl hl.1 (Nat.le_of_ble_eq_true rfl) ⟨Nat.zero_le _, Nat.zero_le _⟩ rfl d_Town_isLine_7) (fun H locs hS h4 => ?_)
  refine r_icmp_eq (tgt := 17) F.hx F.hb h2 h4 d_Town_isLine_10 (by decide) (fun c5 => ?_) (fun c5 => ?_)
  · replace hT := (if_pos c5).symm.trans hT
    refine r_iconst F.hx F.hb d_Town_isLine_17 ?_
    subst hT
    exact r_zret F hlk hr hS (Or.inl rfl) d_Town_isLine_18
  · replace hT := (if_neg c5).symm.trans hT
    refine r_iconst F.hx F.hb d_Town_isLine_13 ?_
    refine lv_goto (tgt := 18) F.hx F.hb d_Town_isLine_14 (by decide) ?_
    subst hT
    exact r_zret F hlk hr hS (Or.inr rfl) d_Town_isLine_18
theorem wn_Trail_follow_0 : ∀ i, i < 96 → bA b_Trail_follow (0 + i) = wB [42, 3, 181, 0, 15, 42, 3, 181, 0, 19, 42, 3, 181, 0, 22, 9, 55, 4, 29, 54, 6, 3, 54, 7, 21, 7, 16, 48, 162, 0, 125, 42, 180, 0, 9, 21, 7, 21, 6, 184, 0, 25, 42, 21, 7, 4, 96, 181, 0, 15, 42, 21, 7, 181, 0, 29, 22, 4, 10, 21, 6, 121, 129, 55, 4, 44, 43, 21, 6, 182, 0, 32, 54, 8, 21, 8, 156, 0, 4, 177, 43, 21, 6, 21, 8, 182, 0, 38, 153, 0, 13, 42, 89, 180, 0, 22] i := wB_of (by decide +kernel)
theorem d_Trail_follow_0 : decode b_Trail_follow 0 = .ok (.aload_n 0, 1) := dc_42 (q0_win (r := 0) wn_Trail_follow_0 (by decide +kernel))
theorem d_Trail_follow_1 : decode b_Trail_follow 1 = .ok (.iconst 0, 1) := dc_3 (q0_win (r := 1) wn_Trail_follow_0 (by decide +kernel))
theorem d_Trail_follow_2 : decode b_Trail_follow 2 = .ok (.putfield 15, 3) := dc_181 (qU2_win (r := 2) wn_Trail_follow_0 (by decide +kernel))
theorem d_Trail_follow_5 : decode b_Trail_follow 5 = .ok (.aload_n 0, 1) := dc_42 (q0_win (r := 5) wn_Trail_follow_0 (by decide +kernel))
theorem d_Trail_follow_6 : decode b_Trail_follow 6 = .ok (.iconst 0, 1) := dc_3 (q0_win (r := 6) wn_Trail_follow_0 (by decide +kernel))
theorem d_Trail_follow_7 : decode b_Trail_follow 7 = .ok (.putfield 19, 3) := dc_181 (qU2_win (r := 7) wn_Trail_follow_0 (by decide +kernel))
theorem d_Trail_follow_10 : decode b_Trail_follow 10 = .ok (.aload_n 0, 1) := dc_42 (q0_win (r := 10) wn_Trail_follow_0 (by decide +kernel))
theorem d_Trail_follow_11 : decode b_Trail_follow 11 = .ok (.iconst 0, 1) := dc_3 (q0_win (r := 11) wn_Trail_follow_0 (by decide +kernel))
theorem d_Trail_follow_12 : decode b_Trail_follow 12 = .ok (.putfield 22, 3) := dc_181 (qU2_win (r := 12) wn_Trail_follow_0 (by decide +kernel))
theorem d_Trail_follow_15 : decode b_Trail_follow 15 = .ok (.lconst 0, 1) := dc_9 (q0_win (r := 15) wn_Trail_follow_0 (by decide +kernel))
theorem d_Trail_follow_16 : decode b_Trail_follow 16 = .ok (.lstore 4, 2) := dc_55 (qU1_win (r := 16) wn_Trail_follow_0 (by decide +kernel))
theorem d_Trail_follow_18 : decode b_Trail_follow 18 = .ok (.iload_n 3, 1) := dc_29 (q0_win (r := 18) wn_Trail_follow_0 (by decide +kernel))
theorem d_Trail_follow_19 : decode b_Trail_follow 19 = .ok (.istore 6, 2) := dc_54 (qU1_win (r := 19) wn_Trail_follow_0 (by decide +kernel))
theorem d_Trail_follow_21 : decode b_Trail_follow 21 = .ok (.iconst 0, 1) := dc_3 (q0_win (r := 21) wn_Trail_follow_0 (by decide +kernel))
theorem d_Trail_follow_22 : decode b_Trail_follow 22 = .ok (.istore 7, 2) := dc_54 (qU1_win (r := 22) wn_Trail_follow_0 (by decide +kernel))
theorem d_Trail_follow_24 : decode b_Trail_follow 24 = .ok (.iload 7, 2) := dc_21 (qU1_win (r := 24) wn_Trail_follow_0 (by decide +kernel))
theorem d_Trail_follow_26 : decode b_Trail_follow 26 = .ok (.bipush 48, 2) := dc_16 (qS1_win (r := 26) wn_Trail_follow_0 (by decide +kernel))
theorem d_Trail_follow_28 : decode b_Trail_follow 28 = .ok (.if_icmp .ge 125, 3) := dc_162 (qS2_win (r := 28) wn_Trail_follow_0 (by decide +kernel))
theorem d_Trail_follow_31 : decode b_Trail_follow 31 = .ok (.aload_n 0, 1) := dc_42 (q0_win (r := 31) wn_Trail_follow_0 (by decide +kernel))
theorem d_Trail_follow_32 : decode b_Trail_follow 32 = .ok (.getfield 9, 3) := dc_180 (qU2_win (r := 32) wn_Trail_follow_0 (by decide +kernel))
theorem d_Trail_follow_35 : decode b_Trail_follow 35 = .ok (.iload 7, 2) := dc_21 (qU1_win (r := 35) wn_Trail_follow_0 (by decide +kernel))
theorem d_Trail_follow_37 : decode b_Trail_follow 37 = .ok (.iload 6, 2) := dc_21 (qU1_win (r := 37) wn_Trail_follow_0 (by decide +kernel))
theorem d_Trail_follow_39 : decode b_Trail_follow 39 = .ok (.invokestatic 25, 3) := dc_184 (qU2_win (r := 39) wn_Trail_follow_0 (by decide +kernel))
theorem d_Trail_follow_42 : decode b_Trail_follow 42 = .ok (.aload_n 0, 1) := dc_42 (q0_win (r := 42) wn_Trail_follow_0 (by decide +kernel))
theorem d_Trail_follow_43 : decode b_Trail_follow 43 = .ok (.iload 7, 2) := dc_21 (qU1_win (r := 43) wn_Trail_follow_0 (by decide +kernel))
theorem d_Trail_follow_45 : decode b_Trail_follow 45 = .ok (.iconst 1, 1) := dc_4 (q0_win (r := 45) wn_Trail_follow_0 (by decide +kernel))
theorem d_Trail_follow_46 : decode b_Trail_follow 46 = .ok (.iadd, 1) := dc_96 (q0_win (r := 46) wn_Trail_follow_0 (by decide +kernel))
theorem d_Trail_follow_47 : decode b_Trail_follow 47 = .ok (.putfield 15, 3) := dc_181 (qU2_win (r := 47) wn_Trail_follow_0 (by decide +kernel))
theorem d_Trail_follow_50 : decode b_Trail_follow 50 = .ok (.aload_n 0, 1) := dc_42 (q0_win (r := 50) wn_Trail_follow_0 (by decide +kernel))
theorem d_Trail_follow_51 : decode b_Trail_follow 51 = .ok (.iload 7, 2) := dc_21 (qU1_win (r := 51) wn_Trail_follow_0 (by decide +kernel))
theorem d_Trail_follow_53 : decode b_Trail_follow 53 = .ok (.putfield 29, 3) := dc_181 (qU2_win (r := 53) wn_Trail_follow_0 (by decide +kernel))
theorem d_Trail_follow_56 : decode b_Trail_follow 56 = .ok (.lload 4, 2) := dc_22 (qU1_win (r := 56) wn_Trail_follow_0 (by decide +kernel))
theorem d_Trail_follow_58 : decode b_Trail_follow 58 = .ok (.lconst 1, 1) := dc_10 (q0_win (r := 58) wn_Trail_follow_0 (by decide +kernel))
theorem d_Trail_follow_59 : decode b_Trail_follow 59 = .ok (.iload 6, 2) := dc_21 (qU1_win (r := 59) wn_Trail_follow_0 (by decide +kernel))
theorem d_Trail_follow_61 : decode b_Trail_follow 61 = .ok (.lshl, 1) := dc_121 (q0_win (r := 61) wn_Trail_follow_0 (by decide +kernel))
theorem d_Trail_follow_62 : decode b_Trail_follow 62 = .ok (.lor, 1) := dc_129 (q0_win (r := 62) wn_Trail_follow_0 (by decide +kernel))
theorem d_Trail_follow_63 : decode b_Trail_follow 63 = .ok (.lstore 4, 2) := dc_55 (qU1_win (r := 63) wn_Trail_follow_0 (by decide +kernel))
theorem d_Trail_follow_65 : decode b_Trail_follow 65 = .ok (.aload_n 2, 1) := dc_44 (q0_win (r := 65) wn_Trail_follow_0 (by decide +kernel))
theorem d_Trail_follow_66 : decode b_Trail_follow 66 = .ok (.aload_n 1, 1) := dc_43 (q0_win (r := 66) wn_Trail_follow_0 (by decide +kernel))
theorem d_Trail_follow_67 : decode b_Trail_follow 67 = .ok (.iload 6, 2) := dc_21 (qU1_win (r := 67) wn_Trail_follow_0 (by decide +kernel))
theorem d_Trail_follow_69 : decode b_Trail_follow 69 = .ok (.invokevirtual 32, 3) := dc_182 (qU2_win (r := 69) wn_Trail_follow_0 (by decide +kernel))
theorem d_Trail_follow_72 : decode b_Trail_follow 72 = .ok (.istore 8, 2) := dc_54 (qU1_win (r := 72) wn_Trail_follow_0 (by decide +kernel))
theorem d_Trail_follow_74 : decode b_Trail_follow 74 = .ok (.iload 8, 2) := dc_21 (qU1_win (r := 74) wn_Trail_follow_0 (by decide +kernel))
theorem d_Trail_follow_76 : decode b_Trail_follow 76 = .ok (.ifCond .ge 4, 3) := dc_156 (qS2_win (r := 76) wn_Trail_follow_0 (by decide +kernel))
theorem d_Trail_follow_79 : decode b_Trail_follow 79 = .ok (.return_, 1) := dc_177 (q0_win (r := 79) wn_Trail_follow_0 (by decide +kernel))
theorem d_Trail_follow_80 : decode b_Trail_follow 80 = .ok (.aload_n 1, 1) := dc_43 (q0_win (r := 80) wn_Trail_follow_0 (by decide +kernel))
theorem d_Trail_follow_81 : decode b_Trail_follow 81 = .ok (.iload 6, 2) := dc_21 (qU1_win (r := 81) wn_Trail_follow_0 (by decide +kernel))
theorem d_Trail_follow_83 : decode b_Trail_follow 83 = .ok (.iload 8, 2) := dc_21 (qU1_win (r := 83) wn_Trail_follow_0 (by decide +kernel))
theorem d_Trail_follow_85 : decode b_Trail_follow 85 = .ok (.invokevirtual 38, 3) := dc_182 (qU2_win (r := 85) wn_Trail_follow_0 (by decide +kernel))
theorem d_Trail_follow_88 : decode b_Trail_follow 88 = .ok (.ifCond .eq 13, 3) := dc_153 (qS2_win (r := 88) wn_Trail_follow_0 (by decide +kernel))
theorem d_Trail_follow_91 : decode b_Trail_follow 91 = .ok (.aload_n 0, 1) := dc_42 (q0_win (r := 91) wn_Trail_follow_0 (by decide +kernel))
theorem d_Trail_follow_92 : decode b_Trail_follow 92 = .ok (.dup, 1) := dc_89 (q0_win (r := 92) wn_Trail_follow_0 (by decide +kernel))
theorem d_Trail_follow_93 : decode b_Trail_follow 93 = .ok (.getfield 22, 3) := dc_180 (qU2_win (r := 93) wn_Trail_follow_0 (by decide +kernel))
theorem wn_Trail_follow_96 : ∀ i, i < 58 → bA b_Trail_follow (96 + i) = wB [4, 96, 181, 0, 22, 22, 4, 21, 8, 184, 0, 44, 4, 160, 0, 34, 42, 42, 180, 0, 9, 42, 180, 0, 15, 21, 8, 184, 0, 48, 181, 0, 29, 42, 42, 180, 0, 15, 42, 180, 0, 29, 100, 181, 0, 19, 177, 21, 8, 54, 6, 132, 7, 1, 167, 255, 130, 177] i := wB_of (by decide +kernel)
theorem d_Trail_follow_96 : decode b_Trail_follow 96 = .ok (.iconst 1, 1) := dc_4 (q0_win (r := 0) wn_Trail_follow_96 (by decide +kernel))
theorem d_Trail_follow_97 : decode b_Trail_follow 97 = .ok (.iadd, 1) := dc_96 (q0_win (r := 1) wn_Trail_follow_96 (by decide +kernel))
theorem d_Trail_follow_98 : decode b_Trail_follow 98 = .ok (.putfield 22, 3) := dc_181 (qU2_win (r := 2) wn_Trail_follow_96 (by decide +kernel))
theorem d_Trail_follow_101 : decode b_Trail_follow 101 = .ok (.lload 4, 2) := dc_22 (qU1_win (r := 5) wn_Trail_follow_96 (by decide +kernel))
theorem d_Trail_follow_103 : decode b_Trail_follow 103 = .ok (.iload 8, 2) := dc_21 (qU1_win (r := 7) wn_Trail_follow_96 (by decide +kernel))
theorem d_Trail_follow_105 : decode b_Trail_follow 105 = .ok (.invokestatic 44, 3) := dc_184 (qU2_win (r := 9) wn_Trail_follow_96 (by decide +kernel))
theorem d_Trail_follow_108 : decode b_Trail_follow 108 = .ok (.iconst 1, 1) := dc_4 (q0_win (r := 12) wn_Trail_follow_96 (by decide +kernel))
theorem d_Trail_follow_109 : decode b_Trail_follow 109 = .ok (.if_icmp .ne 34, 3) := dc_160 (qS2_win (r := 13) wn_Trail_follow_96 (by decide +kernel))
theorem d_Trail_follow_112 : decode b_Trail_follow 112 = .ok (.aload_n 0, 1) := dc_42 (q0_win (r := 16) wn_Trail_follow_96 (by decide +kernel))
theorem d_Trail_follow_113 : decode b_Trail_follow 113 = .ok (.aload_n 0, 1) := dc_42 (q0_win (r := 17) wn_Trail_follow_96 (by decide +kernel))
theorem d_Trail_follow_114 : decode b_Trail_follow 114 = .ok (.getfield 9, 3) := dc_180 (qU2_win (r := 18) wn_Trail_follow_96 (by decide +kernel))
theorem d_Trail_follow_117 : decode b_Trail_follow 117 = .ok (.aload_n 0, 1) := dc_42 (q0_win (r := 21) wn_Trail_follow_96 (by decide +kernel))
theorem d_Trail_follow_118 : decode b_Trail_follow 118 = .ok (.getfield 15, 3) := dc_180 (qU2_win (r := 22) wn_Trail_follow_96 (by decide +kernel))
theorem d_Trail_follow_121 : decode b_Trail_follow 121 = .ok (.iload 8, 2) := dc_21 (qU1_win (r := 25) wn_Trail_follow_96 (by decide +kernel))
theorem d_Trail_follow_123 : decode b_Trail_follow 123 = .ok (.invokestatic 48, 3) := dc_184 (qU2_win (r := 27) wn_Trail_follow_96 (by decide +kernel))
theorem d_Trail_follow_126 : decode b_Trail_follow 126 = .ok (.putfield 29, 3) := dc_181 (qU2_win (r := 30) wn_Trail_follow_96 (by decide +kernel))
theorem d_Trail_follow_129 : decode b_Trail_follow 129 = .ok (.aload_n 0, 1) := dc_42 (q0_win (r := 33) wn_Trail_follow_96 (by decide +kernel))
theorem d_Trail_follow_130 : decode b_Trail_follow 130 = .ok (.aload_n 0, 1) := dc_42 (q0_win (r := 34) wn_Trail_follow_96 (by decide +kernel))
theorem d_Trail_follow_131 : decode b_Trail_follow 131 = .ok (.getfield 15, 3) := dc_180 (qU2_win (r := 35) wn_Trail_follow_96 (by decide +kernel))
theorem d_Trail_follow_134 : decode b_Trail_follow 134 = .ok (.aload_n 0, 1) := dc_42 (q0_win (r := 38) wn_Trail_follow_96 (by decide +kernel))
theorem d_Trail_follow_135 : decode b_Trail_follow 135 = .ok (.getfield 29, 3) := dc_180 (qU2_win (r := 39) wn_Trail_follow_96 (by decide +kernel))
theorem d_Trail_follow_138 : decode b_Trail_follow 138 = .ok (.isub, 1) := dc_100 (q0_win (r := 42) wn_Trail_follow_96 (by decide +kernel))
theorem d_Trail_follow_139 : decode b_Trail_follow 139 = .ok (.putfield 19, 3) := dc_181 (qU2_win (r := 43) wn_Trail_follow_96 (by decide +kernel))
theorem d_Trail_follow_142 : decode b_Trail_follow 142 = .ok (.return_, 1) := dc_177 (q0_win (r := 46) wn_Trail_follow_96 (by decide +kernel))
theorem d_Trail_follow_143 : decode b_Trail_follow 143 = .ok (.iload 8, 2) := dc_21 (qU1_win (r := 47) wn_Trail_follow_96 (by decide +kernel))
theorem d_Trail_follow_145 : decode b_Trail_follow 145 = .ok (.istore 6, 2) := dc_54 (qU1_win (r := 49) wn_Trail_follow_96 (by decide +kernel))
theorem d_Trail_follow_147 : decode b_Trail_follow 147 = .ok (.iinc 7 1, 3) := dc_132 (qI_win (r := 51) wn_Trail_follow_96 (by decide +kernel))
theorem d_Trail_follow_150 : decode b_Trail_follow 150 = .ok (.goto (-126), 3) := dc_167 (qS2_win (r := 54) wn_Trail_follow_96 (by decide +kernel))
theorem d_Trail_follow_153 : decode b_Trail_follow 153 = .ok (.return_, 1) := dc_177 (q0_win (r := 57) wn_Trail_follow_96 (by decide +kernel))
def t_Trail_follow_L101 (k0 : Nat) (k1 : Nat) (k2 : Nat) (x3 : Int) (bk24 : Mem → Int64 → Int → Int → Option (Mem)) (M : Mem) (v3_ : Int64) (v4_ : Int) (v5_ : Int) : Option (Mem) := (qlet (t_WF_bitOf M v3_ v5_) fun q17 => (if q17 = 1 then (obind (t_WF_indexOf M (k0 + 1) 48 (M.1 k0 1) v5_) fun q21 => (qlet (setI M k0 2 q21) fun M23 => (qlet (setI M23 k0 3 (w32 ((M23.1 k0 1) - (M23.1 k0 2)))) fun M26 => (some M26)))) else (bk24 M v3_ v5_ (w32 (v4_ + 1)))))
def t_Trail_follow_L24 (k0 : Nat) (k1 : Nat) (k2 : Nat) (x3 : Int)  : Nat → Mem → Int64 → Int → Int → Option (Mem)
  | 0, _, _, _, _ => none
  | fu + 1, M, v3_, v4_, v5_ => (if 48 ≤ v5_ then (some M) else (qlet (t_WF_put M (k0 + 1) 48 v5_ v4_) fun q5 => (qlet (setI q5 k0 1 (w32 (v5_ + 1))) fun M7 => (qlet (setI M7 k0 2 v5_) fun M8 => (qlet (t_Scene_nextOf M8 k2 k1 v4_) fun q9 => (if 0 ≤ q9 then (qlet (t_Town_isLine M8 k1 v4_ q9) fun q12 => (if q12 = 0 then (t_Trail_follow_L101 k0 k1 k2 x3 (fun a0_ a1_ a2_ a3_ => t_Trail_follow_L24 k0 k1 k2 x3 fu a0_ a1_ a2_ a3_) M8 (v3_ ||| (q_lshl 1 v4_)) v5_ q9) else (qlet (setI M8 k0 4 (w32 ((M8.1 k0 4) + 1))) fun M16 => (t_Trail_follow_L101 k0 k1 k2 x3 (fun a0_ a1_ a2_ a3_ => t_Trail_follow_L24 k0 k1 k2 x3 fu a0_ a1_ a2_ a3_) M16 (v3_ ||| (q_lshl 1 v4_)) v5_ q9)))) else (some M8)))))))
def t_Trail_follow (M : Mem) (k0 : Nat) (k1 : Nat) (k2 : Nat) (x3 : Int) : Option (Mem) := (qlet (setI M k0 1 0) fun M1 => (qlet (setI M1 k0 3 0) fun M2 => (qlet (setI M2 k0 4 0) fun M3 => (t_Trail_follow_L24 k0 k1 k2 x3 FU M3 0 x3 0))))
set_option maxHeartbeats 4000000 in
set_option maxRecDepth 100000 in
theorem k_Trail_follow_L101 (l : Launch) {p : Program} {e : Env} {s : State} {m : MethodId} {below : List Frame} {meth : Method} {c : Code} {b n : Nat} {C : CT} (hlo : 191 ≤ n) (k0 : Nat) (k1 : Nat) (k2 : Nat) (x3 : Int) (hk0 : isTrail k0) (hk1 : isTown k1) (hk2 : isScene k2) (hx3 : InR x3) (F : Cx b p m c b_Trail_follow 9 s ([.ref (b + k0), .ref (b + k1), .ref (b + k2), vI x3] : List Value).toArray "WardFalls$Trail" C n 191) (hlk : meth.locks = false) (hr : meth.sig.returnType = none) {res : Mem} (bk24 : Mem → Int64 → Int → Int → Option (Mem)) (hbk24 : ∀ (M : Mem) (v3_ : Int64) (v4_ : Int) (hv4_ : InR v4_) (v5_ : Int) (hv5_ : InR v5_) (H : Heap) (locs : List Loc) (ls : Array Slot), St b C n M s H locs → lv_has ls 9 [(0, .ref (b + k0)), (1, .ref (b + k1)), (2, .ref (b + k2)), (4, .long v3_), (6, vI v4_), (7, vI v5_)] → bk24 M v3_ v4_ v5_ = some res → W p l e (headSpec (wsM y_Trail_follow b_Trail_follow 9 (none)) (rmD 3)).room s m ([.ref (b + k0), .ref (b + k1), .ref (b + k2), vI x3] : List Value).toArray below meth c H locs 0 0 (MQ below (QV b C n res) ([.ref (b + k0), .ref (b + k1), .ref (b + k2), vI x3] : List Value).toArray s 0 0 (frb b)) (F0 m 24 ls [])) (M : Mem) (v3_ : Int64) (v4_ : Int) (hv4_ : InR v4_) (v5_ : Int) (hv5_ : InR v5_) (H : Heap) (locs : List Loc) (ls : Array Slot) (hS : St b C n M s H locs) (hl : lv_has ls 9 [(0, .ref (b + k0)), (1, .ref (b + k1)), (2, .ref (b + k2)), (4, .long v3_), (7, vI v4_), (8, vI v5_)]) (hT : t_Trail_follow_L101 k0 k1 k2 x3 bk24 M v3_ v4_ v5_ = some res) : W p l e (headSpec (wsM y_Trail_follow b_Trail_follow 9 (none)) (rmD 3)).room s m ([.ref (b + k0), .ref (b + k1), .ref (b + k2), vI x3] : List Value).toArray below meth c H locs 0 0 (MQ below (QV b C n res) ([.ref (b + k0), .ref (b + k1), .ref (b + k2), vI x3] : List Value).toArray s 0 0 (frb b)) (F0 m 101 ls []) := by
  unfold t_Trail_follow_L101 at hT
  refine lv_lload F.hx F.hb d_Trail_follow_101 (lv_at hl 3 rfl) ?_
  refine lv_iload F.hx F.hb d_Trail_follow_103 (lv_at hl 5 rfl) ?_
  obtain ⟨q17, hq17⟩ : ∃ q, q = (t_WF_bitOf M v3_ v5_) := ⟨_, rfl⟩
  replace hT := qlet_eq hT hq17
  refine r_backI F hS (r_runSN (As := [.long v3_, vI v5_]) F hS (c_WF_bitOf l F.2.2.1 M v3_ v5_ hv5_ _ hq17.symm) mw_773 mw_772 mw_1 gs_Trail_44 hd_WF_bitOf ⟨Nat.le_of_ble_eq_true rfl, Nat.le_of_ble_eq_true rfl⟩ rfl hl.1 (Nat.le_of_ble_eq_true rfl) ⟨Nat.zero_le _, Nat.zero_le _⟩ rfl d_Trail_follow_105) (fun H locs hS h18 => ?_)
  refine r_iconst F.hx F.hb d_Trail_follow_108 ?_
  refine r_icmp_ne (tgt := 143) F.hx F.hb h18 (inr_c rfl) d_Trail_follow_109 (by decide) (fun c19 => ?_) (fun c19 => ?_)
  · replace hT := (if_neg c19).symm.trans hT
    refine lv_iload F.hx F.hb d_Trail_follow_143 (lv_at hl 5 rfl) ?_
    refine lv_istore (lv' := [(6, vI v5_), (0, .ref (b + k0)), (1, .ref (b + k1)), (2, .ref (b + k2)), (4, .long v3_), (7, vI v4_), (8, vI v5_)]) F.hx F.hb d_Trail_follow_145 hl (Nat.le_of_ble_eq_true rfl) rfl (fun ls hl => ?_)
    refine lv_iinc (v := Int32.ofInt (w32 (v4_ + 1))) (lv' := [(7, vI (w32 (v4_ + 1))), (6, vI v5_), (0, .ref (b + k0)), (1, .ref (b + k1)), (2, .ref (b + k2)), (4, .long v3_), (8, vI v5_)]) F.hx F.hb d_Trail_follow_147 hl (k := 5) rfl (q_of_add _ _) (Nat.le_of_ble_eq_true rfl) rfl (fun ls hl => ?_)
    refine lv_goto (tgt := 24) F.hx F.hb d_Trail_follow_150 (by decide) ?_
    exact hbk24 M v3_ v5_ hv5_ (w32 (v4_ + 1)) (inr_w32 _) _ _ _ hS (lv_sub hl [2, 3, 4, 5, 1, 0] rfl) hT
  · replace hT := (if_pos c19).symm.trans hT
    refine lv_aload_n F.hx F.hb d_Trail_follow_112 rfl (lv_at hl 0 rfl) ?_
    refine lv_aload_n F.hx F.hb d_Trail_follow_113 rfl (lv_at hl 0 rfl) ?_
    refine r_get (v := .ref (b + (k0 + 1))) (N := 9) (T := T12) (j := 0) F hS (Trail_lt hk0) (Trail_sh hk0) (Trail_N hk0) rfl (Nat.le_of_ble_eq_true rfl) ing12 mw_402 (Trail_g0 hk0 _) d_Trail_follow_114 ?_
    refine lv_aload_n F.hx F.hb d_Trail_follow_117 rfl (lv_at hl 0 rfl) ?_
    refine r_get (v := vI (M.1 k0 1)) (N := 9) (T := T12) (j := 1) F hS (Trail_lt hk0) (Trail_sh hk0) (Trail_N hk0) rfl (Nat.le_of_ble_eq_true rfl) ing12 mw_403 (fv_int rfl) d_Trail_follow_118 ?_
    have i20 := hS.rng k0 1
    refine lv_iload F.hx F.hb d_Trail_follow_121 (lv_at hl 5 rfl) ?_
    obtain ⟨q21, hq21, hT⟩ := q_obind hT
    refine r_backI F hS (r_runSN (As := [.ref (b + (k0 + 1)), vI (M.1 k0 1), vI v5_]) F hS (c_WF_indexOf l F.2.2.1 M (k0 + 1) 48 (M.1 k0 1) v5_ (Trail_f0 hk0) i20 hv5_ _ hq21) mw_748 mw_747 mw_1 gs_Trail_48 hd_WF_indexOf ⟨Nat.le_of_ble_eq_true rfl, Nat.le_of_ble_eq_true rfl⟩ rfl hl.1 (Nat.le_of_ble_eq_true rfl) ⟨Nat.zero_le _, Nat.zero_le _⟩ rfl d_Trail_follow_123) (fun H locs hS h22 => ?_)
    refine r_putI (N := 9) (T := T12) (j := 2) F hS (Trail_lt hk0) (Trail_sh hk0) (Trail_N hk0) rfl (Nat.le_of_ble_eq_true rfl) ing12 tyok12 nm12 rfl rfl rfl rfl rfl (Trail_dyn hk0 _) mw_404 h22 d_Trail_follow_126 (fun H locs hS => ?_)
    obtain ⟨M23, eM23⟩ : ∃ q, q = (setI M k0 2 q21) := ⟨_, rfl⟩
    replace hS : St b C n M23 s H locs := by rw [eM23]; exact hS
    replace hT := qlet_eq hT eM23
    refine lv_aload_n F.hx F.hb d_Trail_follow_129 rfl (lv_at hl 0 rfl) ?_
    refine lv_aload_n F.hx F.hb d_Trail_follow_130 rfl (lv_at hl 0 rfl) ?_
    refine r_get (v := vI (M23.1 k0 1)) (N := 9) (T := T12) (j := 1) F hS (Trail_lt hk0) (Trail_sh hk0) (Trail_N hk0) rfl (Nat.le_of_ble_eq_true rfl) ing12 mw_403 (fv_int rfl) d_Trail_follow_131 ?_
    have i24 := hS.rng k0 1
    refine lv_aload_n F.hx F.hb d_Trail_follow_134 rfl (lv_at hl 0 rfl) ?_
    refine r_get (v := vI (M23.1 k0 2)) (N := 9) (T := T12) (j := 2) F hS (Trail_lt hk0) (Trail_sh hk0) (Trail_N hk0) rfl (Nat.le_of_ble_eq_true rfl) ing12 mw_404 (fv_int rfl) d_Trail_follow_135 ?_
    have i25 := hS.rng k0 2
    refine r_isub F.hx F.hb d_Trail_follow_138 ?_
    refine r_putI (N := 9) (T := T12) (j := 3) F hS (Trail_lt hk0) (Trail_sh hk0) (Trail_N hk0) rfl (Nat.le_of_ble_eq_true rfl) ing12 tyok12 nm12 rfl rfl rfl rfl rfl (Trail_dyn hk0 _) mw_406 (inr_w32 _) d_Trail_follow_139 (fun H locs hS => ?_)
    obtain ⟨M26, eM26⟩ : ∃ q, q = (setI M23 k0 3 (w32 ((M23.1 k0 1) - (M23.1 k0 2)))) := ⟨_, rfl⟩
    replace hS : St b C n M26 s H locs := by rw [eM26]; exact hS
    replace hT := qlet_eq hT eM26
    cases hT
    exact r_vret F hlk hr hS d_Trail_follow_142
set_option maxHeartbeats 4000000 in
set_option maxRecDepth 100000 in
theorem k_Trail_follow_L24 (l : Launch) {p : Program} {e : Env} {s : State} {m : MethodId} {below : List Frame} {meth : Method} {c : Code} {b n : Nat} {C : CT} (hlo : 191 ≤ n) (k0 : Nat) (k1 : Nat) (k2 : Nat) (x3 : Int) (hk0 : isTrail k0) (hk1 : isTown k1) (hk2 : isScene k2) (hx3 : InR x3) (F : Cx b p m c b_Trail_follow 9 s ([.ref (b + k0), .ref (b + k1), .ref (b + k2), vI x3] : List Value).toArray "WardFalls$Trail" C n 191) (hlk : meth.locks = false) (hr : meth.sig.returnType = none) {res : Mem} : ∀ (fu : Nat) (M : Mem) (v3_ : Int64) (v4_ : Int) (hv4_ : InR v4_) (v5_ : Int) (hv5_ : InR v5_) (H : Heap) (locs : List Loc) (ls : Array Slot), St b C n M s H locs → lv_has ls 9 [(0, .ref (b + k0)), (1, .ref (b + k1)), (2, .ref (b + k2)), (4, .long v3_), (6, vI v4_), (7, vI v5_)] → t_Trail_follow_L24 k0 k1 k2 x3 fu M v3_ v4_ v5_ = some res → W p l e (headSpec (wsM y_Trail_follow b_Trail_follow 9 (none)) (rmD 3)).room s m ([.ref (b + k0), .ref (b + k1), .ref (b + k2), vI x3] : List Value).toArray below meth c H locs 0 0 (MQ below (QV b C n res) ([.ref (b + k0), .ref (b + k1), .ref (b + k2), vI x3] : List Value).toArray s 0 0 (frb b)) (F0 m 24 ls []) := by
  intro fu
  induction fu with
  | zero => intro M v3_ v4_ hv4_ v5_ hv5_ H locs ls hS hl hT; exact absurd hT (by simp [t_Trail_follow_L24])
  | succ fu ih =>
    intro M v3_ v4_ hv4_ v5_ hv5_ H locs ls hS hl hT
    rw [t_Trail_follow_L24] at hT
    refine lv_iload F.hx F.hb d_Trail_follow_24 (lv_at hl 5 rfl) ?_
    refine r_bipush F.hx F.hb d_Trail_follow_26 rfl ?_
    refine r_icmp_ge (tgt := 153) F.hx F.hb hv5_ (inr_c rfl) d_Trail_follow_28 (by decide) (fun c4 => ?_) (fun c4 => ?_)
    · replace hT := (if_pos c4).symm.trans hT
      cases hT
      exact r_vret F hlk hr hS d_Trail_follow_153
    · replace hT := (if_neg c4).symm.trans hT
      refine lv_aload_n F.hx F.hb d_Trail_follow_31 rfl (lv_at hl 0 rfl) ?_
      refine r_get (v := .ref (b + (k0 + 1))) (N := 9) (T := T12) (j := 0) F hS (Trail_lt hk0) (Trail_sh hk0) (Trail_N hk0) rfl (Nat.le_of_ble_eq_true rfl) ing12 mw_402 (Trail_g0 hk0 _) d_Trail_follow_32 ?_
      refine lv_iload F.hx F.hb d_Trail_follow_35 (lv_at hl 5 rfl) ?_
      refine lv_iload F.hx F.hb d_Trail_follow_37 (lv_at hl 4 rfl) ?_
      obtain ⟨q5, hq5⟩ : ∃ q, q = (t_WF_put M (k0 + 1) 48 v5_ v4_) := ⟨_, rfl⟩
      replace hT := qlet_eq hT hq5
      refine r_backV F hS (r_runSN (As := [.ref (b + (k0 + 1)), vI v5_, vI v4_]) F hS (c_WF_put l F.2.2.1 M (k0 + 1) 48 v5_ v4_ (Trail_f0 hk0) hv5_ hv4_ _ hq5.symm) mw_512 mw_511 mw_1 gs_Trail_25 hd_WF_put ⟨Nat.le_of_ble_eq_true rfl, Nat.le_of_ble_eq_true rfl⟩ rfl hl.1 (Nat.le_of_ble_eq_true rfl) ⟨Nat.zero_le _, Nat.zero_le _⟩ rfl d_Trail_follow_39) (fun H locs hS => ?_)
      refine lv_aload_n F.hx F.hb d_Trail_follow_42 rfl (lv_at hl 0 rfl) ?_
      refine lv_iload F.hx F.hb d_Trail_follow_43 (lv_at hl 5 rfl) ?_
      refine r_iconst F.hx F.hb d_Trail_follow_45 ?_
      refine r_iadd F.hx F.hb d_Trail_follow_46 ?_
      refine r_putI (N := 9) (T := T12) (j := 1) F hS (Trail_lt hk0) (Trail_sh hk0) (Trail_N hk0) rfl (Nat.le_of_ble_eq_true rfl) ing12 tyok12 nm12 rfl rfl rfl rfl rfl (Trail_dyn hk0 _) mw_403 (inr_w32 _) d_Trail_follow_47 (fun H locs hS => ?_)
      obtain ⟨M7, eM7⟩ : ∃ q, q = (setI q5 k0 1 (w32 (v5_ + 1))) := ⟨_, rfl⟩
      replace hS : St b C n M7 s H locs := by rw [eM7]; exact hS
      replace hT := qlet_eq hT eM7
      refine lv_aload_n F.hx F.hb d_Trail_follow_50 rfl (lv_at hl 0 rfl) ?_
      refine lv_iload F.hx F.hb d_Trail_follow_51 (lv_at hl 5 rfl) ?_
      refine r_putI (N := 9) (T := T12) (j := 2) F hS (Trail_lt hk0) (Trail_sh hk0) (Trail_N hk0) rfl (Nat.le_of_ble_eq_true rfl) ing12 tyok12 nm12 rfl rfl rfl rfl rfl (Trail_dyn hk0 _) mw_404 hv5_ d_Trail_follow_53 (fun H locs hS => ?_)
      obtain ⟨M8, eM8⟩ : ∃ q, q = (setI M7 k0 2 v5_) := ⟨_, rfl⟩
      replace hS : St b C n M8 s H locs := by rw [eM8]; exact hS
      replace hT := qlet_eq hT eM8
      refine lv_lload F.hx F.hb d_Trail_follow_56 (lv_at hl 3 rfl) ?_
      refine lv_lconst (v := 1) F.hx F.hb d_Trail_follow_58 rfl ?_
      refine lv_iload F.hx F.hb d_Trail_follow_59 (lv_at hl 4 rfl) ?_
      refine r_lshl F.hx F.hb d_Trail_follow_61 ?_
      refine lv_lor F.hx F.hb d_Trail_follow_62 ?_
      refine lv_lstore (lv' := [(4, .long (v3_ ||| (q_lshl 1 v4_))), (0, .ref (b + k0)), (1, .ref (b + k1)), (2, .ref (b + k2)), (6, vI v4_), (7, vI v5_)]) F.hx F.hb d_Trail_follow_63 hl (Nat.le_of_ble_eq_true rfl) rfl (fun ls hl => ?_)
      refine lv_aload_n F.hx F.hb d_Trail_follow_65 rfl (lv_at hl 3 rfl) ?_
      refine lv_aload_n F.hx F.hb d_Trail_follow_66 rfl (lv_at hl 2 rfl) ?_
      refine lv_iload F.hx F.hb d_Trail_follow_67 (lv_at hl 4 rfl) ?_
      obtain ⟨q9, hq9⟩ : ∃ q, q = (t_Scene_nextOf M8 k2 k1 v4_) := ⟨_, rfl⟩
      replace hT := qlet_eq hT hq9
      refine r_backI F hS (r_runV (k := k2) (N := 7) (T := T9) (As := [.ref (b + k1), vI v4_]) F hS (Scene_lt hk2) (Scene_sh hk2) rfl (c_Scene_nextOf l F.2.2.1 M8 k2 k1 v4_ hk2 hk1 hv4_ _ hq9.symm) gs_Trail_32 hd_Scene_nextOf ⟨Nat.le_of_ble_eq_true rfl, Nat.le_of_ble_eq_true rfl⟩ rfl hl.1 (Nat.le_of_ble_eq_true rfl) ⟨Nat.zero_le _, Nat.zero_le _⟩ rfl d_Trail_follow_69) (fun H locs hS h10 => ?_)
      refine lv_istore (lv' := [(8, vI q9), (4, .long (v3_ ||| (q_lshl 1 v4_))), (0, .ref (b + k0)), (1, .ref (b + k1)), (2, .ref (b + k2)), (6, vI v4_), (7, vI v5_)]) F.hx F.hb d_Trail_follow_72 hl (Nat.le_of_ble_eq_true rfl) rfl (fun ls hl => ?_)
      refine lv_iload F.hx F.hb d_Trail_follow_74 (lv_at hl 0 rfl) ?_
      refine r_if_ge (tgt := 80) F.hx F.hb h10 d_Trail_follow_76 (by decide) (fun c11 => ?_) (fun c11 => ?_)
      · replace hT := (if_pos c11).symm.trans hT
        refine lv_aload_n F.hx F.hb d_Trail_follow_80 rfl (lv_at hl 3 rfl) ?_
        refine lv_iload F.hx F.hb d_Trail_follow_81 (lv_at hl 5 rfl) ?_
        refine lv_iload F.hx F.hb d_Trail_follow_83 (lv_at hl 0 rfl) ?_
        obtain ⟨q12, hq12⟩ : ∃ q, q = (t_Town_isLine M8 k1 v4_ q9) := ⟨_, rfl⟩
        replace hT := qlet_eq hT hq12
        refine r_backZ F hS (r_runV (k := k1) (N := 20) (T := T11) (As := [vI v4_, vI q9]) F hS (Town_lt hk1) (Town_sh hk1) rfl (c_Town_isLine l F.2.2.1 M8 k1 v4_ q9 hk1 hv4_ h10 _ hq12.symm) gs_Trail_38 hd_Town_isLine ⟨Nat.le_of_ble_eq_true rfl, Nat.le_of_ble_eq_true rfl⟩ rfl hl.1 (Nat.le_of_ble_eq_true rfl) ⟨Nat.zero_le _, Nat.zero_le _⟩ rfl d_Trail_follow_85) (fun H locs hS h13 => ?_)
        refine r_if_eq (tgt := 101) F.hx F.hb (inr_z h13) d_Trail_follow_88 (by decide) (fun c14 => ?_) (fun c14 => ?_)
        · replace hT := (if_pos c14).symm.trans hT
          exact k_Trail_follow_L101 l hlo k0 k1 k2 x3 hk0 hk1 hk2 hx3 F hlk hr (fun a0_ a1_ a2_ a3_ => t_Trail_follow_L24 k0 k1 k2 x3 fu a0_ a1_ a2_ a3_) ih M8 (v3_ ||| (q_lshl 1 v4_)) v5_ hv5_ q9 h10 _ _ _ hS (lv_sub hl [2, 3, 4, 1, 6, 0] rfl) hT
        · replace hT := (if_neg c14).symm.trans hT
          refine lv_aload_n F.hx F.hb d_Trail_follow_91 rfl (lv_at hl 2 rfl) ?_
          refine lv_dup F.hx F.hb d_Trail_follow_92 rfl ?_
          refine r_get (v := vI (M8.1 k0 4)) (N := 9) (T := T12) (j := 4) F hS (Trail_lt hk0) (Trail_sh hk0) (Trail_N hk0) rfl (Nat.le_of_ble_eq_true rfl) ing12 mw_408 (fv_int rfl) d_Trail_follow_93 ?_
          have i15 := hS.rng k0 4
          refine r_iconst F.hx F.hb d_Trail_follow_96 ?_
          refine r_iadd F.hx F.hb d_Trail_follow_97 ?_
          refine r_putI (N := 9) (T := T12) (j := 4) F hS (Trail_lt hk0) (Trail_sh hk0) (Trail_N hk0) rfl (Nat.le_of_ble_eq_true rfl) ing12 tyok12 nm12 rfl rfl rfl rfl rfl (Trail_dyn hk0 _) mw_408 (inr_w32 _) d_Trail_follow_98 (fun H locs hS => ?_)
          obtain ⟨M16, eM16⟩ : ∃ q, q = (setI M8 k0 4 (w32 ((M8.1 k0 4) + 1))) := ⟨_, rfl⟩
          replace hS : St b C n M16 s H locs := by rw [eM16]; exact hS
          replace hT := qlet_eq hT eM16
          exact k_Trail_follow_L101 l hlo k0 k1 k2 x3 hk0 hk1 hk2 hx3 F hlk hr (fun a0_ a1_ a2_ a3_ => t_Trail_follow_L24 k0 k1 k2 x3 fu a0_ a1_ a2_ a3_) ih M16 (v3_ ||| (q_lshl 1 v4_)) v5_ hv5_ q9 h10 _ _ _ hS (lv_sub hl [2, 3, 4, 1, 6, 0] rfl) hT
      · replace hT := (if_neg c11).symm.trans hT
        cases hT
        exact r_vret F hlk hr hS d_Trail_follow_79
set_option maxHeartbeats 4000000 in
set_option maxRecDepth 100000 in
theorem c_Trail_follow (l : Launch) {b n : Nat} {C : CT} (hlo : 191 ≤ n) (M : Mem) (k0 : Nat) (k1 : Nat) (k2 : Nat) (x3 : Int) (hk0 : isTrail k0) (hk1 : isTown k1) (hk2 : isScene k2) (hx3 : InR x3) (res : Mem) (hT : t_Trail_follow M k0 k1 k2 x3 = some res) : CM l b C n 3 y_Trail_follow b_Trail_follow 9 (none) [.ref (b + k0), .ref (b + k1), .ref (b + k2), vI x3] M (QV b C n res) := by
  refine CM.of (lo := 191) (ow := "WardFalls$Trail") (by decide) rfl (Nat.le_of_ble_eq_true rfl) hlo (fun p e s m below meth c F hlk hr hS ls hl => ?_)
  have hl : lv_has ls 9 [(0, .ref (b + k0)), (1, .ref (b + k1)), (2, .ref (b + k2)), (3, vI x3)] := hl
  unfold t_Trail_follow at hT
  refine lv_aload_n F.hx F.hb d_Trail_follow_0 rfl (lv_at hl 0 rfl) ?_
  refine r_iconst F.hx F.hb d_Trail_follow_1 ?_
  refine r_putI (N := 9) (T := T12) (j := 1) F hS (Trail_lt hk0) (Trail_sh hk0) (Trail_N hk0) rfl (Nat.le_of_ble_eq_true rfl) ing12 tyok12 nm12 rfl rfl rfl rfl rfl (Trail_dyn hk0 _) mw_403 (inr_c rfl) d_Trail_follow_2 (fun H locs hS => ?_)
  obtain ⟨M1, eM1⟩ : ∃ q, q = (setI M k0 1 0) := ⟨_, rfl⟩
  replace hS : St b C n M1 s H locs := by rw [eM1]; exact hS
  replace hT := qlet_eq hT eM1
  refine lv_aload_n F.hx F.hb d_Trail_follow_5 rfl (lv_at hl 0 rfl) ?_
  refine r_iconst F.hx F.hb d_Trail_follow_6 ?_
  refine r_putI (N := 9) (T := T12) (j := 3) F hS (Trail_lt hk0) (Trail_sh hk0) (Trail_N hk0) rfl (Nat.le_of_ble_eq_true rfl) ing12 tyok12 nm12 rfl rfl rfl rfl rfl (Trail_dyn hk0 _) mw_406 (inr_c rfl) d_Trail_follow_7 (fun H locs hS => ?_)
  obtain ⟨M2, eM2⟩ : ∃ q, q = (setI M1 k0 3 0) := ⟨_, rfl⟩
  replace hS : St b C n M2 s H locs := by rw [eM2]; exact hS
  replace hT := qlet_eq hT eM2
  refine lv_aload_n F.hx F.hb d_Trail_follow_10 rfl (lv_at hl 0 rfl) ?_
  refine r_iconst F.hx F.hb d_Trail_follow_11 ?_
  refine r_putI (N := 9) (T := T12) (j := 4) F hS (Trail_lt hk0) (Trail_sh hk0) (Trail_N hk0) rfl (Nat.le_of_ble_eq_true rfl) ing12 tyok12 nm12 rfl rfl rfl rfl rfl (Trail_dyn hk0 _) mw_408 (inr_c rfl) d_Trail_follow_12 (fun H locs hS => ?_)
  obtain ⟨M3, eM3⟩ : ∃ q, q = (setI M2 k0 4 0) := ⟨_, rfl⟩
  replace hS : St b C n M3 s H locs := by rw [eM3]; exact hS
  replace hT := qlet_eq hT eM3
  refine lv_lconst (v := 0) F.hx F.hb d_Trail_follow_15 rfl ?_
  refine lv_lstore (lv' := [(4, .long 0), (0, .ref (b + k0)), (1, .ref (b + k1)), (2, .ref (b + k2)), (3, vI x3)]) F.hx F.hb d_Trail_follow_16 hl (Nat.le_of_ble_eq_true rfl) rfl (fun ls hl => ?_)
  refine lv_iload_n F.hx F.hb d_Trail_follow_18 rfl (lv_at hl 4 rfl) ?_
  refine lv_istore (lv' := [(6, vI x3), (4, .long 0), (0, .ref (b + k0)), (1, .ref (b + k1)), (2, .ref (b + k2)), (3, vI x3)]) F.hx F.hb d_Trail_follow_19 hl (Nat.le_of_ble_eq_true rfl) rfl (fun ls hl => ?_)
  refine r_iconst F.hx F.hb d_Trail_follow_21 ?_
  refine lv_istore (lv' := [(7, vI 0), (6, vI x3), (4, .long 0), (0, .ref (b + k0)), (1, .ref (b + k1)), (2, .ref (b + k2)), (3, vI x3)]) F.hx F.hb d_Trail_follow_22 hl (Nat.le_of_ble_eq_true rfl) rfl (fun ls hl => ?_)
  exact k_Trail_follow_L24 l hlo k0 k1 k2 x3 hk0 hk1 hk2 hx3 F hlk hr FU M3 0 x3 hx3 0 (inr_c rfl) _ _ _ hS (lv_sub hl [3, 4, 5, 2, 1, 0] rfl) hT
theorem d_Trail_end_0 : decode b_Trail_end 0 = .ok (.aload_n 0, 1) := dc_42 (by decide +kernel)
theorem d_Trail_end_1 : decode b_Trail_end 1 = .ok (.getfield 19, 3) := dc_180 (by decide +kernel)
theorem d_Trail_end_4 : decode b_Trail_end 4 = .ok (.ifCond .le 8, 3) := dc_158 (by decide +kernel)
theorem d_Trail_end_7 : decode b_Trail_end 7 = .ok (.bipush (-2), 2) := dc_16 (by decide +kernel)
theorem d_Trail_end_9 : decode b_Trail_end 9 = .ok (.goto 16, 3) := dc_167 (by decide +kernel)
theorem d_Trail_end_12 : decode b_Trail_end 12 = .ok (.aload_n 0, 1) := dc_42 (by decide +kernel)
theorem d_Trail_end_13 : decode b_Trail_end 13 = .ok (.getfield 9, 3) := dc_180 (by decide +kernel)
theorem d_Trail_end_16 : decode b_Trail_end 16 = .ok (.aload_n 0, 1) := dc_42 (by decide +kernel)
theorem d_Trail_end_17 : decode b_Trail_end 17 = .ok (.getfield 15, 3) := dc_180 (by decide +kernel)
theorem d_Trail_end_20 : decode b_Trail_end 20 = .ok (.iconst 1, 1) := dc_4 (by decide +kernel)
theorem d_Trail_end_21 : decode b_Trail_end 21 = .ok (.isub, 1) := dc_100 (by decide +kernel)
theorem d_Trail_end_22 : decode b_Trail_end 22 = .ok (.invokestatic 52, 3) := dc_184 (by decide +kernel)
theorem d_Trail_end_25 : decode b_Trail_end 25 = .ok (.ireturn, 1) := dc_172 (by decide +kernel)
def t_Trail_end (M : Mem) (k0 : Nat) : Int := (if (M.1 k0 3) ≤ 0 then (qlet (t_WF_look M (k0 + 1) 48 (w32 ((M.1 k0 1) - 1))) fun q4 => q4) else (-2))
set_option maxHeartbeats 4000000 in
set_option maxRecDepth 100000 in
theorem c_Trail_end (l : Launch) {b n : Nat} {C : CT} (hlo : 191 ≤ n) (M : Mem) (k0 : Nat) (hk0 : isTrail k0) (res : Int) (hT : t_Trail_end M k0 = res) : CM l b C n 1 y_Trail_end b_Trail_end 1 (some .int) [.ref (b + k0)] M (QI b C n M res) := by
  refine CM.of (lo := 191) (ow := "WardFalls$Trail") (by decide) rfl (Nat.le_of_ble_eq_true rfl) hlo (fun p e s m below meth c F hlk hr hS ls hl => ?_)
  have hl : lv_has ls 1 [(0, .ref (b + k0))] := hl
  unfold t_Trail_end at hT
  refine lv_aload_n F.hx F.hb d_Trail_end_0 rfl (lv_at hl 0 rfl) ?_
  refine r_get (v := vI (M.1 k0 3)) (N := 9) (T := T12) (j := 3) F hS (Trail_lt hk0) (Trail_sh hk0) (Trail_N hk0) rfl (Nat.le_of_ble_eq_true rfl) ing12 mw_406 (fv_int rfl) d_Trail_end_1 ?_
  have i1 := hS.rng k0 3
  refine r_if_le (tgt := 12) F.hx F.hb i1 d_Trail_end_4 (by decide) (fun c2 => ?_) (fun c2 => ?_)
  · replace hT := (if_pos c2).symm.trans hT
    refine lv_aload_n F.hx F.hb d_Trail_end_12 rfl (lv_at hl 0 rfl) ?_
    refine r_get (v := .ref (b + (k0 + 1))) (N := 9) (T := T12) (j := 0) F hS (Trail_lt hk0) (Trail_sh hk0) (Trail_N hk0) rfl (Nat.le_of_ble_eq_true rfl) ing12 mw_402 (Trail_g0 hk0 _) d_Trail_end_13 ?_
    refine lv_aload_n F.hx F.hb d_Trail_end_16 rfl (lv_at hl 0 rfl) ?_
    refine r_get (v := vI (M.1 k0 1)) (N := 9) (T := T12) (j := 1) F hS (Trail_lt hk0) (Trail_sh hk0) (Trail_N hk0) rfl (Nat.le_of_ble_eq_true rfl) ing12 mw_403 (fv_int rfl) d_Trail_end_17 ?_
    have i3 := hS.rng k0 1
    refine r_iconst F.hx F.hb d_Trail_end_20 ?_
    refine r_isub F.hx F.hb d_Trail_end_21 ?_
    obtain ⟨q4, hq4⟩ : ∃ q, q = (t_WF_look M (k0 + 1) 48 (w32 ((M.1 k0 1) - 1))) := ⟨_, rfl⟩
    replace hT := qlet_eq hT hq4
    refine r_backI F hS (r_runSN (As := [.ref (b + (k0 + 1)), vI (w32 ((M.1 k0 1) - 1))]) F hS (c_WF_look l F.2.2.1 M (k0 + 1) 48 (w32 ((M.1 k0 1) - 1)) (Trail_f0 hk0) (inr_w32 _) _ hq4.symm) mw_519 mw_518 mw_1 gs_Trail_52 hd_WF_look ⟨Nat.le_of_ble_eq_true rfl, Nat.le_of_ble_eq_true rfl⟩ rfl hl.1 (Nat.le_of_ble_eq_true rfl) ⟨Nat.zero_le _, Nat.zero_le _⟩ rfl d_Trail_end_22) (fun H locs hS h5 => ?_)
    subst hT
    exact r_iret F hlk hr rfl hS h5 d_Trail_end_25
  · replace hT := (if_neg c2).symm.trans hT
    refine r_bipush F.hx F.hb d_Trail_end_7 rfl ?_
    refine lv_goto (tgt := 25) F.hx F.hb d_Trail_end_9 (by decide) ?_
    subst hT
    exact r_iret F hlk hr rfl hS (inr_c rfl) d_Trail_end_25
