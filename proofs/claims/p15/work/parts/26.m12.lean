theorem wn_Laws_tryVotes_0 : ∀ i, i < 95 → bA b_Laws_tryVotes (0 + i) = wB [42, 180, 0, 151, 153, 0, 4, 177, 42, 4, 181, 0, 151, 45, 44, 182, 0, 155, 42, 43, 180, 0, 159, 181, 0, 162, 42, 4, 5, 42, 180, 0, 162, 104, 120, 181, 0, 163, 3, 54, 5, 21, 5, 42, 180, 0, 163, 162, 0, 94, 3, 54, 6, 21, 6, 42, 180, 0, 162, 162, 0, 27, 45, 180, 0, 166, 21, 6, 21, 5, 5, 21, 6, 104, 122, 6, 126, 184, 0, 68, 132, 6, 1, 167, 255, 226, 42, 43, 45, 182, 0, 169, 3, 54, 6] i := wB_of (by decide +kernel)
theorem d_Laws_tryVotes_0 : decode b_Laws_tryVotes 0 = .ok (.aload_n 0, 1) := dc_42 (q0_win (r := 0) wn_Laws_tryVotes_0 (by decide +kernel))
theorem d_Laws_tryVotes_1 : decode b_Laws_tryVotes 1 = .ok (.getfield 151, 3) := dc_180 (qU2_win (r := 1) wn_Laws_tryVotes_0 (by decide +kernel))
theorem d_Laws_tryVotes_4 : decode b_Laws_tryVotes 4 = .ok (.ifCond .eq 4, 3) := dc_153 (qS2_win (r := 4) wn_Laws_tryVotes_0 (by decide +kernel))
theorem d_Laws_tryVotes_7 : decode b_Laws_tryVotes 7 = .ok (.return_, 1) := dc_177 (q0_win (r := 7) wn_Laws_tryVotes_0 (by decide +kernel))
theorem d_Laws_tryVotes_8 : decode b_Laws_tryVotes 8 = .ok (.aload_n 0, 1) := dc_42 (q0_win (r := 8) wn_Laws_tryVotes_0 (by decide +kernel))
theorem d_Laws_tryVotes_9 : decode b_Laws_tryVotes 9 = .ok (.iconst 1, 1) := dc_4 (q0_win (r := 9) wn_Laws_tryVotes_0 (by decide +kernel))
theorem d_Laws_tryVotes_10 : decode b_Laws_tryVotes 10 = .ok (.putfield 151, 3) := dc_181 (qU2_win (r := 10) wn_Laws_tryVotes_0 (by decide +kernel))
theorem d_Laws_tryVotes_13 : decode b_Laws_tryVotes 13 = .ok (.aload_n 3, 1) := dc_45 (q0_win (r := 13) wn_Laws_tryVotes_0 (by decide +kernel))
theorem d_Laws_tryVotes_14 : decode b_Laws_tryVotes 14 = .ok (.aload_n 2, 1) := dc_44 (q0_win (r := 14) wn_Laws_tryVotes_0 (by decide +kernel))
theorem d_Laws_tryVotes_15 : decode b_Laws_tryVotes 15 = .ok (.invokevirtual 155, 3) := dc_182 (qU2_win (r := 15) wn_Laws_tryVotes_0 (by decide +kernel))
theorem d_Laws_tryVotes_18 : decode b_Laws_tryVotes 18 = .ok (.aload_n 0, 1) := dc_42 (q0_win (r := 18) wn_Laws_tryVotes_0 (by decide +kernel))
theorem d_Laws_tryVotes_19 : decode b_Laws_tryVotes 19 = .ok (.aload_n 1, 1) := dc_43 (q0_win (r := 19) wn_Laws_tryVotes_0 (by decide +kernel))
theorem d_Laws_tryVotes_20 : decode b_Laws_tryVotes 20 = .ok (.getfield 159, 3) := dc_180 (qU2_win (r := 20) wn_Laws_tryVotes_0 (by decide +kernel))
theorem d_Laws_tryVotes_23 : decode b_Laws_tryVotes 23 = .ok (.putfield 162, 3) := dc_181 (qU2_win (r := 23) wn_Laws_tryVotes_0 (by decide +kernel))
theorem d_Laws_tryVotes_26 : decode b_Laws_tryVotes 26 = .ok (.aload_n 0, 1) := dc_42 (q0_win (r := 26) wn_Laws_tryVotes_0 (by decide +kernel))
theorem d_Laws_tryVotes_27 : decode b_Laws_tryVotes 27 = .ok (.iconst 1, 1) := dc_4 (q0_win (r := 27) wn_Laws_tryVotes_0 (by decide +kernel))
theorem d_Laws_tryVotes_28 : decode b_Laws_tryVotes 28 = .ok (.iconst 2, 1) := dc_5 (q0_win (r := 28) wn_Laws_tryVotes_0 (by decide +kernel))
theorem d_Laws_tryVotes_29 : decode b_Laws_tryVotes 29 = .ok (.aload_n 0, 1) := dc_42 (q0_win (r := 29) wn_Laws_tryVotes_0 (by decide +kernel))
theorem d_Laws_tryVotes_30 : decode b_Laws_tryVotes 30 = .ok (.getfield 162, 3) := dc_180 (qU2_win (r := 30) wn_Laws_tryVotes_0 (by decide +kernel))
theorem d_Laws_tryVotes_33 : decode b_Laws_tryVotes 33 = .ok (.imul, 1) := dc_104 (q0_win (r := 33) wn_Laws_tryVotes_0 (by decide +kernel))
theorem d_Laws_tryVotes_34 : decode b_Laws_tryVotes 34 = .ok (.ishl, 1) := dc_120 (q0_win (r := 34) wn_Laws_tryVotes_0 (by decide +kernel))
theorem d_Laws_tryVotes_35 : decode b_Laws_tryVotes 35 = .ok (.putfield 163, 3) := dc_181 (qU2_win (r := 35) wn_Laws_tryVotes_0 (by decide +kernel))
theorem d_Laws_tryVotes_38 : decode b_Laws_tryVotes 38 = .ok (.iconst 0, 1) := dc_3 (q0_win (r := 38) wn_Laws_tryVotes_0 (by decide +kernel))
theorem d_Laws_tryVotes_39 : decode b_Laws_tryVotes 39 = .ok (.istore 5, 2) := dc_54 (qU1_win (r := 39) wn_Laws_tryVotes_0 (by decide +kernel))
theorem d_Laws_tryVotes_41 : decode b_Laws_tryVotes 41 = .ok (.iload 5, 2) := dc_21 (qU1_win (r := 41) wn_Laws_tryVotes_0 (by decide +kernel))
theorem d_Laws_tryVotes_43 : decode b_Laws_tryVotes 43 = .ok (.aload_n 0, 1) := dc_42 (q0_win (r := 43) wn_Laws_tryVotes_0 (by decide +kernel))
theorem d_Laws_tryVotes_44 : decode b_Laws_tryVotes 44 = .ok (.getfield 163, 3) := dc_180 (qU2_win (r := 44) wn_Laws_tryVotes_0 (by decide +kernel))
theorem d_Laws_tryVotes_47 : decode b_Laws_tryVotes 47 = .ok (.if_icmp .ge 94, 3) := dc_162 (qS2_win (r := 47) wn_Laws_tryVotes_0 (by decide +kernel))
theorem d_Laws_tryVotes_50 : decode b_Laws_tryVotes 50 = .ok (.iconst 0, 1) := dc_3 (q0_win (r := 50) wn_Laws_tryVotes_0 (by decide +kernel))
theorem d_Laws_tryVotes_51 : decode b_Laws_tryVotes 51 = .ok (.istore 6, 2) := dc_54 (qU1_win (r := 51) wn_Laws_tryVotes_0 (by decide +kernel))
theorem d_Laws_tryVotes_53 : decode b_Laws_tryVotes 53 = .ok (.iload 6, 2) := dc_21 (qU1_win (r := 53) wn_Laws_tryVotes_0 (by decide +kernel))
theorem d_Laws_tryVotes_55 : decode b_Laws_tryVotes 55 = .ok (.aload_n 0, 1) := dc_42 (q0_win (r := 55) wn_Laws_tryVotes_0 (by decide +kernel))
theorem d_Laws_tryVotes_56 : decode b_Laws_tryVotes 56 = .ok (.getfield 162, 3) := dc_180 (qU2_win (r := 56) wn_Laws_tryVotes_0 (by decide +kernel))
theorem d_Laws_tryVotes_59 : decode b_Laws_tryVotes 59 = .ok (.if_icmp .ge 27, 3) := dc_162 (qS2_win (r := 59) wn_Laws_tryVotes_0 (by decide +kernel))
theorem d_Laws_tryVotes_62 : decode b_Laws_tryVotes 62 = .ok (.aload_n 3, 1) := dc_45 (q0_win (r := 62) wn_Laws_tryVotes_0 (by decide +kernel))
theorem d_Laws_tryVotes_63 : decode b_Laws_tryVotes 63 = .ok (.getfield 166, 3) := dc_180 (qU2_win (r := 63) wn_Laws_tryVotes_0 (by decide +kernel))
theorem d_Laws_tryVotes_66 : decode b_Laws_tryVotes 66 = .ok (.iload 6, 2) := dc_21 (qU1_win (r := 66) wn_Laws_tryVotes_0 (by decide +kernel))
theorem d_Laws_tryVotes_68 : decode b_Laws_tryVotes 68 = .ok (.iload 5, 2) := dc_21 (qU1_win (r := 68) wn_Laws_tryVotes_0 (by decide +kernel))
theorem d_Laws_tryVotes_70 : decode b_Laws_tryVotes 70 = .ok (.iconst 2, 1) := dc_5 (q0_win (r := 70) wn_Laws_tryVotes_0 (by decide +kernel))
theorem d_Laws_tryVotes_71 : decode b_Laws_tryVotes 71 = .ok (.iload 6, 2) := dc_21 (qU1_win (r := 71) wn_Laws_tryVotes_0 (by decide +kernel))
theorem d_Laws_tryVotes_73 : decode b_Laws_tryVotes 73 = .ok (.imul, 1) := dc_104 (q0_win (r := 73) wn_Laws_tryVotes_0 (by decide +kernel))
theorem d_Laws_tryVotes_74 : decode b_Laws_tryVotes 74 = .ok (.ishr, 1) := dc_122 (q0_win (r := 74) wn_Laws_tryVotes_0 (by decide +kernel))
theorem d_Laws_tryVotes_75 : decode b_Laws_tryVotes 75 = .ok (.iconst 3, 1) := dc_6 (q0_win (r := 75) wn_Laws_tryVotes_0 (by decide +kernel))
theorem d_Laws_tryVotes_76 : decode b_Laws_tryVotes 76 = .ok (.iand, 1) := dc_126 (q0_win (r := 76) wn_Laws_tryVotes_0 (by decide +kernel))
theorem d_Laws_tryVotes_77 : decode b_Laws_tryVotes 77 = .ok (.invokestatic 68, 3) := dc_184 (qU2_win (r := 77) wn_Laws_tryVotes_0 (by decide +kernel))
theorem d_Laws_tryVotes_80 : decode b_Laws_tryVotes 80 = .ok (.iinc 6 1, 3) := dc_132 (qI_win (r := 80) wn_Laws_tryVotes_0 (by decide +kernel))
theorem d_Laws_tryVotes_83 : decode b_Laws_tryVotes 83 = .ok (.goto (-30), 3) := dc_167 (qS2_win (r := 83) wn_Laws_tryVotes_0 (by decide +kernel))
theorem d_Laws_tryVotes_86 : decode b_Laws_tryVotes 86 = .ok (.aload_n 0, 1) := dc_42 (q0_win (r := 86) wn_Laws_tryVotes_0 (by decide +kernel))
theorem d_Laws_tryVotes_87 : decode b_Laws_tryVotes 87 = .ok (.aload_n 1, 1) := dc_43 (q0_win (r := 87) wn_Laws_tryVotes_0 (by decide +kernel))
theorem d_Laws_tryVotes_88 : decode b_Laws_tryVotes 88 = .ok (.aload_n 3, 1) := dc_45 (q0_win (r := 88) wn_Laws_tryVotes_0 (by decide +kernel))
theorem d_Laws_tryVotes_89 : decode b_Laws_tryVotes 89 = .ok (.invokevirtual 169, 3) := dc_182 (qU2_win (r := 89) wn_Laws_tryVotes_0 (by decide +kernel))
theorem d_Laws_tryVotes_92 : decode b_Laws_tryVotes 92 = .ok (.iconst 0, 1) := dc_3 (q0_win (r := 92) wn_Laws_tryVotes_0 (by decide +kernel))
theorem d_Laws_tryVotes_93 : decode b_Laws_tryVotes 93 = .ok (.istore 6, 2) := dc_54 (qU1_win (r := 93) wn_Laws_tryVotes_0 (by decide +kernel))
theorem wn_Laws_tryVotes_95 : ∀ i, i < 47 → bA b_Laws_tryVotes (95 + i) = wB [21, 6, 42, 180, 0, 162, 162, 0, 34, 42, 180, 0, 32, 21, 6, 17, 1, 0, 104, 21, 5, 96, 42, 43, 21, 6, 21, 4, 182, 0, 173, 184, 0, 68, 132, 6, 1, 167, 255, 219, 132, 5, 1, 167, 255, 159, 177] i := wB_of (by decide +kernel)
theorem d_Laws_tryVotes_95 : decode b_Laws_tryVotes 95 = .ok (.iload 6, 2) := dc_21 (qU1_win (r := 0) wn_Laws_tryVotes_95 (by decide +kernel))
theorem d_Laws_tryVotes_97 : decode b_Laws_tryVotes 97 = .ok (.aload_n 0, 1) := dc_42 (q0_win (r := 2) wn_Laws_tryVotes_95 (by decide +kernel))
theorem d_Laws_tryVotes_98 : decode b_Laws_tryVotes 98 = .ok (.getfield 162, 3) := dc_180 (qU2_win (r := 3) wn_Laws_tryVotes_95 (by decide +kernel))
theorem d_Laws_tryVotes_101 : decode b_Laws_tryVotes 101 = .ok (.if_icmp .ge 34, 3) := dc_162 (qS2_win (r := 6) wn_Laws_tryVotes_95 (by decide +kernel))
theorem d_Laws_tryVotes_104 : decode b_Laws_tryVotes 104 = .ok (.aload_n 0, 1) := dc_42 (q0_win (r := 9) wn_Laws_tryVotes_95 (by decide +kernel))
theorem d_Laws_tryVotes_105 : decode b_Laws_tryVotes 105 = .ok (.getfield 32, 3) := dc_180 (qU2_win (r := 10) wn_Laws_tryVotes_95 (by decide +kernel))
theorem d_Laws_tryVotes_108 : decode b_Laws_tryVotes 108 = .ok (.iload 6, 2) := dc_21 (qU1_win (r := 13) wn_Laws_tryVotes_95 (by decide +kernel))
theorem d_Laws_tryVotes_110 : decode b_Laws_tryVotes 110 = .ok (.sipush 256, 3) := dc_17 (qS2_win (r := 15) wn_Laws_tryVotes_95 (by decide +kernel))
theorem d_Laws_tryVotes_113 : decode b_Laws_tryVotes 113 = .ok (.imul, 1) := dc_104 (q0_win (r := 18) wn_Laws_tryVotes_95 (by decide +kernel))
theorem d_Laws_tryVotes_114 : decode b_Laws_tryVotes 114 = .ok (.iload 5, 2) := dc_21 (qU1_win (r := 19) wn_Laws_tryVotes_95 (by decide +kernel))
theorem d_Laws_tryVotes_116 : decode b_Laws_tryVotes 116 = .ok (.iadd, 1) := dc_96 (q0_win (r := 21) wn_Laws_tryVotes_95 (by decide +kernel))
theorem d_Laws_tryVotes_117 : decode b_Laws_tryVotes 117 = .ok (.aload_n 0, 1) := dc_42 (q0_win (r := 22) wn_Laws_tryVotes_95 (by decide +kernel))
theorem d_Laws_tryVotes_118 : decode b_Laws_tryVotes 118 = .ok (.aload_n 1, 1) := dc_43 (q0_win (r := 23) wn_Laws_tryVotes_95 (by decide +kernel))
theorem d_Laws_tryVotes_119 : decode b_Laws_tryVotes 119 = .ok (.iload 6, 2) := dc_21 (qU1_win (r := 24) wn_Laws_tryVotes_95 (by decide +kernel))
theorem d_Laws_tryVotes_121 : decode b_Laws_tryVotes 121 = .ok (.iload 4, 2) := dc_21 (qU1_win (r := 26) wn_Laws_tryVotes_95 (by decide +kernel))
theorem d_Laws_tryVotes_123 : decode b_Laws_tryVotes 123 = .ok (.invokevirtual 173, 3) := dc_182 (qU2_win (r := 28) wn_Laws_tryVotes_95 (by decide +kernel))
theorem d_Laws_tryVotes_126 : decode b_Laws_tryVotes 126 = .ok (.invokestatic 68, 3) := dc_184 (qU2_win (r := 31) wn_Laws_tryVotes_95 (by decide +kernel))
theorem d_Laws_tryVotes_129 : decode b_Laws_tryVotes 129 = .ok (.iinc 6 1, 3) := dc_132 (qI_win (r := 34) wn_Laws_tryVotes_95 (by decide +kernel))
theorem d_Laws_tryVotes_132 : decode b_Laws_tryVotes 132 = .ok (.goto (-37), 3) := dc_167 (qS2_win (r := 37) wn_Laws_tryVotes_95 (by decide +kernel))
theorem d_Laws_tryVotes_135 : decode b_Laws_tryVotes 135 = .ok (.iinc 5 1, 3) := dc_132 (qI_win (r := 40) wn_Laws_tryVotes_95 (by decide +kernel))
theorem d_Laws_tryVotes_138 : decode b_Laws_tryVotes 138 = .ok (.goto (-97), 3) := dc_167 (qS2_win (r := 43) wn_Laws_tryVotes_95 (by decide +kernel))
theorem d_Laws_tryVotes_141 : decode b_Laws_tryVotes 141 = .ok (.return_, 1) := dc_177 (q0_win (r := 46) wn_Laws_tryVotes_95 (by decide +kernel))
def t_Laws_tryVotes_L95 (k1 : Nat) (k2 : Nat) (k3 : Nat) (x4 : Int) (bk41 : Mem → Int → Option (Mem)) : Nat → Mem → Int → Int → Option (Mem)
  | 0, _, _, _ => none
  | fu + 1, M, v4_, v5_ => (if (M.1 177 6) ≤ v5_ then (bk41 M (w32 (v4_ + 1))) else (obind (t_Laws_joyOf M k1 v5_ x4) fun q20 => (qlet (t_WF_put (q20.1) 184 1024 (w32 ((w32 (v5_ * 256)) + v4_)) (q20.2)) fun q22 => (t_Laws_tryVotes_L95 k1 k2 k3 x4 bk41 fu q22 v4_ (w32 (v5_ + 1))))))
def t_Laws_tryVotes_L53 (k1 : Nat) (k2 : Nat) (k3 : Nat) (x4 : Int) (bk41 : Mem → Int → Option (Mem)) : Nat → Mem → Int → Int → Option (Mem)
  | 0, _, _, _ => none
  | fu + 1, M, v4_, v5_ => (if (M.1 177 6) ≤ v5_ then (obind (t_Laws_measure M k1 k3) fun q14 => (t_Laws_tryVotes_L95 k1 k2 k3 x4 bk41 FU q14 v4_ 0)) else (qlet (t_WF_put M (k3 + 1) 4 v5_ (q_and (q_shr v4_ (w32 (2 * v5_))) 3)) fun q16 => (t_Laws_tryVotes_L53 k1 k2 k3 x4 bk41 fu q16 v4_ (w32 (v5_ + 1)))))
def t_Laws_tryVotes_L41 (k1 : Nat) (k2 : Nat) (k3 : Nat) (x4 : Int)  : Nat → Mem → Int → Option (Mem)
  | 0, _, _ => none
  | fu + 1, M, v4_ => (if (M.1 177 7) ≤ v4_ then (some M) else (t_Laws_tryVotes_L53 k1 k2 k3 x4 (fun a0_ a1_ => t_Laws_tryVotes_L41 k1 k2 k3 x4 fu a0_ a1_) FU M v4_ 0))
def t_Laws_tryVotes (M : Mem) (k1 : Nat) (k2 : Nat) (k3 : Nat) (x4 : Int) : Option (Mem) := (if (M.1 177 8) = 0 then (qlet (setI M 177 8 1) fun M3 => (qlet (t_Scene_copy M3 k3 k2) fun q4 => (qlet (setI q4 177 6 (q4.1 k1 14)) fun M7 => (qlet (setI M7 177 7 (q_shl 1 (w32 (2 * (M7.1 177 6))))) fun M9 => (t_Laws_tryVotes_L41 k1 k2 k3 x4 FU M9 0))))) else (some M))
set_option maxHeartbeats 4000000 in
set_option maxRecDepth 100000 in
theorem k_Laws_tryVotes_L95 (l : Launch) {p : Program} {e : Env} {s : State} {m : MethodId} {below : List Frame} {meth : Method} {c : Code} {b n : Nat} {C : CT} (hlo : 191 ≤ n) (k1 : Nat) (k2 : Nat) (k3 : Nat) (x4 : Int) (hk1 : isTown k1) (hk2 : isScene k2) (hk3 : isScene k3) (hx4 : InR x4) (F : Cx b p m c b_Laws_tryVotes 7 s ([.ref (b + 177), .ref (b + k1), .ref (b + k2), .ref (b + k3), vI x4] : List Value).toArray "WardFalls$Laws" C n 191) (hlk : meth.locks = false) (hr : meth.sig.returnType = none) {res : Mem} (bk41 : Mem → Int → Option (Mem)) (hbk41 : ∀ (M : Mem) (v4_ : Int) (hv4_ : InR v4_) (H : Heap) (locs : List Loc) (ls : Array Slot), St b C n M s H locs → lv_has ls 7 [(0, .ref (b + 177)), (1, .ref (b + k1)), (3, .ref (b + k3)), (4, vI x4), (5, vI v4_)] → bk41 M v4_ = some res → W p l e (headSpec (wsM y_Laws_tryVotes b_Laws_tryVotes 7 (none)) (rmD 6)).room s m ([.ref (b + 177), .ref (b + k1), .ref (b + k2), .ref (b + k3), vI x4] : List Value).toArray below meth c H locs 0 0 (MQ below (QV b C n res) ([.ref (b + 177), .ref (b + k1), .ref (b + k2), .ref (b + k3), vI x4] : List Value).toArray s 0 0 (frb b)) (F0 m 41 ls [])) : ∀ (fu : Nat) (M : Mem) (v4_ : Int) (hv4_ : InR v4_) (v5_ : Int) (hv5_ : InR v5_) (H : Heap) (locs : List Loc) (ls : Array Slot), St b C n M s H locs → lv_has ls 7 [(0, .ref (b + 177)), (1, .ref (b + k1)), (3, .ref (b + k3)), (4, vI x4), (5, vI v4_), (6, vI v5_)] → t_Laws_tryVotes_L95 k1 k2 k3 x4 bk41 fu M v4_ v5_ = some res → W p l e (headSpec (wsM y_Laws_tryVotes b_Laws_tryVotes 7 (none)) (rmD 6)).room s m ([.ref (b + 177), .ref (b + k1), .ref (b + k2), .ref (b + k3), vI x4] : List Value).toArray below meth c H locs 0 0 (MQ below (QV b C n res) ([.ref (b + 177), .ref (b + k1), .ref (b + k2), .ref (b + k3), vI x4] : List Value).toArray s 0 0 (frb b)) (F0 m 95 ls []) := by
  intro fu
  induction fu with
  | zero => intro M v4_ hv4_ v5_ hv5_ H locs ls hS hl hT; exact absurd hT (by simp [t_Laws_tryVotes_L95])
  | succ fu ih =>
    intro M v4_ hv4_ v5_ hv5_ H locs ls hS hl hT
    rw [t_Laws_tryVotes_L95] at hT
    refine lv_iload F.hx F.hb d_Laws_tryVotes_95 (lv_at hl 5 rfl) ?_
    refine lv_aload_n F.hx F.hb d_Laws_tryVotes_97 rfl (lv_at hl 0 rfl) ?_
    refine r_get (v := vI (M.1 177 6)) (N := 9) (T := T4) (j := 6) F hS (show 177 < 191 by decide) (show shK 177 = 8 from rfl) (show shN 177 = 9 from rfl) rfl (Nat.le_of_ble_eq_true rfl) ing4 mw_444 (fv_int rfl) d_Laws_tryVotes_98 ?_
    have i18 := hS.rng 177 6
    refine r_icmp_ge (tgt := 135) F.hx F.hb hv5_ i18 d_Laws_tryVotes_101 (by decide) (fun c19 => ?_) (fun c19 => ?_)
    · replace hT := (if_pos c19).symm.trans hT
      refine lv_iinc (v := Int32.ofInt (w32 (v4_ + 1))) (lv' := [(5, vI (w32 (v4_ + 1))), (0, .ref (b + 177)), (1, .ref (b + k1)), (3, .ref (b + k3)), (4, vI x4), (6, vI v5_)]) F.hx F.hb d_Laws_tryVotes_135 hl (k := 4) rfl (q_of_add _ _) (Nat.le_of_ble_eq_true rfl) rfl (fun ls hl => ?_)
      refine lv_goto (tgt := 41) F.hx F.hb d_Laws_tryVotes_138 (by decide) ?_
      exact hbk41 M (w32 (v4_ + 1)) (inr_w32 _) _ _ _ hS (lv_sub hl [1, 2, 3, 4, 0] rfl) hT
    · replace hT := (if_neg c19).symm.trans hT
      refine lv_aload_n F.hx F.hb d_Laws_tryVotes_104 rfl (lv_at hl 0 rfl) ?_
      refine r_get (v := .ref (b + 184)) (N := 9) (T := T4) (j := 5) F hS (show 177 < 191 by decide) (show shK 177 = 8 from rfl) (show shN 177 = 9 from rfl) rfl (Nat.le_of_ble_eq_true rfl) ing4 mw_443 (fv_sg rfl rfl rfl) d_Laws_tryVotes_105 ?_
      refine lv_iload F.hx F.hb d_Laws_tryVotes_108 (lv_at hl 5 rfl) ?_
      refine r_sipush F.hx F.hb d_Laws_tryVotes_110 rfl ?_
      refine r_imul F.hx F.hb d_Laws_tryVotes_113 ?_
      refine lv_iload F.hx F.hb d_Laws_tryVotes_114 (lv_at hl 4 rfl) ?_
      refine r_iadd F.hx F.hb d_Laws_tryVotes_116 ?_
      refine lv_aload_n F.hx F.hb d_Laws_tryVotes_117 rfl (lv_at hl 0 rfl) ?_
      refine lv_aload_n F.hx F.hb d_Laws_tryVotes_118 rfl (lv_at hl 1 rfl) ?_
      refine lv_iload F.hx F.hb d_Laws_tryVotes_119 (lv_at hl 5 rfl) ?_
      refine lv_iload F.hx F.hb d_Laws_tryVotes_121 (lv_at hl 3 rfl) ?_
      obtain ⟨q20, hq20, hT⟩ := q_obind hT
      refine r_backI F hS (r_runV (k := 177) (N := 9) (T := T4) (As := [.ref (b + k1), vI v5_, vI x4]) F hS (show 177 < 191 by decide) (show shK 177 = 8 from rfl) rfl (c_Laws_joyOf l F.2.2.1 M k1 v5_ x4 hk1 hv5_ hx4 _ hq20) gs_Laws_173 hd_Laws_joyOf ⟨Nat.le_of_ble_eq_true rfl, Nat.le_of_ble_eq_true rfl⟩ rfl hl.1 (Nat.le_of_ble_eq_true rfl) ⟨Nat.zero_le _, Nat.zero_le _⟩ rfl d_Laws_tryVotes_123) (fun H locs hS h21 => ?_)
      obtain ⟨q22, hq22⟩ : ∃ q, q = (t_WF_put (q20.1) 184 1024 (w32 ((w32 (v5_ * 256)) + v4_)) (q20.2)) := ⟨_, rfl⟩
      replace hT := qlet_eq hT hq22
      refine r_backV F hS (r_runSN (As := [.ref (b + 184), vI (w32 ((w32 (v5_ * 256)) + v4_)), vI (q20.2)]) F hS (c_WF_put l F.2.2.1 (q20.1) 184 1024 (w32 ((w32 (v5_ * 256)) + v4_)) (q20.2) (show arrP 0 184 1024 191 from ⟨rfl, rfl, by decide⟩) (inr_w32 _) h21 _ hq22.symm) mw_512 mw_511 mw_1 gs_Laws_68 hd_WF_put ⟨Nat.le_of_ble_eq_true rfl, Nat.le_of_ble_eq_true rfl⟩ rfl hl.1 (Nat.le_of_ble_eq_true rfl) ⟨Nat.zero_le _, Nat.zero_le _⟩ rfl d_Laws_tryVotes_126) (fun H locs hS => ?_)
      refine lv_iinc (v := Int32.ofInt (w32 (v5_ + 1))) (lv' := [(6, vI (w32 (v5_ + 1))), (0, .ref (b + 177)), (1, .ref (b + k1)), (3, .ref (b + k3)), (4, vI x4), (5, vI v4_)]) F.hx F.hb d_Laws_tryVotes_129 hl (k := 5) rfl (q_of_add _ _) (Nat.le_of_ble_eq_true rfl) rfl (fun ls hl => ?_)
      refine lv_goto (tgt := 95) F.hx F.hb d_Laws_tryVotes_132 (by decide) ?_
      exact ih q22 v4_ hv4_ (w32 (v5_ + 1)) (inr_w32 _) _ _ _ hS (lv_sub hl [1, 2, 3, 4, 5, 0] rfl) hT
set_option maxHeartbeats 4000000 in
set_option maxRecDepth 100000 in
theorem k_Laws_tryVotes_L53 (l : Launch) {p : Program} {e : Env} {s : State} {m : MethodId} {below : List Frame} {meth : Method} {c : Code} {b n : Nat} {C : CT} (hlo : 191 ≤ n) (k1 : Nat) (k2 : Nat) (k3 : Nat) (x4 : Int) (hk1 : isTown k1) (hk2 : isScene k2) (hk3 : isScene k3) (hx4 : InR x4) (F : Cx b p m c b_Laws_tryVotes 7 s ([.ref (b + 177), .ref (b + k1), .ref (b + k2), .ref (b + k3), vI x4] : List Value).toArray "WardFalls$Laws" C n 191) (hlk : meth.locks = false) (hr : meth.sig.returnType = none) {res : Mem} (bk41 : Mem → Int → Option (Mem)) (hbk41 : ∀ (M : Mem) (v4_ : Int) (hv4_ : InR v4_) (H : Heap) (locs : List Loc) (ls : Array Slot), St b C n M s H locs → lv_has ls 7 [(0, .ref (b + 177)), (1, .ref (b + k1)), (3, .ref (b + k3)), (4, vI x4), (5, vI v4_)] → bk41 M v4_ = some res → W p l e (headSpec (wsM y_Laws_tryVotes b_Laws_tryVotes 7 (none)) (rmD 6)).room s m ([.ref (b + 177), .ref (b + k1), .ref (b + k2), .ref (b + k3), vI x4] : List Value).toArray below meth c H locs 0 0 (MQ below (QV b C n res) ([.ref (b + 177), .ref (b + k1), .ref (b + k2), .ref (b + k3), vI x4] : List Value).toArray s 0 0 (frb b)) (F0 m 41 ls [])) : ∀ (fu : Nat) (M : Mem) (v4_ : Int) (hv4_ : InR v4_) (v5_ : Int) (hv5_ : InR v5_) (H : Heap) (locs : List Loc) (ls : Array Slot), St b C n M s H locs → lv_has ls 7 [(0, .ref (b + 177)), (1, .ref (b + k1)), (3, .ref (b + k3)), (4, vI x4), (5, vI v4_), (6, vI v5_)] → t_Laws_tryVotes_L53 k1 k2 k3 x4 bk41 fu M v4_ v5_ = some res → W p l e (headSpec (wsM y_Laws_tryVotes b_Laws_tryVotes 7 (none)) (rmD 6)).room s m ([.ref (b + 177), .ref (b + k1), .ref (b + k2), .ref (b + k3), vI x4] : List Value).toArray below meth c H locs 0 0 (MQ below (QV b C n res) ([.ref (b + 177), .ref (b + k1), .ref (b + k2), .ref (b + k3), vI x4] : List Value).toArray s 0 0 (frb b)) (F0 m 53 ls []) := by
  intro fu
  induction fu with
  | zero => intro M v4_ hv4_ v5_ hv5_ H locs ls hS hl hT; exact absurd hT (by simp [t_Laws_tryVotes_L53])
  | succ fu ih =>
    intro M v4_ hv4_ v5_ hv5_ H locs ls hS hl hT
    rw [t_Laws_tryVotes_L53] at hT
    refine lv_iload F.hx F.hb d_Laws_tryVotes_53 (lv_at hl 5 rfl) ?_
    refine lv_aload_n F.hx F.hb d_Laws_tryVotes_55 rfl (lv_at hl 0 rfl) ?_
    refine r_get (v := vI (M.1 177 6)) (N := 9) (T := T4) (j := 6) F hS (show 177 < 191 by decide) (show shK 177 = 8 from rfl) (show shN 177 = 9 from rfl) rfl (Nat.le_of_ble_eq_true rfl) ing4 mw_444 (fv_int rfl) d_Laws_tryVotes_56 ?_
    have i12 := hS.rng 177 6
    refine r_icmp_ge (tgt := 86) F.hx F.hb hv5_ i12 d_Laws_tryVotes_59 (by decide) (fun c13 => ?_) (fun c13 => ?_)
    · replace hT := (if_pos c13).symm.trans hT
      refine lv_aload_n F.hx F.hb d_Laws_tryVotes_86 rfl (lv_at hl 0 rfl) ?_
      refine lv_aload_n F.hx F.hb d_Laws_tryVotes_87 rfl (lv_at hl 1 rfl) ?_
      refine lv_aload_n F.hx F.hb d_Laws_tryVotes_88 rfl (lv_at hl 2 rfl) ?_
      obtain ⟨q14, hq14, hT⟩ := q_obind hT
      refine r_backV F hS (r_runV (k := 177) (N := 9) (T := T4) (As := [.ref (b + k1), .ref (b + k3)]) F hS (show 177 < 191 by decide) (show shK 177 = 8 from rfl) rfl (c_Laws_measure l F.2.2.1 M k1 k3 hk1 hk3 _ hq14) gs_Laws_169 hd_Laws_measure ⟨Nat.le_of_ble_eq_true rfl, Nat.le_of_ble_eq_true rfl⟩ rfl hl.1 (Nat.le_of_ble_eq_true rfl) ⟨Nat.zero_le _, Nat.zero_le _⟩ rfl d_Laws_tryVotes_89) (fun H locs hS => ?_)
      refine r_iconst F.hx F.hb d_Laws_tryVotes_92 ?_
      refine lv_istore (lv' := [(6, vI 0), (0, .ref (b + 177)), (1, .ref (b + k1)), (3, .ref (b + k3)), (4, vI x4), (5, vI v4_)]) F.hx F.hb d_Laws_tryVotes_93 hl (Nat.le_of_ble_eq_true rfl) rfl (fun ls hl => ?_)
      exact k_Laws_tryVotes_L95 l hlo k1 k2 k3 x4 hk1 hk2 hk3 hx4 F hlk hr bk41 hbk41 FU q14 v4_ hv4_ 0 (inr_c rfl) _ _ _ hS (lv_sub hl [1, 2, 3, 4, 5, 0] rfl) hT
    · replace hT := (if_neg c13).symm.trans hT
      refine lv_aload_n F.hx F.hb d_Laws_tryVotes_62 rfl (lv_at hl 2 rfl) ?_
      refine r_get (v := .ref (b + (k3 + 1))) (N := 7) (T := T9) (j := 0) F hS (Scene_lt hk3) (Scene_sh hk3) (Scene_N hk3) rfl (Nat.le_of_ble_eq_true rfl) ing9 mw_277 (Scene_g0 hk3 _) d_Laws_tryVotes_63 ?_
      refine lv_iload F.hx F.hb d_Laws_tryVotes_66 (lv_at hl 5 rfl) ?_
      refine lv_iload F.hx F.hb d_Laws_tryVotes_68 (lv_at hl 4 rfl) ?_
      refine r_iconst F.hx F.hb d_Laws_tryVotes_70 ?_
      refine lv_iload F.hx F.hb d_Laws_tryVotes_71 (lv_at hl 5 rfl) ?_
      refine r_imul F.hx F.hb d_Laws_tryVotes_73 ?_
      refine r_ishr F.hx F.hb d_Laws_tryVotes_74 ?_
      refine r_iconst F.hx F.hb d_Laws_tryVotes_75 ?_
      refine r_iand F.hx F.hb d_Laws_tryVotes_76 ?_
      obtain ⟨q16, hq16⟩ : ∃ q, q = (t_WF_put M (k3 + 1) 4 v5_ (q_and (q_shr v4_ (w32 (2 * v5_))) 3)) := ⟨_, rfl⟩
      replace hT := qlet_eq hT hq16
      refine r_backV F hS (r_runSN (As := [.ref (b + (k3 + 1)), vI v5_, vI (q_and (q_shr v4_ (w32 (2 * v5_))) 3)]) F hS (c_WF_put l F.2.2.1 M (k3 + 1) 4 v5_ (q_and (q_shr v4_ (w32 (2 * v5_))) 3) (Scene_f0 hk3) hv5_ (q_inr_toInt _) _ hq16.symm) mw_512 mw_511 mw_1 gs_Laws_68 hd_WF_put ⟨Nat.le_of_ble_eq_true rfl, Nat.le_of_ble_eq_true rfl⟩ rfl hl.1 (Nat.le_of_ble_eq_true rfl) ⟨Nat.zero_le _, Nat.zero_le _⟩ rfl d_Laws_tryVotes_77) (fun H locs hS => ?_)
      refine lv_iinc (v := Int32.ofInt (w32 (v5_ + 1))) (lv' := [(6, vI (w32 (v5_ + 1))), (0, .ref (b + 177)), (1, .ref (b + k1)), (3, .ref (b + k3)), (4, vI x4), (5, vI v4_)]) F.hx F.hb d_Laws_tryVotes_80 hl (k := 5) rfl (q_of_add _ _) (Nat.le_of_ble_eq_true rfl) rfl (fun ls hl => ?_)
      refine lv_goto (tgt := 53) F.hx F.hb d_Laws_tryVotes_83 (by decide) ?_
      exact ih q16 v4_ hv4_ (w32 (v5_ + 1)) (inr_w32 _) _ _ _ hS (lv_sub hl [1, 2, 3, 4, 5, 0] rfl) hT
set_option maxHeartbeats 4000000 in
set_option maxRecDepth 100000 in
theorem k_Laws_tryVotes_L41 (l : Launch) {p : Program} {e : Env} {s : State} {m : MethodId} {below : List Frame} {meth : Method} {c : Code} {b n : Nat} {C : CT} (hlo : 191 ≤ n) (k1 : Nat) (k2 : Nat) (k3 : Nat) (x4 : Int) (hk1 : isTown k1) (hk2 : isScene k2) (hk3 : isScene k3) (hx4 : InR x4) (F : Cx b p m c b_Laws_tryVotes 7 s ([.ref (b + 177), .ref (b + k1), .ref (b + k2), .ref (b + k3), vI x4] : List Value).toArray "WardFalls$Laws" C n 191) (hlk : meth.locks = false) (hr : meth.sig.returnType = none) {res : Mem} : ∀ (fu : Nat) (M : Mem) (v4_ : Int) (hv4_ : InR v4_) (H : Heap) (locs : List Loc) (ls : Array Slot), St b C n M s H locs → lv_has ls 7 [(0, .ref (b + 177)), (1, .ref (b + k1)), (3, .ref (b + k3)), (4, vI x4), (5, vI v4_)] → t_Laws_tryVotes_L41 k1 k2 k3 x4 fu M v4_ = some res → W p l e (headSpec (wsM y_Laws_tryVotes b_Laws_tryVotes 7 (none)) (rmD 6)).room s m ([.ref (b + 177), .ref (b + k1), .ref (b + k2), .ref (b + k3), vI x4] : List Value).toArray below meth c H locs 0 0 (MQ below (QV b C n res) ([.ref (b + 177), .ref (b + k1), .ref (b + k2), .ref (b + k3), vI x4] : List Value).toArray s 0 0 (frb b)) (F0 m 41 ls []) := by
  intro fu
  induction fu with
  | zero => intro M v4_ hv4_ H locs ls hS hl hT; exact absurd hT (by simp [t_Laws_tryVotes_L41])
  | succ fu ih =>
    intro M v4_ hv4_ H locs ls hS hl hT
    rw [t_Laws_tryVotes_L41] at hT
    refine lv_iload F.hx F.hb d_Laws_tryVotes_41 (lv_at hl 4 rfl) ?_
    refine lv_aload_n F.hx F.hb d_Laws_tryVotes_43 rfl (lv_at hl 0 rfl) ?_
    refine r_get (v := vI (M.1 177 7)) (N := 9) (T := T4) (j := 7) F hS (show 177 < 191 by decide) (show shK 177 = 8 from rfl) (show shN 177 = 9 from rfl) rfl (Nat.le_of_ble_eq_true rfl) ing4 mw_445 (fv_int rfl) d_Laws_tryVotes_44 ?_
    have i10 := hS.rng 177 7
    refine r_icmp_ge (tgt := 141) F.hx F.hb hv4_ i10 d_Laws_tryVotes_47 (by decide) (fun c11 => ?_) (fun c11 => ?_)
    · replace hT := (if_pos c11).symm.trans hT
      cases hT
      exact r_vret F hlk hr hS d_Laws_tryVotes_141
    · replace hT := (if_neg c11).symm.trans hT
      refine r_iconst F.hx F.hb d_Laws_tryVotes_50 ?_
      refine lv_istore (lv' := [(6, vI 0), (0, .ref (b + 177)), (1, .ref (b + k1)), (3, .ref (b + k3)), (4, vI x4), (5, vI v4_)]) F.hx F.hb d_Laws_tryVotes_51 hl (Nat.le_of_ble_eq_true rfl) rfl (fun ls hl => ?_)
      exact k_Laws_tryVotes_L53 l hlo k1 k2 k3 x4 hk1 hk2 hk3 hx4 F hlk hr (fun a0_ a1_ => t_Laws_tryVotes_L41 k1 k2 k3 x4 fu a0_ a1_) ih FU M v4_ hv4_ 0 (inr_c rfl) _ _ _ hS (lv_sub hl [1, 2, 3, 4, 5, 0] rfl) hT
set_option maxHeartbeats 4000000 in
set_option maxRecDepth 100000 in
theorem c_Laws_tryVotes (l : Launch) {b n : Nat} {C : CT} (hlo : 191 ≤ n) (M : Mem) (k1 : Nat) (k2 : Nat) (k3 : Nat) (x4 : Int) (hk1 : isTown k1) (hk2 : isScene k2) (hk3 : isScene k3) (hx4 : InR x4) (res : Mem) (hT : t_Laws_tryVotes M k1 k2 k3 x4 = some res) : CM l b C n 6 y_Laws_tryVotes b_Laws_tryVotes 7 (none) [.ref (b + 177), .ref (b + k1), .ref (b + k2), .ref (b + k3), vI x4] M (QV b C n res) := by
  refine CM.of (lo := 191) (ow := "WardFalls$Laws") (by decide) rfl (Nat.le_of_ble_eq_true rfl) hlo (fun p e s m below meth c F hlk hr hS ls hl => ?_)
  have hl : lv_has ls 7 [(0, .ref (b + 177)), (1, .ref (b + k1)), (2, .ref (b + k2)), (3, .ref (b + k3)), (4, vI x4)] := hl
  unfold t_Laws_tryVotes at hT
  refine lv_aload_n F.hx F.hb d_Laws_tryVotes_0 rfl (lv_at hl 0 rfl) ?_
  refine r_get (v := vI (M.1 177 8)) (N := 9) (T := T4) (j := 8) F hS (show 177 < 191 by decide) (show shK 177 = 8 from rfl) (show shN 177 = 9 from rfl) rfl (Nat.le_of_ble_eq_true rfl) ing4 mw_447 (fv_int rfl) d_Laws_tryVotes_1 ?_
  have i1 := hS.rng 177 8
  refine r_if_eq (tgt := 8) F.hx F.hb i1 d_Laws_tryVotes_4 (by decide) (fun c2 => ?_) (fun c2 => ?_)
  · replace hT := (if_pos c2).symm.trans hT
    refine lv_aload_n F.hx F.hb d_Laws_tryVotes_8 rfl (lv_at hl 0 rfl) ?_
    refine r_iconst F.hx F.hb d_Laws_tryVotes_9 ?_
    refine r_putI (N := 9) (T := T4) (j := 8) F hS (show 177 < 191 by decide) (show shK 177 = 8 from rfl) (show shN 177 = 9 from rfl) rfl (Nat.le_of_ble_eq_true rfl) ing4 tyok4 nm4 rfl rfl (nar_z (Or.inr rfl)) (fit_z (Or.inr rfl)) rfl rfl mw_447 (inr_c rfl) d_Laws_tryVotes_10 (fun H locs hS => ?_)
    obtain ⟨M3, eM3⟩ : ∃ q, q = (setI M 177 8 1) := ⟨_, rfl⟩
    replace hS : St b C n M3 s H locs := by rw [eM3]; exact hS
    replace hT := qlet_eq hT eM3
    refine lv_aload_n F.hx F.hb d_Laws_tryVotes_13 rfl (lv_at hl 3 rfl) ?_
    refine lv_aload_n F.hx F.hb d_Laws_tryVotes_14 rfl (lv_at hl 2 rfl) ?_
    obtain ⟨q4, hq4⟩ : ∃ q, q = (t_Scene_copy M3 k3 k2) := ⟨_, rfl⟩
    replace hT := qlet_eq hT hq4
    refine r_backV F hS (r_runV (k := k3) (N := 7) (T := T9) (As := [.ref (b + k2)]) F hS (Scene_lt hk3) (Scene_sh hk3) rfl (c_Scene_copy l F.2.2.1 M3 k3 k2 hk3 hk2 _ hq4.symm) gs_Laws_155 hd_Scene_copy ⟨Nat.le_of_ble_eq_true rfl, Nat.le_of_ble_eq_true rfl⟩ rfl hl.1 (Nat.le_of_ble_eq_true rfl) ⟨Nat.zero_le _, Nat.zero_le _⟩ rfl d_Laws_tryVotes_15) (fun H locs hS => ?_)
    refine lv_aload_n F.hx F.hb d_Laws_tryVotes_18 rfl (lv_at hl 0 rfl) ?_
    refine lv_aload_n F.hx F.hb d_Laws_tryVotes_19 rfl (lv_at hl 1 rfl) ?_
    refine r_get (v := vI (q4.1 k1 14)) (N := 20) (T := T11) (j := 14) F hS (Town_lt hk1) (Town_sh hk1) (Town_N hk1) rfl (Nat.le_of_ble_eq_true rfl) ing11 mw_139 (fv_int rfl) d_Laws_tryVotes_20 ?_
    have i6 := hS.rng k1 14
    refine r_putI (N := 9) (T := T4) (j := 6) F hS (show 177 < 191 by decide) (show shK 177 = 8 from rfl) (show shN 177 = 9 from rfl) rfl (Nat.le_of_ble_eq_true rfl) ing4 tyok4 nm4 rfl rfl rfl rfl rfl rfl mw_444 i6 d_Laws_tryVotes_23 (fun H locs hS => ?_)
    obtain ⟨M7, eM7⟩ : ∃ q, q = (setI q4 177 6 (q4.1 k1 14)) := ⟨_, rfl⟩
    replace hS : St b C n M7 s H locs := by rw [eM7]; exact hS
    replace hT := qlet_eq hT eM7
    refine lv_aload_n F.hx F.hb d_Laws_tryVotes_26 rfl (lv_at hl 0 rfl) ?_
    refine r_iconst F.hx F.hb d_Laws_tryVotes_27 ?_
    refine r_iconst F.hx F.hb d_Laws_tryVotes_28 ?_
    refine lv_aload_n F.hx F.hb d_Laws_tryVotes_29 rfl (lv_at hl 0 rfl) ?_
    refine r_get (v := vI (M7.1 177 6)) (N := 9) (T := T4) (j := 6) F hS (show 177 < 191 by decide) (show shK 177 = 8 from rfl) (show shN 177 = 9 from rfl) rfl (Nat.le_of_ble_eq_true rfl) ing4 mw_444 (fv_int rfl) d_Laws_tryVotes_30 ?_
    have i8 := hS.rng 177 6
    refine r_imul F.hx F.hb d_Laws_tryVotes_33 ?_
    refine r_ishl F.hx F.hb d_Laws_tryVotes_34 ?_
    refine r_putI (N := 9) (T := T4) (j := 7) F hS (show 177 < 191 by decide) (show shK 177 = 8 from rfl) (show shN 177 = 9 from rfl) rfl (Nat.le_of_ble_eq_true rfl) ing4 tyok4 nm4 rfl rfl rfl rfl rfl rfl mw_445 (q_inr_toInt _) d_Laws_tryVotes_35 (fun H locs hS => ?_)
    obtain ⟨M9, eM9⟩ : ∃ q, q = (setI M7 177 7 (q_shl 1 (w32 (2 * (M7.1 177 6))))) := ⟨_, rfl⟩
    replace hS : St b C n M9 s H locs := by rw [eM9]; exact hS
    replace hT := qlet_eq hT eM9
    refine r_iconst F.hx F.hb d_Laws_tryVotes_38 ?_
    refine lv_istore (lv' := [(5, vI 0), (0, .ref (b + 177)), (1, .ref (b + k1)), (2, .ref (b + k2)), (3, .ref (b + k3)), (4, vI x4)]) F.hx F.hb d_Laws_tryVotes_39 hl (Nat.le_of_ble_eq_true rfl) rfl (fun ls hl => ?_)
    exact k_Laws_tryVotes_L41 l hlo k1 k2 k3 x4 hk1 hk2 hk3 hx4 F hlk hr FU M9 0 (inr_c rfl) _ _ _ hS (lv_sub hl [1, 2, 4, 5, 0] rfl) hT
  · replace hT := (if_neg c2).symm.trans hT
    cases hT
    exact r_vret F hlk hr hS d_Laws_tryVotes_7
theorem d_Laws_joyBy_0 : decode b_Laws_joyBy 0 = .ok (.aload_n 0, 1) := dc_42 (by decide +kernel)
theorem d_Laws_joyBy_1 : decode b_Laws_joyBy 1 = .ok (.getfield 32, 3) := dc_180 (by decide +kernel)
theorem d_Laws_joyBy_4 : decode b_Laws_joyBy 4 = .ok (.iload_n 1, 1) := dc_27 (by decide +kernel)
theorem d_Laws_joyBy_5 : decode b_Laws_joyBy 5 = .ok (.sipush 256, 3) := dc_17 (by decide +kernel)
theorem d_Laws_joyBy_8 : decode b_Laws_joyBy 8 = .ok (.imul, 1) := dc_104 (by decide +kernel)
theorem d_Laws_joyBy_9 : decode b_Laws_joyBy 9 = .ok (.iload_n 2, 1) := dc_28 (by decide +kernel)
theorem d_Laws_joyBy_10 : decode b_Laws_joyBy 10 = .ok (.iadd, 1) := dc_96 (by decide +kernel)
theorem d_Laws_joyBy_11 : decode b_Laws_joyBy 11 = .ok (.invokestatic 52, 3) := dc_184 (by decide +kernel)
theorem d_Laws_joyBy_14 : decode b_Laws_joyBy 14 = .ok (.ireturn, 1) := dc_172 (by decide +kernel)
def t_Laws_joyBy (M : Mem) (x1 : Int) (x2 : Int) : Int := (qlet (t_WF_look M 184 1024 (w32 ((w32 (x1 * 256)) + x2))) fun q1 => q1)
set_option maxHeartbeats 4000000 in
set_option maxRecDepth 100000 in
theorem c_Laws_joyBy (l : Launch) {b n : Nat} {C : CT} (hlo : 191 ≤ n) (M : Mem) (x1 : Int) (x2 : Int) (hx1 : InR x1) (hx2 : InR x2) (res : Int) (hT : t_Laws_joyBy M x1 x2 = res) : CM l b C n 1 y_Laws_joyBy b_Laws_joyBy 3 (some .int) [.ref (b + 177), vI x1, vI x2] M (QI b C n M res) := by
  refine CM.of (lo := 191) (ow := "WardFalls$Laws") (by decide) rfl (Nat.le_of_ble_eq_true rfl) hlo (fun p e s m below meth c F hlk hr hS ls hl => ?_)
  have hl : lv_has ls 3 [(0, .ref (b + 177)), (1, vI x1), (2, vI x2)] := hl
  unfold t_Laws_joyBy at hT
  refine lv_aload_n F.hx F.hb d_Laws_joyBy_0 rfl (lv_at hl 0 rfl) ?_
  refine r_get (v := .ref (b + 184)) (N := 9) (T := T4) (j := 5) F hS (show 177 < 191 by decide) (show shK 177 = 8 from rfl) (show shN 177 = 9 from rfl) rfl (Nat.le_of_ble_eq_true rfl) ing4 mw_443 (fv_sg rfl rfl rfl) d_Laws_joyBy_1 ?_
  refine lv_iload_n F.hx F.hb d_Laws_joyBy_4 rfl (lv_at hl 1 rfl) ?_
  refine r_sipush F.hx F.hb d_Laws_joyBy_5 rfl ?_
  refine r_imul F.hx F.hb d_Laws_joyBy_8 ?_
  refine lv_iload_n F.hx F.hb d_Laws_joyBy_9 rfl (lv_at hl 2 rfl) ?_
  refine r_iadd F.hx F.hb d_Laws_joyBy_10 ?_
  obtain ⟨q1, hq1⟩ : ∃ q, q = (t_WF_look M 184 1024 (w32 ((w32 (x1 * 256)) + x2))) := ⟨_, rfl⟩
  replace hT := qlet_eq hT hq1
  refine r_backI F hS (r_runSN (As := [.ref (b + 184), vI (w32 ((w32 (x1 * 256)) + x2))]) F hS (c_WF_look l F.2.2.1 M 184 1024 (w32 ((w32 (x1 * 256)) + x2)) (show arrP 0 184 1024 191 from ⟨rfl, rfl, by decide⟩) (inr_w32 _) _ hq1.symm) mw_519 mw_518 mw_1 gs_Laws_52 hd_WF_look ⟨Nat.le_of_ble_eq_true rfl, Nat.le_of_ble_eq_true rfl⟩ rfl hl.1 (Nat.le_of_ble_eq_true rfl) ⟨Nat.zero_le _, Nat.zero_le _⟩ rfl d_Laws_joyBy_11) (fun H locs hS h2 => ?_)
  subst hT
  exact r_iret F hlk hr rfl hS h2 d_Laws_joyBy_14
theorem d_Laws_moved_0 : decode b_Laws_moved 0 = .ok (.iconst 0, 1) := dc_3 (by decide +kernel)
theorem d_Laws_moved_1 : decode b_Laws_moved 1 = .ok (.istore_n 2, 1) := dc_61 (by decide +kernel)
theorem d_Laws_moved_2 : decode b_Laws_moved 2 = .ok (.iload_n 2, 1) := dc_28 (by decide +kernel)
theorem d_Laws_moved_3 : decode b_Laws_moved 3 = .ok (.aload_n 0, 1) := dc_42 (by decide +kernel)
theorem d_Laws_moved_4 : decode b_Laws_moved 4 = .ok (.getfield 162, 3) := dc_180 (by decide +kernel)
theorem d_Laws_moved_7 : decode b_Laws_moved 7 = .ok (.if_icmp .ge 70, 3) := dc_162 (by decide +kernel)
theorem d_Laws_moved_10 : decode b_Laws_moved 10 = .ok (.iload_n 1, 1) := dc_27 (by decide +kernel)
theorem d_Laws_moved_11 : decode b_Laws_moved 11 = .ok (.istore_n 3, 1) := dc_62 (by decide +kernel)
theorem d_Laws_moved_12 : decode b_Laws_moved 12 = .ok (.iconst 0, 1) := dc_3 (by decide +kernel)
theorem d_Laws_moved_13 : decode b_Laws_moved 13 = .ok (.istore 4, 2) := dc_54 (by decide +kernel)
theorem d_Laws_moved_15 : decode b_Laws_moved 15 = .ok (.iload 4, 2) := dc_21 (by decide +kernel)
theorem d_Laws_moved_17 : decode b_Laws_moved 17 = .ok (.iconst 4, 1) := dc_7 (by decide +kernel)
theorem d_Laws_moved_18 : decode b_Laws_moved 18 = .ok (.if_icmp .ge 46, 3) := dc_162 (by decide +kernel)
theorem d_Laws_moved_21 : decode b_Laws_moved 21 = .ok (.iload_n 1, 1) := dc_27 (by decide +kernel)
theorem d_Laws_moved_22 : decode b_Laws_moved 22 = .ok (.iconst 3, 1) := dc_6 (by decide +kernel)
theorem d_Laws_moved_23 : decode b_Laws_moved 23 = .ok (.iconst 2, 1) := dc_5 (by decide +kernel)
theorem d_Laws_moved_24 : decode b_Laws_moved 24 = .ok (.iload_n 2, 1) := dc_28 (by decide +kernel)
theorem d_Laws_moved_25 : decode b_Laws_moved 25 = .ok (.imul, 1) := dc_104 (by decide +kernel)
theorem d_Laws_moved_26 : decode b_Laws_moved 26 = .ok (.ishl, 1) := dc_120 (by decide +kernel)
theorem d_Laws_moved_27 : decode b_Laws_moved 27 = .ok (.iconst (-1), 1) := dc_2 (by decide +kernel)
theorem d_Laws_moved_28 : decode b_Laws_moved 28 = .ok (.ixor, 1) := dc_130 (by decide +kernel)
theorem d_Laws_moved_29 : decode b_Laws_moved 29 = .ok (.iand, 1) := dc_126 (by decide +kernel)
theorem d_Laws_moved_30 : decode b_Laws_moved 30 = .ok (.iload 4, 2) := dc_21 (by decide +kernel)
theorem d_Laws_moved_32 : decode b_Laws_moved 32 = .ok (.iconst 2, 1) := dc_5 (by decide +kernel)
theorem d_Laws_moved_33 : decode b_Laws_moved 33 = .ok (.iload_n 2, 1) := dc_28 (by decide +kernel)
theorem d_Laws_moved_34 : decode b_Laws_moved 34 = .ok (.imul, 1) := dc_104 (by decide +kernel)
theorem d_Laws_moved_35 : decode b_Laws_moved 35 = .ok (.ishl, 1) := dc_120 (by decide +kernel)
theorem d_Laws_moved_36 : decode b_Laws_moved 36 = .ok (.ior, 1) := dc_128 (by decide +kernel)
theorem d_Laws_moved_37 : decode b_Laws_moved 37 = .ok (.istore 5, 2) := dc_54 (by decide +kernel)
theorem d_Laws_moved_39 : decode b_Laws_moved 39 = .ok (.aload_n 0, 1) := dc_42 (by decide +kernel)
theorem d_Laws_moved_40 : decode b_Laws_moved 40 = .ok (.iload_n 2, 1) := dc_28 (by decide +kernel)
theorem d_Laws_moved_41 : decode b_Laws_moved 41 = .ok (.iload 5, 2) := dc_21 (by decide +kernel)
theorem d_Laws_moved_43 : decode b_Laws_moved 43 = .ok (.invokevirtual 180, 3) := dc_182 (by decide +kernel)
theorem d_Laws_moved_46 : decode b_Laws_moved 46 = .ok (.aload_n 0, 1) := dc_42 (by decide +kernel)
theorem d_Laws_moved_47 : decode b_Laws_moved 47 = .ok (.iload_n 2, 1) := dc_28 (by decide +kernel)
theorem d_Laws_moved_48 : decode b_Laws_moved 48 = .ok (.iload_n 3, 1) := dc_29 (by decide +kernel)
theorem d_Laws_moved_49 : decode b_Laws_moved 49 = .ok (.invokevirtual 180, 3) := dc_182 (by decide +kernel)
theorem d_Laws_moved_52 : decode b_Laws_moved 52 = .ok (.if_icmp .le 6, 3) := dc_164 (by decide +kernel)
theorem d_Laws_moved_55 : decode b_Laws_moved 55 = .ok (.iload 5, 2) := dc_21 (by decide +kernel)
theorem d_Laws_moved_57 : decode b_Laws_moved 57 = .ok (.istore_n 3, 1) := dc_62 (by decide +kernel)
theorem d_Laws_moved_58 : decode b_Laws_moved 58 = .ok (.iinc 4 1, 3) := dc_132 (by decide +kernel)
theorem d_Laws_moved_61 : decode b_Laws_moved 61 = .ok (.goto (-46), 3) := dc_167 (by decide +kernel)
theorem d_Laws_moved_64 : decode b_Laws_moved 64 = .ok (.iload_n 3, 1) := dc_29 (by decide +kernel)
theorem d_Laws_moved_65 : decode b_Laws_moved 65 = .ok (.iload_n 1, 1) := dc_27 (by decide +kernel)
theorem d_Laws_moved_66 : decode b_Laws_moved 66 = .ok (.if_icmp .eq 5, 3) := dc_159 (by decide +kernel)
theorem d_Laws_moved_69 : decode b_Laws_moved 69 = .ok (.iload_n 3, 1) := dc_29 (by decide +kernel)
theorem d_Laws_moved_70 : decode b_Laws_moved 70 = .ok (.ireturn, 1) := dc_172 (by decide +kernel)
theorem d_Laws_moved_71 : decode b_Laws_moved 71 = .ok (.iinc 2 1, 3) := dc_132 (by decide +kernel)
theorem d_Laws_moved_74 : decode b_Laws_moved 74 = .ok (.goto (-72), 3) := dc_167 (by decide +kernel)
theorem d_Laws_moved_77 : decode b_Laws_moved 77 = .ok (.iload_n 1, 1) := dc_27 (by decide +kernel)
theorem d_Laws_moved_78 : decode b_Laws_moved 78 = .ok (.ireturn, 1) := dc_172 (by decide +kernel)
def t_Laws_moved_L58 (x1 : Int) (bk2 : Mem → Int → Option (Int)) (bk15 : Mem → Int → Int → Int → Option (Int)) (M : Mem) (v2_ : Int) (v3_ : Int) (v4_ : Int) : Option (Int) := (bk15 M v2_ v3_ (w32 (v4_ + 1)))
def t_Laws_moved_L15 (x1 : Int) (bk2 : Mem → Int → Option (Int)) : Nat → Mem → Int → Int → Int → Option (Int)
  | 0, _, _, _, _ => none
  | fu + 1, M, v2_, v3_, v4_ => (if 4 ≤ v4_ then (if v3_ = x1 then (bk2 M (w32 (v2_ + 1))) else (some v3_)) else (qlet (t_Laws_joyBy M v2_ (q_or (q_and x1 (q_xor (q_shl 3 (w32 (2 * v2_))) (-1))) (q_shl v4_ (w32 (2 * v2_))))) fun q5 => (qlet (t_Laws_joyBy M v2_ v3_) fun q7 => (if q5 ≤ q7 then (t_Laws_moved_L58 x1 bk2 (fun a0_ a1_ a2_ a3_ => t_Laws_moved_L15 x1 bk2 fu a0_ a1_ a2_ a3_) M v2_ v3_ v4_) else (t_Laws_moved_L58 x1 bk2 (fun a0_ a1_ a2_ a3_ => t_Laws_moved_L15 x1 bk2 fu a0_ a1_ a2_ a3_) M v2_ (q_or (q_and x1 (q_xor (q_shl 3 (w32 (2 * v2_))) (-1))) (q_shl v4_ (w32 (2 * v2_)))) v4_)))))
def t_Laws_moved_L2 (x1 : Int)  : Nat → Mem → Int → Option (Int)
  | 0, _, _ => none
  | fu + 1, M, v2_ => (if (M.1 177 6) ≤ v2_ then (some x1) else (t_Laws_moved_L15 x1 (fun a0_ a1_ => t_Laws_moved_L2 x1 fu a0_ a1_) FU M v2_ x1 0))
def t_Laws_moved (M : Mem) (x1 : Int) : Option (Int) := (t_Laws_moved_L2 x1 FU M 0)
set_option maxHeartbeats 4000000 in
set_option maxRecDepth 100000 in
theorem k_Laws_moved_L58 (l : Launch) {p : Program} {e : Env} {s : State} {m : MethodId} {below : List Frame} {meth : Method} {c : Code} {b n : Nat} {C : CT} (hlo : 191 ≤ n) (x1 : Int) (hx1 : InR x1) (F : Cx b p m c b_Laws_moved 6 s ([.ref (b + 177), vI x1] : List Value).toArray "WardFalls$Laws" C n 191) (hlk : meth.locks = false) (hr : meth.sig.returnType = some .int) {res : Int} (bk2 : Mem → Int → Option (Int)) (hbk2 : ∀ (M : Mem) (v2_ : Int) (hv2_ : InR v2_) (H : Heap) (locs : List Loc) (ls : Array Slot), St b C n M s H locs → lv_has ls 6 [(0, .ref (b + 177)), (1, vI x1), (2, vI v2_)] → bk2 M v2_ = some res → W p l e (headSpec (wsM y_Laws_moved b_Laws_moved 6 (some .int)) (rmD 2)).room s m ([.ref (b + 177), vI x1] : List Value).toArray below meth c H locs 0 0 (MQ below (QI b C n M res) ([.ref (b + 177), vI x1] : List Value).toArray s 0 0 (frb b)) (F0 m 2 ls [])) (bk15 : Mem → Int → Int → Int → Option (Int)) (hbk15 : ∀ (M : Mem) (v2_ : Int) (hv2_ : InR v2_) (v3_ : Int) (hv3_ : InR v3_) (v4_ : Int) (hv4_ : InR v4_) (H : Heap) (locs : List Loc) (ls : Array Slot), St b C n M s H locs → lv_has ls 6 [(0, .ref (b + 177)), (1, vI x1), (2, vI v2_), (3, vI v3_), (4, vI v4_)] → bk15 M v2_ v3_ v4_ = some res → W p l e (headSpec (wsM y_Laws_moved b_Laws_moved 6 (some .int)) (rmD 2)).room s m ([.ref (b + 177), vI x1] : List Value).toArray below meth c H locs 0 0 (MQ below (QI b C n M res) ([.ref (b + 177), vI x1] : List Value).toArray s 0 0 (frb b)) (F0 m 15 ls [])) (M : Mem) (v2_ : Int) (hv2_ : InR v2_) (v3_ : Int) (hv3_ : InR v3_) (v4_ : Int) (hv4_ : InR v4_) (H : Heap) (locs : List Loc) (ls : Array Slot) (hS : St b C n M s H locs) (hl : lv_has ls 6 [(0, .ref (b + 177)), (1, vI x1), (2, vI v2_), (3, vI v3_), (4, vI v4_)]) (hT : t_Laws_moved_L58 x1 bk2 bk15 M v2_ v3_ v4_ = some res) : W p l e (headSpec (wsM y_Laws_moved b_Laws_moved 6 (some .int)) (rmD 2)).room s m ([.ref (b + 177), vI x1] : List Value).toArray below meth c H locs 0 0 (MQ below (QI b C n M res) ([.ref (b + 177), vI x1] : List Value).toArray s 0 0 (frb b)) (F0 m 58 ls []) := by
  unfold t_Laws_moved_L58 at hT
  refine lv_iinc (v := Int32.ofInt (w32 (v4_ + 1))) (lv' := [(4, vI (w32 (v4_ + 1))), (0, .ref (b + 177)), (1, vI x1), (2, vI v2_), (3, vI v3_)]) F.hx F.hb d_Laws_moved_58 hl (k := 4) rfl (q_of_add _ _) (Nat.le_of_ble_eq_true rfl) rfl (fun ls hl => ?_)
  refine lv_goto (tgt := 15) F.hx F.hb d_Laws_moved_61 (by decide) ?_
  exact hbk15 M v2_ hv2_ v3_ hv3_ (w32 (v4_ + 1)) (inr_w32 _) _ _ _ hS (lv_sub hl [1, 2, 3, 4, 0] rfl) hT
set_option maxHeartbeats 4000000 in
set_option maxRecDepth 100000 in
theorem k_Laws_moved_L15 (l : Launch) {p : Program} {e : Env} {s : State} {m : MethodId} {below : List Frame} {meth : Method} {c : Code} {b n : Nat} {C : CT} (hlo : 191 ≤ n) (x1 : Int) (hx1 : InR x1) (F : Cx b p m c b_Laws_moved 6 s ([.ref (b + 177), vI x1] : List Value).toArray "WardFalls$Laws" C n 191) (hlk : meth.locks = false) (hr : meth.sig.returnType = some .int) {res : Int} (bk2 : Mem → Int → Option (Int)) (hbk2 : ∀ (M : Mem) (v2_ : Int) (hv2_ : InR v2_) (H : Heap) (locs : List Loc) (ls : Array Slot), St b C n M s H locs → lv_has ls 6 [(0, .ref (b + 177)), (1, vI x1), (2, vI v2_)] → bk2 M v2_ = some res → W p l e (headSpec (wsM y_Laws_moved b_Laws_moved 6 (some .int)) (rmD 2)).room s m ([.ref (b + 177), vI x1] : List Value).toArray below meth c H locs 0 0 (MQ below (QI b C n M res) ([.ref (b + 177), vI x1] : List Value).toArray s 0 0 (frb b)) (F0 m 2 ls [])) : ∀ (fu : Nat) (M : Mem) (v2_ : Int) (hv2_ : InR v2_) (v3_ : Int) (hv3_ : InR v3_) (v4_ : Int) (hv4_ : InR v4_) (H : Heap) (locs : List Loc) (ls : Array Slot), St b C n M s H locs → lv_has ls 6 [(0, .ref (b + 177)), (1, vI x1), (2, vI v2_), (3, vI v3_), (4, vI v4_)] → t_Laws_moved_L15 x1 bk2 fu M v2_ v3_ v4_ = some res → W p l e (headSpec (wsM y_Laws_moved b_Laws_moved 6 (some .int)) (rmD 2)).room s m ([.ref (b + 177), vI x1] : List Value).toArray below meth c H locs 0 0 (MQ below (QI b C n M res) ([.ref (b + 177), vI x1] : List Value).toArray s 0 0 (frb b)) (F0 m 15 ls []) := by
  intro fu
  induction fu with
  | zero => intro M v2_ hv2_ v3_ hv3_ v4_ hv4_ H locs ls hS hl hT; exact absurd hT (by simp [t_Laws_moved_L15])
  | succ fu ih =>
    intro M v2_ hv2_ v3_ hv3_ v4_ hv4_ H locs ls hS hl hT
    rw [t_Laws_moved_L15] at hT
    refine lv_iload F.hx F.hb d_Laws_moved_15 (lv_at hl 4 rfl) ?_
    refine r_iconst F.hx F.hb d_Laws_moved_17 ?_
    refine r_icmp_ge (tgt := 64) F.hx F.hb hv4_ (inr_c rfl) d_Laws_moved_18 (by decide) (fun c3 => ?_) (fun c3 => ?_)
    · replace hT := (if_pos c3).symm.trans hT
      refine lv_iload_n F.hx F.hb d_Laws_moved_64 rfl (lv_at hl 3 rfl) ?_
      refine lv_iload_n F.hx F.hb d_Laws_moved_65 rfl (lv_at hl 1 rfl) ?_
      refine r_icmp_eq (tgt := 71) F.hx F.hb hv3_ hx1 d_Laws_moved_66 (by decide) (fun c4 => ?_) (fun c4 => ?_)
      · replace hT := (if_pos c4).symm.trans hT
        refine lv_iinc (v := Int32.ofInt (w32 (v2_ + 1))) (lv' := [(2, vI (w32 (v2_ + 1))), (0, .ref (b + 177)), (1, vI x1), (3, vI v3_), (4, vI v4_)]) F.hx F.hb d_Laws_moved_71 hl (k := 2) rfl (q_of_add _ _) (Nat.le_of_ble_eq_true rfl) rfl (fun ls hl => ?_)
        refine lv_goto (tgt := 2) F.hx F.hb d_Laws_moved_74 (by decide) ?_
        exact hbk2 M (w32 (v2_ + 1)) (inr_w32 _) _ _ _ hS (lv_sub hl [1, 2, 0] rfl) hT
      · replace hT := (if_neg c4).symm.trans hT
        refine lv_iload_n F.hx F.hb d_Laws_moved_69 rfl (lv_at hl 3 rfl) ?_
        cases hT
        exact r_iret F hlk hr rfl hS hv3_ d_Laws_moved_70
    · replace hT := (if_neg c3).symm.trans hT
      refine lv_iload_n F.hx F.hb d_Laws_moved_21 rfl (lv_at hl 1 rfl) ?_
      refine r_iconst F.hx F.hb d_Laws_moved_22 ?_
      refine r_iconst F.hx F.hb d_Laws_moved_23 ?_
      refine lv_iload_n F.hx F.hb d_Laws_moved_24 rfl (lv_at hl 2 rfl) ?_
      refine r_imul F.hx F.hb d_Laws_moved_25 ?_
      refine r_ishl F.hx F.hb d_Laws_moved_26 ?_
      refine r_iconst F.hx F.hb d_Laws_moved_27 ?_
      refine r_ixor F.hx F.hb d_Laws_moved_28 ?_
      refine r_iand F.hx F.hb d_Laws_moved_29 ?_
      refine lv_iload F.hx F.hb d_Laws_moved_30 (lv_at hl 4 rfl) ?_
      refine r_iconst F.hx F.hb d_Laws_moved_32 ?_
      refine lv_iload_n F.hx F.hb d_Laws_moved_33 rfl (lv_at hl 2 rfl) ?_
      refine r_imul F.hx F.hb d_Laws_moved_34 ?_
      refine r_ishl F.hx F.hb d_Laws_moved_35 ?_
      refine r_ior F.hx F.hb d_Laws_moved_36 ?_
      refine lv_istore (lv' := [(5, vI (q_or (q_and x1 (q_xor (q_shl 3 (w32 (2 * v2_))) (-1))) (q_shl v4_ (w32 (2 * v2_))))), (0, .ref (b + 177)), (1, vI x1), (2, vI v2_), (3, vI v3_), (4, vI v4_)]) F.hx F.hb d_Laws_moved_37 hl (Nat.le_of_ble_eq_true rfl) rfl (fun ls hl => ?_)
      refine lv_aload_n F.hx F.hb d_Laws_moved_39 rfl (lv_at hl 1 rfl) ?_
      refine lv_iload_n F.hx F.hb d_Laws_moved_40 rfl (lv_at hl 3 rfl) ?_
      refine lv_iload F.hx F.hb d_Laws_moved_41 (lv_at hl 0 rfl) ?_
      obtain ⟨q5, hq5⟩ : ∃ q, q = (t_Laws_joyBy M v2_ (q_or (q_and x1 (q_xor (q_shl 3 (w32 (2 * v2_))) (-1))) (q_shl v4_ (w32 (2 * v2_))))) := ⟨_, rfl⟩
      replace hT := qlet_eq hT hq5
      refine r_backI F hS (r_runV (k := 177) (N := 9) (T := T4) (As := [vI v2_, vI (q_or (q_and x1 (q_xor (q_shl 3 (w32 (2 * v2_))) (-1))) (q_shl v4_ (w32 (2 * v2_))))]) F hS (show 177 < 191 by decide) (show shK 177 = 8 from rfl) rfl (c_Laws_joyBy l F.2.2.1 M v2_ (q_or (q_and x1 (q_xor (q_shl 3 (w32 (2 * v2_))) (-1))) (q_shl v4_ (w32 (2 * v2_)))) hv2_ (q_inr_toInt _) _ hq5.symm) gs_Laws_180 hd_Laws_joyBy ⟨Nat.le_of_ble_eq_true rfl, Nat.le_of_ble_eq_true rfl⟩ rfl hl.1 (Nat.le_of_ble_eq_true rfl) ⟨Nat.zero_le _, Nat.zero_le _⟩ rfl d_Laws_moved_43) (fun H locs hS h6 => ?_)
      refine lv_aload_n F.hx F.hb d_Laws_moved_46 rfl (lv_at hl 1 rfl) ?_
      refine lv_iload_n F.hx F.hb d_Laws_moved_47 rfl (lv_at hl 3 rfl) ?_
      refine lv_iload_n F.hx F.hb d_Laws_moved_48 rfl (lv_at hl 4 rfl) ?_
      obtain ⟨q7, hq7⟩ : ∃ q, q = (t_Laws_joyBy M v2_ v3_) := ⟨_, rfl⟩
      replace hT := qlet_eq hT hq7
      refine r_backI F hS (r_runV (k := 177) (N := 9) (T := T4) (As := [vI v2_, vI v3_]) F hS (show 177 < 191 by decide) (show shK 177 = 8 from rfl) rfl (c_Laws_joyBy l F.2.2.1 M v2_ v3_ hv2_ hv3_ _ hq7.symm) gs_Laws_180 hd_Laws_joyBy ⟨Nat.le_of_ble_eq_true rfl, Nat.le_of_ble_eq_true rfl⟩ rfl hl.1 (Nat.le_of_ble_eq_true rfl) ⟨Nat.zero_le _, Nat.zero_le _⟩ rfl d_Laws_moved_49) (fun H locs hS h8 => ?_)
      refine r_icmp_le (tgt := 58) F.hx F.hb h6 h8 d_Laws_moved_52 (by decide) (fun c9 => ?_) (fun c9 => ?_)
      · replace hT := (if_pos c9).symm.trans hT
        exact k_Laws_moved_L58 l hlo x1 hx1 F hlk hr bk2 hbk2 (fun a0_ a1_ a2_ a3_ => t_Laws_moved_L15 x1 bk2 fu a0_ a1_ a2_ a3_) ih M v2_ hv2_ v3_ hv3_ v4_ hv4_ _ _ _ hS (lv_sub hl [1, 2, 3, 4, 5] rfl) hT
      · replace hT := (if_neg c9).symm.trans hT
        refine lv_iload F.hx F.hb d_Laws_moved_55 (lv_at hl 0 rfl) ?_
        refine lv_istore_n (lv' := [(3, vI (q_or (q_and x1 (q_xor (q_shl 3 (w32 (2 * v2_))) (-1))) (q_shl v4_ (w32 (2 * v2_))))), (5, vI (q_or (q_and x1 (q_xor (q_shl 3 (w32 (2 * v2_))) (-1))) (q_shl v4_ (w32 (2 * v2_))))), (0, .ref (b + 177)), (1, vI x1), (2, vI v2_), (4, vI v4_)]) F.hx F.hb d_Laws_moved_57 rfl hl (Nat.le_of_ble_eq_true rfl) rfl (fun ls hl => ?_)
        exact k_Laws_moved_L58 l hlo x1 hx1 F hlk hr bk2 hbk2 (fun a0_ a1_ a2_ a3_ => t_Laws_moved_L15 x1 bk2 fu a0_ a1_ a2_ a3_) ih M v2_ hv2_ (q_or (q_and x1 (q_xor (q_shl 3 (w32 (2 * v2_))) (-1))) (q_shl v4_ (w32 (2 * v2_)))) (q_inr_toInt _) v4_ hv4_ _ _ _ hS (lv_sub hl [2, 3, 4, 0, 5] rfl) hT
set_option maxHeartbeats 4000000 in
set_option maxRecDepth 100000 in
theorem k_Laws_moved_L2 (l : Launch) {p : Program} {e : Env} {s : State} {m : MethodId} {below : List Frame} {meth : Method} {c : Code} {b n : Nat} {C : CT} (hlo : 191 ≤ n) (x1 : Int) (hx1 : InR x1) (F : Cx b p m c b_Laws_moved 6 s ([.ref (b + 177), vI x1] : List Value).toArray "WardFalls$Laws" C n 191) (hlk : meth.locks = false) (hr : meth.sig.returnType = some .int) {res : Int} : ∀ (fu : Nat) (M : Mem) (v2_ : Int) (hv2_ : InR v2_) (H : Heap) (locs : List Loc) (ls : Array Slot), St b C n M s H locs → lv_has ls 6 [(0, .ref (b + 177)), (1, vI x1), (2, vI v2_)] → t_Laws_moved_L2 x1 fu M v2_ = some res → W p l e (headSpec (wsM y_Laws_moved b_Laws_moved 6 (some .int)) (rmD 2)).room s m ([.ref (b + 177), vI x1] : List Value).toArray below meth c H locs 0 0 (MQ below (QI b C n M res) ([.ref (b + 177), vI x1] : List Value).toArray s 0 0 (frb b)) (F0 m 2 ls []) := by
  intro fu
  induction fu with
  | zero => intro M v2_ hv2_ H locs ls hS hl hT; exact absurd hT (by simp [t_Laws_moved_L2])
  | succ fu ih =>
    intro M v2_ hv2_ H locs ls hS hl hT
    rw [t_Laws_moved_L2] at hT
    refine lv_iload_n F.hx F.hb d_Laws_moved_2 rfl (lv_at hl 2 rfl) ?_
    refine lv_aload_n F.hx F.hb d_Laws_moved_3 rfl (lv_at hl 0 rfl) ?_
    refine r_get (v := vI (M.1 177 6)) (N := 9) (T := T4) (j := 6) F hS (show 177 < 191 by decide) (show shK 177 = 8 from rfl) (show shN 177 = 9 from rfl) rfl (Nat.le_of_ble_eq_true rfl) ing4 mw_444 (fv_int rfl) d_Laws_moved_4 ?_
    have i1 := hS.rng 177 6
    refine r_icmp_ge (tgt := 77) F.hx F.hb hv2_ i1 d_Laws_moved_7 (by decide) (fun c2 => ?_) (fun c2 => ?_)
    · replace hT := (if_pos c2).symm.trans hT
      refine lv_iload_n F.hx F.hb d_Laws_moved_77 rfl (lv_at hl 1 rfl) ?_
      cases hT
      exact r_iret F hlk hr rfl hS hx1 d_Laws_moved_78
    · replace hT := (if_neg c2).symm.trans hT
      refine lv_iload_n F.hx F.hb d_Laws_moved_10 rfl (lv_at hl 1 rfl) ?_
      refine lv_istore_n (lv' := [(3, vI x1), (0, .ref (b + 177)), (1, vI x1), (2, vI v2_)]) F.hx F.hb d_Laws_moved_11 rfl hl (Nat.le_of_ble_eq_true rfl) rfl (fun ls hl => ?_)
      refine r_iconst F.hx F.hb d_Laws_moved_12 ?_
      refine lv_istore (lv' := [(4, vI 0), (3, vI x1), (0, .ref (b + 177)), (1, vI x1), (2, vI v2_)]) F.hx F.hb d_Laws_moved_13 hl (Nat.le_of_ble_eq_true rfl) rfl (fun ls hl => ?_)
      exact k_Laws_moved_L15 l hlo x1 hx1 F hlk hr (fun a0_ a1_ => t_Laws_moved_L2 x1 fu a0_ a1_) ih FU M v2_ hv2_ x1 hx1 0 (inr_c rfl) _ _ _ hS (lv_sub hl [2, 3, 4, 1, 0] rfl) hT
set_option maxHeartbeats 4000000 in
set_option maxRecDepth 100000 in
theorem c_Laws_moved (l : Launch) {b n : Nat} {C : CT} (hlo : 191 ≤ n) (M : Mem) (x1 : Int) (hx1 : InR x1) (res : Int) (hT : t_Laws_moved M x1 = some res) : CM l b C n 2 y_Laws_moved b_Laws_moved 6 (some .int) [.ref (b + 177), vI x1] M (QI b C n M res) := by
  refine CM.of (lo := 191) (ow := "WardFalls$Laws") (by decide) rfl (Nat.le_of_ble_eq_true rfl) hlo (fun p e s m below meth c F hlk hr hS ls hl => ?_)
  have hl : lv_has ls 6 [(0, .ref (b + 177)), (1, vI x1)] := hl
  unfold t_Laws_moved at hT
  refine r_iconst F.hx F.hb d_Laws_moved_0 ?_
  refine lv_istore_n (lv' := [(2, vI 0), (0, .ref (b + 177)), (1, vI x1)]) F.hx F.hb d_Laws_moved_1 rfl hl (Nat.le_of_ble_eq_true rfl) rfl (fun ls hl => ?_)
  exact k_Laws_moved_L2 l hlo x1 hx1 F hlk hr FU M 0 (inr_c rfl) _ _ _ hS (lv_sub hl [1, 2, 0] rfl) hT
theorem d_Laws_isStay_0 : decode b_Laws_isStay 0 = .ok (.aload_n 0, 1) := dc_42 (by decide +kernel)
theorem d_Laws_isStay_1 : decode b_Laws_isStay 1 = .ok (.iload_n 1, 1) := dc_27 (by decide +kernel)
theorem d_Laws_isStay_2 : decode b_Laws_isStay 2 = .ok (.invokevirtual 177, 3) := dc_182 (by decide +kernel)
theorem d_Laws_isStay_5 : decode b_Laws_isStay 5 = .ok (.iload_n 1, 1) := dc_27 (by decide +kernel)
theorem d_Laws_isStay_6 : decode b_Laws_isStay 6 = .ok (.if_icmp .ne 7, 3) := dc_160 (by decide +kernel)
theorem d_Laws_isStay_9 : decode b_Laws_isStay 9 = .ok (.iconst 1, 1) := dc_4 (by decide +kernel)
theorem d_Laws_isStay_10 : decode b_Laws_isStay 10 = .ok (.goto 4, 3) := dc_167 (by decide +kernel)
theorem d_Laws_isStay_13 : decode b_Laws_isStay 13 = .ok (.iconst 0, 1) := dc_3 (by decide +kernel)
theorem d_Laws_isStay_14 : decode b_Laws_isStay 14 = .ok (.ireturn, 1) := dc_172 (by decide +kernel)
def t_Laws_isStay (M : Mem) (x1 : Int) : Option (Int) := (obind (t_Laws_moved M x1) fun q1 => (if q1 = x1 then (some 1) else (some 0)))
set_option maxHeartbeats 4000000 in
set_option maxRecDepth 100000 in
theorem c_Laws_isStay (l : Launch) {b n : Nat} {C : CT} (hlo : 191 ≤ n) (M : Mem) (x1 : Int) (hx1 : InR x1) (res : Int) (hT : t_Laws_isStay M x1 = some res) : CM l b C n 3 y_Laws_isStay b_Laws_isStay 2 (some .boolean) [.ref (b + 177), vI x1] M (QZ b C n M res) := by
  refine CM.of (lo := 191) (ow := "WardFalls$Laws") (by decide) rfl (Nat.le_of_ble_eq_true rfl) hlo (fun p e s m below meth c F hlk hr hS ls hl => ?_)
  have hl : lv_has ls 2 [(0, .ref (b + 177)), (1, vI x1)] := hl
  unfold t_Laws_isStay at hT
  refine lv_aload_n F.hx F.hb d_Laws_isStay_0 rfl (lv_at hl 0 rfl) ?_
  refine lv_iload_n F.hx F.hb d_Laws_isStay_1 rfl (lv_at hl 1 rfl) ?_
  obtain ⟨q1, hq1, hT⟩ := q_obind hT
  refine r_backI F hS (r_runV (k := 177) (N := 9) (T := T4) (As := [vI x1]) F hS (show 177 < 191 by decide) (show shK 177 = 8 from rfl) rfl (c_Laws_moved l F.2.2.1 M x1 hx1 _ hq1) gs_Laws_177 hd_Laws_moved ⟨Nat.le_of_ble_eq_true rfl, Nat.le_of_ble_eq_true rfl⟩ rfl hl.1 (Nat.le_of_ble_eq_true rfl) ⟨Nat.zero_le _, Nat.zero_le _⟩ rfl d_Laws_isStay_2) (fun H locs hS h2 => ?_)
  refine lv_iload_n F.hx F.hb d_Laws_isStay_5 rfl (lv_at hl 1 rfl) ?_
  refine r_icmp_ne (tgt := 13) F.hx F.hb h2 hx1 d_Laws_isStay_6 (by decide) (fun c3 => ?_) (fun c3 => ?_)
  · replace hT := (if_neg c3).symm.trans hT
    refine r_iconst F.hx F.hb d_Laws_isStay_13 ?_
    cases hT
    exact r_zret F hlk hr hS (Or.inl rfl) d_Laws_isStay_14
  · replace hT := (if_pos c3).symm.trans hT
    refine r_iconst F.hx F.hb d_Laws_isStay_9 ?_
    refine lv_goto (tgt := 14) F.hx F.hb d_Laws_isStay_10 (by decide) ?_
    cases hT
    exact r_zret F hlk hr hS (Or.inr rfl) d_Laws_isStay_14
theorem d_WF_stays_0 : decode b_WF_stays 0 = .ok (.aload_n 0, 1) := dc_42 (by decide +kernel)
theorem d_WF_stays_1 : decode b_WF_stays 1 = .ok (.getfield 83, 3) := dc_180 (by decide +kernel)
theorem d_WF_stays_4 : decode b_WF_stays 4 = .ok (.aload_n 0, 1) := dc_42 (by decide +kernel)
theorem d_WF_stays_5 : decode b_WF_stays 5 = .ok (.getfield 22, 3) := dc_180 (by decide +kernel)
theorem d_WF_stays_8 : decode b_WF_stays 8 = .ok (.aload_n 0, 1) := dc_42 (by decide +kernel)
theorem d_WF_stays_9 : decode b_WF_stays 9 = .ok (.getfield 46, 3) := dc_180 (by decide +kernel)
theorem d_WF_stays_12 : decode b_WF_stays 12 = .ok (.aload_n 0, 1) := dc_42 (by decide +kernel)
theorem d_WF_stays_13 : decode b_WF_stays 13 = .ok (.getfield 50, 3) := dc_180 (by decide +kernel)
theorem d_WF_stays_16 : decode b_WF_stays 16 = .ok (.aload_n 0, 1) := dc_42 (by decide +kernel)
theorem d_WF_stays_17 : decode b_WF_stays 17 = .ok (.getfield 59, 3) := dc_180 (by decide +kernel)
theorem d_WF_stays_20 : decode b_WF_stays 20 = .ok (.getfield 218, 3) := dc_180 (by decide +kernel)
theorem d_WF_stays_23 : decode b_WF_stays 23 = .ok (.invokevirtual 355, 3) := dc_182 (by decide +kernel)
theorem d_WF_stays_26 : decode b_WF_stays 26 = .ok (.iconst 0, 1) := dc_3 (by decide +kernel)
theorem d_WF_stays_27 : decode b_WF_stays 27 = .ok (.istore_n 1, 1) := dc_60 (by decide +kernel)
theorem d_WF_stays_28 : decode b_WF_stays 28 = .ok (.iconst 0, 1) := dc_3 (by decide +kernel)
theorem d_WF_stays_29 : decode b_WF_stays 29 = .ok (.istore_n 2, 1) := dc_61 (by decide +kernel)
theorem d_WF_stays_30 : decode b_WF_stays 30 = .ok (.iload_n 2, 1) := dc_28 (by decide +kernel)
theorem d_WF_stays_31 : decode b_WF_stays 31 = .ok (.aload_n 0, 1) := dc_42 (by decide +kernel)
theorem d_WF_stays_32 : decode b_WF_stays 32 = .ok (.getfield 83, 3) := dc_180 (by decide +kernel)
theorem d_WF_stays_35 : decode b_WF_stays 35 = .ok (.getfield 359, 3) := dc_180 (by decide +kernel)
theorem d_WF_stays_38 : decode b_WF_stays 38 = .ok (.if_icmp .ge 23, 3) := dc_162 (by decide +kernel)
theorem d_WF_stays_41 : decode b_WF_stays 41 = .ok (.aload_n 0, 1) := dc_42 (by decide +kernel)
theorem d_WF_stays_42 : decode b_WF_stays 42 = .ok (.getfield 83, 3) := dc_180 (by decide +kernel)
theorem d_WF_stays_45 : decode b_WF_stays 45 = .ok (.iload_n 2, 1) := dc_28 (by decide +kernel)
theorem d_WF_stays_46 : decode b_WF_stays 46 = .ok (.invokevirtual 362, 3) := dc_182 (by decide +kernel)
theorem d_WF_stays_49 : decode b_WF_stays 49 = .ok (.ifCond .eq 6, 3) := dc_153 (by decide +kernel)
theorem d_WF_stays_52 : decode b_WF_stays 52 = .ok (.iinc 1 1, 3) := dc_132 (by decide +kernel)
theorem d_WF_stays_55 : decode b_WF_stays 55 = .ok (.iinc 2 1, 3) := dc_132 (by decide +kernel)
theorem d_WF_stays_58 : decode b_WF_stays 58 = .ok (.goto (-28), 3) := dc_167 (by decide +kernel)
theorem d_WF_stays_61 : decode b_WF_stays 61 = .ok (.iload_n 1, 1) := dc_27 (by decide +kernel)
theorem d_WF_stays_62 : decode b_WF_stays 62 = .ok (.ireturn, 1) := dc_172 (by decide +kernel)
def t_WF_stays_L55  (bk30 : Mem → Int → Int → Option (Mem × Int)) (M : Mem) (v1_ : Int) (v2_ : Int) : Option (Mem × Int) := (bk30 M v1_ (w32 (v2_ + 1)))
def t_WF_stays_L30   : Nat → Mem → Int → Int → Option (Mem × Int)
  | 0, _, _, _ => none
  | fu + 1, M, v1_, v2_ => (if (M.1 177 7) ≤ v2_ then (some (M, v1_)) else (obind (t_Laws_isStay M v2_) fun q7 => (if q7 = 0 then (t_WF_stays_L55 (fun a0_ a1_ a2_ => t_WF_stays_L30 fu a0_ a1_ a2_) M v1_ v2_) else (t_WF_stays_L55 (fun a0_ a1_ a2_ => t_WF_stays_L30 fu a0_ a1_ a2_) M (w32 (v1_ + 1)) v2_))))
def t_WF_stays (M : Mem)  : Option (Mem × Int) := (obind (t_Laws_tryVotes M ((M.1 0 4).toNat) 47 52 (M.1 62 3)) fun q3 => (t_WF_stays_L30 FU q3 0 0))
set_option maxHeartbeats 4000000 in
set_option maxRecDepth 100000 in
theorem k_WF_stays_L55 (l : Launch) {p : Program} {e : Env} {s : State} {m : MethodId} {below : List Frame} {meth : Method} {c : Code} {b n : Nat} {C : CT} (hlo : 191 ≤ n)   (F : Cx b p m c b_WF_stays 3 s ([.ref (b + 0)] : List Value).toArray "WardFalls" C n 191) (hlk : meth.locks = false) (hr : meth.sig.returnType = some .int) {res : Mem × Int} (bk30 : Mem → Int → Int → Option (Mem × Int)) (hbk30 : ∀ (M : Mem) (v1_ : Int) (hv1_ : InR v1_) (v2_ : Int) (hv2_ : InR v2_) (H : Heap) (locs : List Loc) (ls : Array Slot), St b C n M s H locs → lv_has ls 3 [(0, .ref (b + 0)), (1, vI v1_), (2, vI v2_)] → bk30 M v1_ v2_ = some res → W p l e (headSpec (wsM y_WF_stays b_WF_stays 3 (some .int)) (rmD 7)).room s m ([.ref (b + 0)] : List Value).toArray below meth c H locs 0 0 (MQ below (QI b C n res.1 res.2) ([.ref (b + 0)] : List Value).toArray s 0 0 (frb b)) (F0 m 30 ls [])) (M : Mem) (v1_ : Int) (hv1_ : InR v1_) (v2_ : Int) (hv2_ : InR v2_) (H : Heap) (locs : List Loc) (ls : Array Slot) (hS : St b C n M s H locs) (hl : lv_has ls 3 [(0, .ref (b + 0)), (1, vI v1_), (2, vI v2_)]) (hT : t_WF_stays_L55 bk30 M v1_ v2_ = some res) : W p l e (headSpec (wsM y_WF_stays b_WF_stays 3 (some .int)) (rmD 7)).room s m ([.ref (b + 0)] : List Value).toArray below meth c H locs 0 0 (MQ below (QI b C n res.1 res.2) ([.ref (b + 0)] : List Value).toArray s 0 0 (frb b)) (F0 m 55 ls []) := by
  unfold t_WF_stays_L55 at hT
  refine lv_iinc (v := Int32.ofInt (w32 (v2_ + 1))) (lv' := [(2, vI (w32 (v2_ + 1))), (0, .ref (b + 0)), (1, vI v1_)]) F.hx F.hb d_WF_stays_55 hl (k := 2) rfl (q_of_add _ _) (Nat.le_of_ble_eq_true rfl) rfl (fun ls hl => ?_)
  refine lv_goto (tgt := 30) F.hx F.hb d_WF_stays_58 (by decide) ?_
  exact hbk30 M v1_ hv1_ (w32 (v2_ + 1)) (inr_w32 _) _ _ _ hS (lv_sub hl [1, 2, 0] rfl) hT
set_option maxHeartbeats 4000000 in
set_option maxRecDepth 100000 in
theorem k_WF_stays_L30 (l : Launch) {p : Program} {e : Env} {s : State} {m : MethodId} {below : List Frame} {meth : Method} {c : Code} {b n : Nat} {C : CT} (hlo : 191 ≤ n)   (F : Cx b p m c b_WF_stays 3 s ([.ref (b + 0)] : List Value).toArray "WardFalls" C n 191) (hlk : meth.locks = false) (hr : meth.sig.returnType = some .int) {res : Mem × Int} : ∀ (fu : Nat) (M : Mem) (v1_ : Int) (hv1_ : InR v1_) (v2_ : Int) (hv2_ : InR v2_) (H : Heap) (locs : List Loc) (ls : Array Slot), St b C n M s H locs → lv_has ls 3 [(0, .ref (b + 0)), (1, vI v1_), (2, vI v2_)] → t_WF_stays_L30 fu M v1_ v2_ = some res → W p l e (headSpec (wsM y_WF_stays b_WF_stays 3 (some .int)) (rmD 7)).room s m ([.ref (b + 0)] : List Value).toArray below meth c H locs 0 0 (MQ below (QI b C n res.1 res.2) ([.ref (b + 0)] : List Value).toArray s 0 0 (frb b)) (F0 m 30 ls []) := by
  intro fu
  induction fu with
  | zero => intro M v1_ hv1_ v2_ hv2_ H locs ls hS hl hT; exact absurd hT (by simp [t_WF_stays_L30])
  | succ fu ih =>
    intro M v1_ hv1_ v2_ hv2_ H locs ls hS hl hT
    rw [t_WF_stays_L30] at hT
    refine lv_iload_n F.hx F.hb d_WF_stays_30 rfl (lv_at hl 2 rfl) ?_
    refine lv_aload_n F.hx F.hb d_WF_stays_31 rfl (lv_at hl 0 rfl) ?_
    refine r_get (v := .ref (b + 177)) (N := 19) (T := T0) (j := 16) F hS (show 0 < 191 by decide) (show shK 0 = 4 from rfl) (show shN 0 = 19 from rfl) rfl (Nat.le_of_ble_eq_true rfl) ing0 mw_566 (fv_sg rfl rfl rfl) d_WF_stays_32 ?_
    refine r_get (v := vI (M.1 177 7)) (N := 9) (T := T4) (j := 7) F hS (show 177 < 191 by decide) (show shK 177 = 8 from rfl) (show shN 177 = 9 from rfl) rfl (Nat.le_of_ble_eq_true rfl) ing4 mw_446 (fv_int rfl) d_WF_stays_35 ?_
    have i5 := hS.rng 177 7
    refine r_icmp_ge (tgt := 61) F.hx F.hb hv2_ i5 d_WF_stays_38 (by decide) (fun c6 => ?_) (fun c6 => ?_)
    · replace hT := (if_pos c6).symm.trans hT
      refine lv_iload_n F.hx F.hb d_WF_stays_61 rfl (lv_at hl 1 rfl) ?_
      cases hT
      exact r_iret F hlk hr rfl hS hv1_ d_WF_stays_62
    · replace hT := (if_neg c6).symm.trans hT
      refine lv_aload_n F.hx F.hb d_WF_stays_41 rfl (lv_at hl 0 rfl) ?_
      refine r_get (v := .ref (b + 177)) (N := 19) (T := T0) (j := 16) F hS (show 0 < 191 by decide) (show shK 0 = 4 from rfl) (show shN 0 = 19 from rfl) rfl (Nat.le_of_ble_eq_true rfl) ing0 mw_566 (fv_sg rfl rfl rfl) d_WF_stays_42 ?_
      refine lv_iload_n F.hx F.hb d_WF_stays_45 rfl (lv_at hl 2 rfl) ?_
      obtain ⟨q7, hq7, hT⟩ := q_obind hT
      refine r_backZ F hS (r_runV (k := 177) (N := 9) (T := T4) (As := [vI v2_]) F hS (show 177 < 191 by decide) (show shK 177 = 8 from rfl) rfl (c_Laws_isStay l F.2.2.1 M v2_ hv2_ _ hq7) gs_WF_362 hd_Laws_isStay ⟨Nat.le_of_ble_eq_true rfl, Nat.le_of_ble_eq_true rfl⟩ rfl hl.1 (Nat.le_of_ble_eq_true rfl) ⟨Nat.zero_le _, Nat.zero_le _⟩ rfl d_WF_stays_46) (fun H locs hS h8 => ?_)
      refine r_if_eq (tgt := 55) F.hx F.hb (inr_z h8) d_WF_stays_49 (by decide) (fun c9 => ?_) (fun c9 => ?_)
      · replace hT := (if_pos c9).symm.trans hT
        exact k_WF_stays_L55 l hlo F hlk hr (fun a0_ a1_ a2_ => t_WF_stays_L30 fu a0_ a1_ a2_) ih M v1_ hv1_ v2_ hv2_ _ _ _ hS (lv_sub hl [0, 1, 2] rfl) hT
      · replace hT := (if_neg c9).symm.trans hT
        refine lv_iinc (v := Int32.ofInt (w32 (v1_ + 1))) (lv' := [(1, vI (w32 (v1_ + 1))), (0, .ref (b + 0)), (2, vI v2_)]) F.hx F.hb d_WF_stays_52 hl (k := 1) rfl (q_of_add _ _) (Nat.le_of_ble_eq_true rfl) rfl (fun ls hl => ?_)
        exact k_WF_stays_L55 l hlo F hlk hr (fun a0_ a1_ a2_ => t_WF_stays_L30 fu a0_ a1_ a2_) ih M (w32 (v1_ + 1)) (inr_w32 _) v2_ hv2_ _ _ _ hS (lv_sub hl [1, 0, 2] rfl) hT
set_option maxHeartbeats 4000000 in
set_option maxRecDepth 100000 in
theorem c_WF_stays (l : Launch) {b n : Nat} {C : CT} (hlo : 191 ≤ n) (M : Mem)   (res : Mem × Int) (hT : t_WF_stays M  = some res) : CM l b C n 7 y_WF_stays b_WF_stays 3 (some .int) [.ref (b + 0)] M (QI b C n res.1 res.2) := by
  refine CM.of (lo := 191) (ow := "WardFalls") (by decide) rfl (Nat.le_of_ble_eq_true rfl) hlo (fun p e s m below meth c F hlk hr hS ls hl => ?_)
  have hl : lv_has ls 3 [(0, .ref (b + 0))] := hl
  unfold t_WF_stays at hT
  refine lv_aload_n F.hx F.hb d_WF_stays_0 rfl (lv_at hl 0 rfl) ?_
  refine r_get (v := .ref (b + 177)) (N := 19) (T := T0) (j := 16) F hS (show 0 < 191 by decide) (show shK 0 = 4 from rfl) (show shN 0 = 19 from rfl) rfl (Nat.le_of_ble_eq_true rfl) ing0 mw_566 (fv_sg rfl rfl rfl) d_WF_stays_1 ?_
  refine lv_aload_n F.hx F.hb d_WF_stays_4 rfl (lv_at hl 0 rfl) ?_
  have h1 := St_town hS
  refine r_get (v := .ref (b + ((M.1 0 4).toNat))) (N := 19) (T := T0) (j := 4) F hS (show 0 < 191 by decide) (show shK 0 = 4 from rfl) (show shN 0 = 19 from rfl) rfl (Nat.le_of_ble_eq_true rfl) ing0 mw_554 (fv_town hS) d_WF_stays_5 ?_
  refine lv_aload_n F.hx F.hb d_WF_stays_8 rfl (lv_at hl 0 rfl) ?_
  refine r_get (v := .ref (b + 47)) (N := 19) (T := T0) (j := 8) F hS (show 0 < 191 by decide) (show shK 0 = 4 from rfl) (show shN 0 = 19 from rfl) rfl (Nat.le_of_ble_eq_true rfl) ing0 mw_558 (fv_sg rfl rfl rfl) d_WF_stays_9 ?_
  refine lv_aload_n F.hx F.hb d_WF_stays_12 rfl (lv_at hl 0 rfl) ?_
  refine r_get (v := .ref (b + 52)) (N := 19) (T := T0) (j := 9) F hS (show 0 < 191 by decide) (show shK 0 = 4 from rfl) (show shN 0 = 19 from rfl) rfl (Nat.le_of_ble_eq_true rfl) ing0 mw_559 (fv_sg rfl rfl rfl) d_WF_stays_13 ?_
  refine lv_aload_n F.hx F.hb d_WF_stays_16 rfl (lv_at hl 0 rfl) ?_
  refine r_get (v := .ref (b + 62)) (N := 19) (T := T0) (j := 11) F hS (show 0 < 191 by decide) (show shK 0 = 4 from rfl) (show shN 0 = 19 from rfl) rfl (Nat.le_of_ble_eq_true rfl) ing0 mw_561 (fv_sg rfl rfl rfl) d_WF_stays_17 ?_
  refine r_get (v := vI (M.1 62 3)) (N := 6) (T := T2) (j := 3) F hS (show 62 < 191 by decide) (show shK 62 = 6 from rfl) (show shN 62 = 6 from rfl) rfl (Nat.le_of_ble_eq_true rfl) ing2 mw_321 (fv_int rfl) d_WF_stays_20 ?_
  have i2 := hS.rng 62 3
  obtain ⟨q3, hq3, hT⟩ := q_obind hT
  refine r_backV F hS (r_runV (k := 177) (N := 9) (T := T4) (As := [.ref (b + ((M.1 0 4).toNat)), .ref (b + 47), .ref (b + 52), vI (M.1 62 3)]) F hS (show 177 < 191 by decide) (show shK 177 = 8 from rfl) rfl (c_Laws_tryVotes l F.2.2.1 M ((M.1 0 4).toNat) 47 52 (M.1 62 3) h1 (by decide : isScene 47) (by decide : isScene 52) i2 _ hq3) gs_WF_355 hd_Laws_tryVotes ⟨Nat.le_of_ble_eq_true rfl, Nat.le_of_ble_eq_true rfl⟩ rfl hl.1 (Nat.le_of_ble_eq_true rfl) ⟨Nat.zero_le _, Nat.zero_le _⟩ rfl d_WF_stays_23) (fun H locs hS => ?_)
  refine r_iconst F.hx F.hb d_WF_stays_26 ?_
  refine lv_istore_n (lv' := [(1, vI 0), (0, .ref (b + 0))]) F.hx F.hb d_WF_stays_27 rfl hl (Nat.le_of_ble_eq_true rfl) rfl (fun ls hl => ?_)
  refine r_iconst F.hx F.hb d_WF_stays_28 ?_
  refine lv_istore_n (lv' := [(2, vI 0), (1, vI 0), (0, .ref (b + 0))]) F.hx F.hb d_WF_stays_29 rfl hl (Nat.le_of_ble_eq_true rfl) rfl (fun ls hl => ?_)
  exact k_WF_stays_L30 l hlo F hlk hr FU q3 0 (inr_c rfl) 0 (inr_c rfl) _ _ _ hS (lv_sub hl [2, 1, 0] rfl) hT
theorem d_WF_stay_0 : decode b_WF_stay 0 = .ok (.iload_n 1, 1) := dc_27 (by decide +kernel)
theorem d_WF_stay_1 : decode b_WF_stay 1 = .ok (.ifCond .ge 5, 3) := dc_156 (by decide +kernel)
theorem d_WF_stay_4 : decode b_WF_stay 4 = .ok (.iconst (-1), 1) := dc_2 (by decide +kernel)
theorem d_WF_stay_5 : decode b_WF_stay 5 = .ok (.ireturn, 1) := dc_172 (by decide +kernel)
theorem d_WF_stay_6 : decode b_WF_stay 6 = .ok (.aload_n 0, 1) := dc_42 (by decide +kernel)
theorem d_WF_stay_7 : decode b_WF_stay 7 = .ok (.getfield 83, 3) := dc_180 (by decide +kernel)
theorem d_WF_stay_10 : decode b_WF_stay 10 = .ok (.aload_n 0, 1) := dc_42 (by decide +kernel)
theorem d_WF_stay_11 : decode b_WF_stay 11 = .ok (.getfield 22, 3) := dc_180 (by decide +kernel)
theorem d_WF_stay_14 : decode b_WF_stay 14 = .ok (.aload_n 0, 1) := dc_42 (by decide +kernel)
theorem d_WF_stay_15 : decode b_WF_stay 15 = .ok (.getfield 46, 3) := dc_180 (by decide +kernel)
theorem d_WF_stay_18 : decode b_WF_stay 18 = .ok (.aload_n 0, 1) := dc_42 (by decide +kernel)
theorem d_WF_stay_19 : decode b_WF_stay 19 = .ok (.getfield 50, 3) := dc_180 (by decide +kernel)
theorem d_WF_stay_22 : decode b_WF_stay 22 = .ok (.aload_n 0, 1) := dc_42 (by decide +kernel)
theorem d_WF_stay_23 : decode b_WF_stay 23 = .ok (.getfield 59, 3) := dc_180 (by decide +kernel)
theorem d_WF_stay_26 : decode b_WF_stay 26 = .ok (.getfield 218, 3) := dc_180 (by decide +kernel)
theorem d_WF_stay_29 : decode b_WF_stay 29 = .ok (.invokevirtual 355, 3) := dc_182 (by decide +kernel)
theorem d_WF_stay_32 : decode b_WF_stay 32 = .ok (.iload_n 1, 1) := dc_27 (by decide +kernel)
theorem d_WF_stay_33 : decode b_WF_stay 33 = .ok (.istore_n 2, 1) := dc_61 (by decide +kernel)
theorem d_WF_stay_34 : decode b_WF_stay 34 = .ok (.iconst 0, 1) := dc_3 (by decide +kernel)
theorem d_WF_stay_35 : decode b_WF_stay 35 = .ok (.istore_n 3, 1) := dc_62 (by decide +kernel)
theorem d_WF_stay_36 : decode b_WF_stay 36 = .ok (.iload_n 3, 1) := dc_29 (by decide +kernel)
theorem d_WF_stay_37 : decode b_WF_stay 37 = .ok (.aload_n 0, 1) := dc_42 (by decide +kernel)
theorem d_WF_stay_38 : decode b_WF_stay 38 = .ok (.getfield 83, 3) := dc_180 (by decide +kernel)
theorem d_WF_stay_41 : decode b_WF_stay 41 = .ok (.getfield 359, 3) := dc_180 (by decide +kernel)
theorem d_WF_stay_44 : decode b_WF_stay 44 = .ok (.if_icmp .ge 29, 3) := dc_162 (by decide +kernel)
theorem d_WF_stay_47 : decode b_WF_stay 47 = .ok (.aload_n 0, 1) := dc_42 (by decide +kernel)
theorem d_WF_stay_48 : decode b_WF_stay 48 = .ok (.getfield 83, 3) := dc_180 (by decide +kernel)
theorem d_WF_stay_51 : decode b_WF_stay 51 = .ok (.iload_n 3, 1) := dc_29 (by decide +kernel)
theorem d_WF_stay_52 : decode b_WF_stay 52 = .ok (.invokevirtual 362, 3) := dc_182 (by decide +kernel)
theorem d_WF_stay_55 : decode b_WF_stay 55 = .ok (.ifCond .eq 12, 3) := dc_153 (by decide +kernel)
theorem d_WF_stay_58 : decode b_WF_stay 58 = .ok (.iload_n 2, 1) := dc_28 (by decide +kernel)
theorem d_WF_stay_59 : decode b_WF_stay 59 = .ok (.ifCond .ne 5, 3) := dc_154 (by decide +kernel)
theorem d_WF_stay_62 : decode b_WF_stay 62 = .ok (.iload_n 3, 1) := dc_29 (by decide +kernel)
theorem d_WF_stay_63 : decode b_WF_stay 63 = .ok (.ireturn, 1) := dc_172 (by decide +kernel)
theorem d_WF_stay_64 : decode b_WF_stay 64 = .ok (.iinc 2 (-1), 3) := dc_132 (by decide +kernel)
theorem d_WF_stay_67 : decode b_WF_stay 67 = .ok (.iinc 3 1, 3) := dc_132 (by decide +kernel)
theorem d_WF_stay_70 : decode b_WF_stay 70 = .ok (.goto (-34), 3) := dc_167 (by decide +kernel)
theorem d_WF_stay_73 : decode b_WF_stay 73 = .ok (.bipush (-2), 2) := dc_16 (by decide +kernel)
theorem d_WF_stay_75 : decode b_WF_stay 75 = .ok (.ireturn, 1) := dc_172 (by decide +kernel)
def t_WF_stay_L67 (x1 : Int) (bk36 : Mem → Int → Int → Option (Mem × Int)) (M : Mem) (v1_ : Int) (v2_ : Int) : Option (Mem × Int) := (bk36 M v1_ (w32 (v2_ + 1)))
def t_WF_stay_L36 (x1 : Int)  : Nat → Mem → Int → Int → Option (Mem × Int)
  | 0, _, _, _ => none
  | fu + 1, M, v1_, v2_ => (if (M.1 177 7) ≤ v2_ then (some (M, (-2))) else (obind (t_Laws_isStay M v2_) fun q8 => (if q8 = 0 then (t_WF_stay_L67 x1 (fun a0_ a1_ a2_ => t_WF_stay_L36 x1 fu a0_ a1_ a2_) M v1_ v2_) else (if v1_ = 0 then (some (M, v2_)) else (t_WF_stay_L67 x1 (fun a0_ a1_ a2_ => t_WF_stay_L36 x1 fu a0_ a1_ a2_) M (w32 (v1_ + (-1))) v2_)))))
def t_WF_stay (M : Mem) (x1 : Int) : Option (Mem × Int) := (if 0 ≤ x1 then (obind (t_Laws_tryVotes M ((M.1 0 4).toNat) 47 52 (M.1 62 3)) fun q4 => (t_WF_stay_L36 x1 FU q4 x1 0)) else (some (M, (-1))))
set_option maxHeartbeats 4000000 in
set_option maxRecDepth 100000 in
theorem k_WF_stay_L67 (l : Launch) {p : Program} {e : Env} {s : State} {m : MethodId} {below : List Frame} {meth : Method} {c : Code} {b n : Nat} {C : CT} (hlo : 191 ≤ n) (x1 : Int) (hx1 : InR x1) (F : Cx b p m c b_WF_stay 4 s ([.ref (b + 0), vI x1] : List Value).toArray "WardFalls" C n 191) (hlk : meth.locks = false) (hr : meth.sig.returnType = some .int) {res : Mem × Int} (bk36 : Mem → Int → Int → Option (Mem × Int)) (hbk36 : ∀ (M : Mem) (v1_ : Int) (hv1_ : InR v1_) (v2_ : Int) (hv2_ : InR v2_) (H : Heap) (locs : List Loc) (ls : Array Slot), St b C n M s H locs → lv_has ls 4 [(0, .ref (b + 0)), (2, vI v1_), (3, vI v2_)] → bk36 M v1_ v2_ = some res → W p l e (headSpec (wsM y_WF_stay b_WF_stay 4 (some .int)) (rmD 7)).room s m ([.ref (b + 0), vI x1] : List Value).toArray below meth c H locs 0 0 (MQ below (QI b C n res.1 res.2) ([.ref (b + 0), vI x1] : List Value).toArray s 0 0 (frb b)) (F0 m 36 ls [])) (M : Mem) (v1_ : Int) (hv1_ : InR v1_) (v2_ : Int) (hv2_ : InR v2_) (H : Heap) (locs : List Loc) (ls : Array Slot) (hS : St b C n M s H locs) (hl : lv_has ls 4 [(0, .ref (b + 0)), (2, vI v1_), (3, vI v2_)]) (hT : t_WF_stay_L67 x1 bk36 M v1_ v2_ = some res) : W p l e (headSpec (wsM y_WF_stay b_WF_stay 4 (some .int)) (rmD 7)).room s m ([.ref (b + 0), vI x1] : List Value).toArray below meth c H locs 0 0 (MQ below (QI b C n res.1 res.2) ([.ref (b + 0), vI x1] : List Value).toArray s 0 0 (frb b)) (F0 m 67 ls []) := by
  unfold t_WF_stay_L67 at hT
  refine lv_iinc (v := Int32.ofInt (w32 (v2_ + 1))) (lv' := [(3, vI (w32 (v2_ + 1))), (0, .ref (b + 0)), (2, vI v1_)]) F.hx F.hb d_WF_stay_67 hl (k := 2) rfl (q_of_add _ _) (Nat.le_of_ble_eq_true rfl) rfl (fun ls hl => ?_)
  refine lv_goto (tgt := 36) F.hx F.hb d_WF_stay_70 (by decide) ?_
  exact hbk36 M v1_ hv1_ (w32 (v2_ + 1)) (inr_w32 _) _ _ _ hS (lv_sub hl [1, 2, 0] rfl) hT
set_option maxHeartbeats 4000000 in
set_option maxRecDepth 100000 in
theorem k_WF_stay_L36 (l : Launch) {p : Program} {e : Env} {s : State} {m : MethodId} {below : List Frame} {meth : Method} {c : Code} {b n : Nat} {C : CT} (hlo : 191 ≤ n) (x1 : Int) (hx1 : InR x1) (F : Cx b p m c b_WF_stay 4 s ([.ref (b + 0), vI x1] : List Value).toArray "WardFalls" C n 191) (hlk : meth.locks = false) (hr : meth.sig.returnType = some .int) {res : Mem × Int} : ∀ (fu : Nat) (M : Mem) (v1_ : Int) (hv1_ : InR v1_) (v2_ : Int) (hv2_ : InR v2_) (H : Heap) (locs : List Loc) (ls : Array Slot), St b C n M s H locs → lv_has ls 4 [(0, .ref (b + 0)), (2, vI v1_), (3, vI v2_)] → t_WF_stay_L36 x1 fu M v1_ v2_ = some res → W p l e (headSpec (wsM y_WF_stay b_WF_stay 4 (some .int)) (rmD 7)).room s m ([.ref (b + 0), vI x1] : List Value).toArray below meth c H locs 0 0 (MQ below (QI b C n res.1 res.2) ([.ref (b + 0), vI x1] : List Value).toArray s 0 0 (frb b)) (F0 m 36 ls []) := by
  intro fu
  induction fu with
  | zero => intro M v1_ hv1_ v2_ hv2_ H locs ls hS hl hT; exact absurd hT (by simp [t_WF_stay_L36])
  | succ fu ih =>
    intro M v1_ hv1_ v2_ hv2_ H locs ls hS hl hT
    rw [t_WF_stay_L36] at hT
    refine lv_iload_n F.hx F.hb d_WF_stay_36 rfl (lv_at hl 2 rfl) ?_
    refine lv_aload_n F.hx F.hb d_WF_stay_37 rfl (lv_at hl 0 rfl) ?_
    refine r_get (v := .ref (b + 177)) (N := 19) (T := T0) (j := 16) F hS (show 0 < 191 by decide) (show shK 0 = 4 from rfl) (show shN 0 = 19 from rfl) rfl (Nat.le_of_ble_eq_true rfl) ing0 mw_566 (fv_sg rfl rfl rfl) d_WF_stay_38 ?_
    refine r_get (v := vI (M.1 177 7)) (N := 9) (T := T4) (j := 7) F hS (show 177 < 191 by decide) (show shK 177 = 8 from rfl) (show shN 177 = 9 from rfl) rfl (Nat.le_of_ble_eq_true rfl) ing4 mw_446 (fv_int rfl) d_WF_stay_41 ?_
    have i6 := hS.rng 177 7
    refine r_icmp_ge (tgt := 73) F.hx F.hb hv2_ i6 d_WF_stay_44 (by decide) (fun c7 => ?_) (fun c7 => ?_)
    · replace hT := (if_pos c7).symm.trans hT
      refine r_bipush F.hx F.hb d_WF_stay_73 rfl ?_
      cases hT
      exact r_iret F hlk hr rfl hS (inr_c rfl) d_WF_stay_75
    · replace hT := (if_neg c7).symm.trans hT
      refine lv_aload_n F.hx F.hb d_WF_stay_47 rfl (lv_at hl 0 rfl) ?_
      refine r_get (v := .ref (b + 177)) (N := 19) (T := T0) (j := 16) F hS (show 0 < 191 by decide) (show shK 0 = 4 from rfl) (show shN 0 = 19 from rfl) rfl (Nat.le_of_ble_eq_true rfl) ing0 mw_566 (fv_sg rfl rfl rfl) d_WF_stay_48 ?_
      refine lv_iload_n F.hx F.hb d_WF_stay_51 rfl (lv_at hl 2 rfl) ?_
      obtain ⟨q8, hq8, hT⟩ := q_obind hT
      refine r_backZ F hS (r_runV (k := 177) (N := 9) (T := T4) (As := [vI v2_]) F hS (show 177 < 191 by decide) (show shK 177 = 8 from rfl) rfl (c_Laws_isStay l F.2.2.1 M v2_ hv2_ _ hq8) gs_WF_362 hd_Laws_isStay ⟨Nat.le_of_ble_eq_true rfl, Nat.le_of_ble_eq_true rfl⟩ rfl hl.1 (Nat.le_of_ble_eq_true rfl) ⟨Nat.zero_le _, Nat.zero_le _⟩ rfl d_WF_stay_52) (fun H locs hS h9 => ?_)
      refine r_if_eq (tgt := 67) F.hx F.hb (inr_z h9) d_WF_stay_55 (by decide) (fun c10 => ?_) (fun c10 => ?_)
      · replace hT := (if_pos c10).symm.trans hT
        exact k_WF_stay_L67 l hlo x1 hx1 F hlk hr (fun a0_ a1_ a2_ => t_WF_stay_L36 x1 fu a0_ a1_ a2_) ih M v1_ hv1_ v2_ hv2_ _ _ _ hS (lv_sub hl [0, 1, 2] rfl) hT
      · replace hT := (if_neg c10).symm.trans hT
        refine lv_iload_n F.hx F.hb d_WF_stay_58 rfl (lv_at hl 1 rfl) ?_
        refine r_if_ne (tgt := 64) F.hx F.hb hv1_ d_WF_stay_59 (by decide) (fun c11 => ?_) (fun c11 => ?_)
        · replace hT := (if_neg c11).symm.trans hT
          refine lv_iinc (v := Int32.ofInt (w32 (v1_ + (-1)))) (lv' := [(2, vI (w32 (v1_ + (-1)))), (0, .ref (b + 0)), (3, vI v2_)]) F.hx F.hb d_WF_stay_64 hl (k := 1) rfl (q_of_add _ _) (Nat.le_of_ble_eq_true rfl) rfl (fun ls hl => ?_)
          exact k_WF_stay_L67 l hlo x1 hx1 F hlk hr (fun a0_ a1_ a2_ => t_WF_stay_L36 x1 fu a0_ a1_ a2_) ih M (w32 (v1_ + (-1))) (inr_w32 _) v2_ hv2_ _ _ _ hS (lv_sub hl [1, 0, 2] rfl) hT
        · replace hT := (if_pos c11).symm.trans hT
          refine lv_iload_n F.hx F.hb d_WF_stay_62 rfl (lv_at hl 2 rfl) ?_
          cases hT
          exact r_iret F hlk hr rfl hS hv2_ d_WF_stay_63
set_option maxHeartbeats 4000000 in
set_option maxRecDepth 100000 in
theorem c_WF_stay (l : Launch) {b n : Nat} {C : CT} (hlo : 191 ≤ n) (M : Mem) (x1 : Int) (hx1 : InR x1) (res : Mem × Int) (hT : t_WF_stay M x1 = some res) : CM l b C n 7 y_WF_stay b_WF_stay 4 (some .int) [.ref (b + 0), vI x1] M (QI b C n res.1 res.2) := by
  refine CM.of (lo := 191) (ow := "WardFalls") (by decide) rfl (Nat.le_of_ble_eq_true rfl) hlo (fun p e s m below meth c F hlk hr hS ls hl => ?_)
  have hl : lv_has ls 4 [(0, .ref (b + 0)), (1, vI x1)] := hl
  unfold t_WF_stay at hT
  refine lv_iload_n F.hx F.hb d_WF_stay_0 rfl (lv_at hl 1 rfl) ?_
  refine r_if_ge (tgt := 6) F.hx F.hb hx1 d_WF_stay_1 (by decide) (fun c1 => ?_) (fun c1 => ?_)
  · replace hT := (if_pos c1).symm.trans hT
    refine lv_aload_n F.hx F.hb d_WF_stay_6 rfl (lv_at hl 0 rfl) ?_
    refine r_get (v := .ref (b + 177)) (N := 19) (T := T0) (j := 16) F hS (show 0 < 191 by decide) (show shK 0 = 4 from rfl) (show shN 0 = 19 from rfl) rfl (Nat.le_of_ble_eq_true rfl) ing0 mw_566 (fv_sg rfl rfl rfl) d_WF_stay_7 ?_
    refine lv_aload_n F.hx F.hb d_WF_stay_10 rfl (lv_at hl 0 rfl) ?_
    have h2 := St_town hS
    refine r_get (v := .ref (b + ((M.1 0 4).toNat))) (N := 19) (T := T0) (j := 4) F hS (show 0 < 191 by decide) (show shK 0 = 4 from rfl) (show shN 0 = 19 from rfl) rfl (Nat.le_of_ble_eq_true rfl) ing0 mw_554 (fv_town hS) d_WF_stay_11 ?_
    refine lv_aload_n F.hx F.hb d_WF_stay_14 rfl (lv_at hl 0 rfl) ?_
    refine r_get (v := .ref (b + 47)) (N := 19) (T := T0) (j := 8) F hS (show 0 < 191 by decide) (show shK 0 = 4 from rfl) (show shN 0 = 19 from rfl) rfl (Nat.le_of_ble_eq_true rfl) ing0 mw_558 (fv_sg rfl rfl rfl) d_WF_stay_15 ?_
    refine lv_aload_n F.hx F.hb d_WF_stay_18 rfl (lv_at hl 0 rfl) ?_
    refine r_get (v := .ref (b + 52)) (N := 19) (T := T0) (j := 9) F hS (show 0 < 191 by decide) (show shK 0 = 4 from rfl) (show shN 0 = 19 from rfl) rfl (Nat.le_of_ble_eq_true rfl) ing0 mw_559 (fv_sg rfl rfl rfl) d_WF_stay_19 ?_
    refine lv_aload_n F.hx F.hb d_WF_stay_22 rfl (lv_at hl 0 rfl) ?_
    refine r_get (v := .ref (b + 62)) (N := 19) (T := T0) (j := 11) F hS (show 0 < 191 by decide) (show shK 0 = 4 from rfl) (show shN 0 = 19 from rfl) rfl (Nat.le_of_ble_eq_true rfl) ing0 mw_561 (fv_sg rfl rfl rfl) d_WF_stay_23 ?_
    refine r_get (v := vI (M.1 62 3)) (N := 6) (T := T2) (j := 3) F hS (show 62 < 191 by decide) (show shK 62 = 6 from rfl) (show shN 62 = 6 from rfl) rfl (Nat.le_of_ble_eq_true rfl) ing2 mw_321 (fv_int rfl) d_WF_stay_26 ?_
    have i3 := hS.rng 62 3
    obtain ⟨q4, hq4, hT⟩ := q_obind hT
    refine r_backV F hS (r_runV (k := 177) (N := 9) (T := T4) (As := [.ref (b + ((M.1 0 4).toNat)), .ref (b + 47), .ref (b + 52), vI (M.1 62 3)]) F hS (show 177 < 191 by decide) (show shK 177 = 8 from rfl) rfl (c_Laws_tryVotes l F.2.2.1 M ((M.1 0 4).toNat) 47 52 (M.1 62 3) h2 (by decide : isScene 47) (by decide : isScene 52) i3 _ hq4) gs_WF_355 hd_Laws_tryVotes ⟨Nat.le_of_ble_eq_true rfl, Nat.le_of_ble_eq_true rfl⟩ rfl hl.1 (Nat.le_of_ble_eq_true rfl) ⟨Nat.zero_le _, Nat.zero_le _⟩ rfl d_WF_stay_29) (fun H locs hS => ?_)
    refine lv_iload_n F.hx F.hb d_WF_stay_32 rfl (lv_at hl 1 rfl) ?_
    refine lv_istore_n (lv' := [(2, vI x1), (0, .ref (b + 0)), (1, vI x1)]) F.hx F.hb d_WF_stay_33 rfl hl (Nat.le_of_ble_eq_true rfl) rfl (fun ls hl => ?_)
    refine r_iconst F.hx F.hb d_WF_stay_34 ?_
    refine lv_istore_n (lv' := [(3, vI 0), (2, vI x1), (0, .ref (b + 0)), (1, vI x1)]) F.hx F.hb d_WF_stay_35 rfl hl (Nat.le_of_ble_eq_true rfl) rfl (fun ls hl => ?_)
    exact k_WF_stay_L36 l hlo x1 hx1 F hlk hr FU q4 x1 hx1 0 (inr_c rfl) _ _ _ hS (lv_sub hl [2, 1, 0] rfl) hT
  · replace hT := (if_neg c1).symm.trans hT
    refine r_iconst F.hx F.hb d_WF_stay_4 ?_
    cases hT
    exact r_iret F hlk hr rfl hS (inr_c rfl) d_WF_stay_5
theorem d_WF_treatySum_0 : decode b_WF_treatySum 0 = .ok (.iconst 0, 1) := dc_3 (by decide +kernel)
theorem d_WF_treatySum_1 : decode b_WF_treatySum 1 = .ok (.istore_n 2, 1) := dc_61 (by decide +kernel)
theorem d_WF_treatySum_2 : decode b_WF_treatySum 2 = .ok (.iconst 0, 1) := dc_3 (by decide +kernel)
theorem d_WF_treatySum_3 : decode b_WF_treatySum 3 = .ok (.istore_n 3, 1) := dc_62 (by decide +kernel)
theorem d_WF_treatySum_4 : decode b_WF_treatySum 4 = .ok (.iload_n 3, 1) := dc_29 (by decide +kernel)
theorem d_WF_treatySum_5 : decode b_WF_treatySum 5 = .ok (.aload_n 0, 1) := dc_42 (by decide +kernel)
theorem d_WF_treatySum_6 : decode b_WF_treatySum 6 = .ok (.getfield 22, 3) := dc_180 (by decide +kernel)
theorem d_WF_treatySum_9 : decode b_WF_treatySum 9 = .ok (.getfield 137, 3) := dc_180 (by decide +kernel)
theorem d_WF_treatySum_12 : decode b_WF_treatySum 12 = .ok (.if_icmp .ge 52, 3) := dc_162 (by decide +kernel)
theorem d_WF_treatySum_15 : decode b_WF_treatySum 15 = .ok (.aload_n 0, 1) := dc_42 (by decide +kernel)
theorem d_WF_treatySum_16 : decode b_WF_treatySum 16 = .ok (.getfield 83, 3) := dc_180 (by decide +kernel)
theorem d_WF_treatySum_19 : decode b_WF_treatySum 19 = .ok (.iload_n 3, 1) := dc_29 (by decide +kernel)
theorem d_WF_treatySum_20 : decode b_WF_treatySum 20 = .ok (.iload_n 1, 1) := dc_27 (by decide +kernel)
theorem d_WF_treatySum_21 : decode b_WF_treatySum 21 = .ok (.invokevirtual 445, 3) := dc_182 (by decide +kernel)
theorem d_WF_treatySum_24 : decode b_WF_treatySum 24 = .ok (.istore 4, 2) := dc_54 (by decide +kernel)
theorem d_WF_treatySum_26 : decode b_WF_treatySum 26 = .ok (.iload 4, 2) := dc_21 (by decide +kernel)
theorem d_WF_treatySum_28 : decode b_WF_treatySum 28 = .ok (.aload_n 0, 1) := dc_42 (by decide +kernel)
theorem d_WF_treatySum_29 : decode b_WF_treatySum 29 = .ok (.getfield 83, 3) := dc_180 (by decide +kernel)
theorem d_WF_treatySum_32 : decode b_WF_treatySum 32 = .ok (.aload_n 0, 1) := dc_42 (by decide +kernel)
theorem d_WF_treatySum_33 : decode b_WF_treatySum 33 = .ok (.getfield 22, 3) := dc_180 (by decide +kernel)
theorem d_WF_treatySum_36 : decode b_WF_treatySum 36 = .ok (.iload_n 3, 1) := dc_29 (by decide +kernel)
theorem d_WF_treatySum_37 : decode b_WF_treatySum 37 = .ok (.aload_n 0, 1) := dc_42 (by decide +kernel)
theorem d_WF_treatySum_38 : decode b_WF_treatySum 38 = .ok (.getfield 59, 3) := dc_180 (by decide +kernel)
theorem d_WF_treatySum_41 : decode b_WF_treatySum 41 = .ok (.getfield 218, 3) := dc_180 (by decide +kernel)
theorem d_WF_treatySum_44 : decode b_WF_treatySum 44 = .ok (.invokevirtual 221, 3) := dc_182 (by decide +kernel)
theorem d_WF_treatySum_47 : decode b_WF_treatySum 47 = .ok (.if_icmp .ge 6, 3) := dc_162 (by decide +kernel)
theorem d_WF_treatySum_50 : decode b_WF_treatySum 50 = .ok (.bipush (-2), 2) := dc_16 (by decide +kernel)
theorem d_WF_treatySum_52 : decode b_WF_treatySum 52 = .ok (.ireturn, 1) := dc_172 (by decide +kernel)
theorem d_WF_treatySum_53 : decode b_WF_treatySum 53 = .ok (.iload_n 2, 1) := dc_28 (by decide +kernel)
theorem d_WF_treatySum_54 : decode b_WF_treatySum 54 = .ok (.iload 4, 2) := dc_21 (by decide +kernel)
theorem d_WF_treatySum_56 : decode b_WF_treatySum 56 = .ok (.iadd, 1) := dc_96 (by decide +kernel)
theorem d_WF_treatySum_57 : decode b_WF_treatySum 57 = .ok (.istore_n 2, 1) := dc_61 (by decide +kernel)
theorem d_WF_treatySum_58 : decode b_WF_treatySum 58 = .ok (.iinc 3 1, 3) := dc_132 (by decide +kernel)
theorem d_WF_treatySum_61 : decode b_WF_treatySum 61 = .ok (.goto (-57), 3) := dc_167 (by decide +kernel)
theorem d_WF_treatySum_64 : decode b_WF_treatySum 64 = .ok (.iload_n 2, 1) := dc_28 (by decide +kernel)
theorem d_WF_treatySum_65 : decode b_WF_treatySum 65 = .ok (.ireturn, 1) := dc_172 (by decide +kernel)
def t_WF_treatySum_L4 (x1 : Int)  : Nat → Mem → Int → Int → Option (Mem × Int)
  | 0, _, _, _ => none
  | fu + 1, M, v2_, v3_ => (if (M.1 ((M.1 0 4).toNat) 14) ≤ v3_ then (some (M, v2_)) else (qlet (t_Laws_joyBy M v3_ x1) fun q4 => (obind (t_Laws_joyOf M ((M.1 0 4).toNat) v3_ (M.1 62 3)) fun q8 => (if (q8.2) ≤ q4 then (t_WF_treatySum_L4 x1 fu (q8.1) (w32 (v2_ + q4)) (w32 (v3_ + 1))) else (some ((q8.1), (-2)))))))
def t_WF_treatySum (M : Mem) (x1 : Int) : Option (Mem × Int) := (t_WF_treatySum_L4 x1 FU M 0 0)
set_option maxHeartbeats 4000000 in
set_option maxRecDepth 100000 in
theorem k_WF_treatySum_L4 (l : Launch) {p : Program} {e : Env} {s : State} {m : MethodId} {below : List Frame} {meth : Method} {c : Code} {b n : Nat} {C : CT} (hlo : 191 ≤ n) (x1 : Int) (hx1 : InR x1) (F : Cx b p m c b_WF_treatySum 5 s ([.ref (b + 0), vI x1] : List Value).toArray "WardFalls" C n 191) (hlk : meth.locks = false) (hr : meth.sig.returnType = some .int) {res : Mem × Int} : ∀ (fu : Nat) (M : Mem) (v2_ : Int) (hv2_ : InR v2_) (v3_ : Int) (hv3_ : InR v3_) (H : Heap) (locs : List Loc) (ls : Array Slot), St b C n M s H locs → lv_has ls 5 [(0, .ref (b + 0)), (1, vI x1), (2, vI v2_), (3, vI v3_)] → t_WF_treatySum_L4 x1 fu M v2_ v3_ = some res → W p l e (headSpec (wsM y_WF_treatySum b_WF_treatySum 5 (some .int)) (rmD 6)).room s m ([.ref (b + 0), vI x1] : List Value).toArray below meth c H locs 0 0 (MQ below (QI b C n res.1 res.2) ([.ref (b + 0), vI x1] : List Value).toArray s 0 0 (frb b)) (F0 m 4 ls []) := by
  intro fu
  induction fu with
  | zero => intro M v2_ hv2_ v3_ hv3_ H locs ls hS hl hT; exact absurd hT (by simp [t_WF_treatySum_L4])
  | succ fu ih =>
    intro M v2_ hv2_ v3_ hv3_ H locs ls hS hl hT
    rw [t_WF_treatySum_L4] at hT
    refine lv_iload_n F.hx F.hb d_WF_treatySum_4 rfl (lv_at hl 3 rfl) ?_
    refine lv_aload_n F.hx F.hb d_WF_treatySum_5 rfl (lv_at hl 0 rfl) ?_
    have h1 := St_town hS
    refine r_get (v := .ref (b + ((M.1 0 4).toNat))) (N := 19) (T := T0) (j := 4) F hS (show 0 < 191 by decide) (show shK 0 = 4 from rfl) (show shN 0 = 19 from rfl) rfl (Nat.le_of_ble_eq_true rfl) ing0 mw_554 (fv_town hS) d_WF_treatySum_6 ?_
    refine r_get (v := vI (M.1 ((M.1 0 4).toNat) 14)) (N := 20) (T := T11) (j := 14) F hS (Town_lt h1) (Town_sh h1) (Town_N h1) rfl (Nat.le_of_ble_eq_true rfl) ing11 mw_137 (fv_int rfl) d_WF_treatySum_9 ?_
    have i2 := hS.rng ((M.1 0 4).toNat) 14
    refine r_icmp_ge (tgt := 64) F.hx F.hb hv3_ i2 d_WF_treatySum_12 (by decide) (fun c3 => ?_) (fun c3 => ?_)
    · replace hT := (if_pos c3).symm.trans hT
      refine lv_iload_n F.hx F.hb d_WF_treatySum_64 rfl (lv_at hl 2 rfl) ?_
      cases hT
      exact r_iret F hlk hr rfl hS hv2_ d_WF_treatySum_65
    · replace hT := (if_neg c3).symm.trans hT
      refine lv_aload_n F.hx F.hb d_WF_treatySum_15 rfl (lv_at hl 0 rfl) ?_
      refine r_get (v := .ref (b + 177)) (N := 19) (T := T0) (j := 16) F hS (show 0 < 191 by decide) (show shK 0 = 4 from rfl) (show shN 0 = 19 from rfl) rfl (Nat.le_of_ble_eq_true rfl) ing0 mw_566 (fv_sg rfl rfl rfl) d_WF_treatySum_16 ?_
      refine lv_iload_n F.hx F.hb d_WF_treatySum_19 rfl (lv_at hl 3 rfl) ?_
      refine lv_iload_n F.hx F.hb d_WF_treatySum_20 rfl (lv_at hl 1 rfl) ?_
      obtain ⟨q4, hq4⟩ : ∃ q, q = (t_Laws_joyBy M v3_ x1) := ⟨_, rfl⟩
      replace hT := qlet_eq hT hq4
      refine r_backI F hS (r_runV (k := 177) (N := 9) (T := T4) (As := [vI v3_, vI x1]) F hS (show 177 < 191 by decide) (show shK 177 = 8 from rfl) rfl (c_Laws_joyBy l F.2.2.1 M v3_ x1 hv3_ hx1 _ hq4.symm) gs_WF_445 hd_Laws_joyBy ⟨Nat.le_of_ble_eq_true rfl, Nat.le_of_ble_eq_true rfl⟩ rfl hl.1 (Nat.le_of_ble_eq_true rfl) ⟨Nat.zero_le _, Nat.zero_le _⟩ rfl d_WF_treatySum_21) (fun H locs hS h5 => ?_)
      refine lv_istore (lv' := [(4, vI q4), (0, .ref (b + 0)), (1, vI x1), (2, vI v2_), (3, vI v3_)]) F.hx F.hb d_WF_treatySum_24 hl (Nat.le_of_ble_eq_true rfl) rfl (fun ls hl => ?_)
      refine lv_iload F.hx F.hb d_WF_treatySum_26 (lv_at hl 0 rfl) ?_
      refine lv_aload_n F.hx F.hb d_WF_treatySum_28 rfl (lv_at hl 1 rfl) ?_
      refine r_get (v := .ref (b + 177)) (N := 19) (T := T0) (j := 16) F hS (show 0 < 191 by decide) (show shK 0 = 4 from rfl) (show shN 0 = 19 from rfl) rfl (Nat.le_of_ble_eq_true rfl) ing0 mw_566 (fv_sg rfl rfl rfl) d_WF_treatySum_29 ?_
      refine lv_aload_n F.hx F.hb d_WF_treatySum_32 rfl (lv_at hl 1 rfl) ?_
      have h6 := St_town hS
      refine r_get (v := .ref (b + ((M.1 0 4).toNat))) (N := 19) (T := T0) (j := 4) F hS (show 0 < 191 by decide) (show shK 0 = 4 from rfl) (show shN 0 = 19 from rfl) rfl (Nat.le_of_ble_eq_true rfl) ing0 mw_554 (fv_town hS) d_WF_treatySum_33 ?_
      refine lv_iload_n F.hx F.hb d_WF_treatySum_36 rfl (lv_at hl 4 rfl) ?_
      refine lv_aload_n F.hx F.hb d_WF_treatySum_37 rfl (lv_at hl 1 rfl) ?_
      refine r_get (v := .ref (b + 62)) (N := 19) (T := T0) (j := 11) F hS (show 0 < 191 by decide) (show shK 0 = 4 from rfl) (show shN 0 = 19 from rfl) rfl (Nat.le_of_ble_eq_true rfl) ing0 mw_561 (fv_sg rfl rfl rfl) d_WF_treatySum_38 ?_
      refine r_get (v := vI (M.1 62 3)) (N := 6) (T := T2) (j := 3) F hS (show 62 < 191 by decide) (show shK 62 = 6 from rfl) (show shN 62 = 6 from rfl) rfl (Nat.le_of_ble_eq_true rfl) ing2 mw_321 (fv_int rfl) d_WF_treatySum_41 ?_
      have i7 := hS.rng 62 3
      obtain ⟨q8, hq8, hT⟩ := q_obind hT
      refine r_backI F hS (r_runV (k := 177) (N := 9) (T := T4) (As := [.ref (b + ((M.1 0 4).toNat)), vI v3_, vI (M.1 62 3)]) F hS (show 177 < 191 by decide) (show shK 177 = 8 from rfl) rfl (c_Laws_joyOf l F.2.2.1 M ((M.1 0 4).toNat) v3_ (M.1 62 3) h6 hv3_ i7 _ hq8) gs_WF_221 hd_Laws_joyOf ⟨Nat.le_of_ble_eq_true rfl, Nat.le_of_ble_eq_true rfl⟩ rfl hl.1 (Nat.le_of_ble_eq_true rfl) ⟨Nat.zero_le _, Nat.zero_le _⟩ rfl d_WF_treatySum_44) (fun H locs hS h9 => ?_)
      refine r_icmp_ge (tgt := 53) F.hx F.hb h5 h9 d_WF_treatySum_47 (by decide) (fun c10 => ?_) (fun c10 => ?_)
      · replace hT := (if_pos c10).symm.trans hT
        refine lv_iload_n F.hx F.hb d_WF_treatySum_53 rfl (lv_at hl 3 rfl) ?_
        refine lv_iload F.hx F.hb d_WF_treatySum_54 (lv_at hl 0 rfl) ?_
        refine r_iadd F.hx F.hb d_WF_treatySum_56 ?_
        refine lv_istore_n (lv' := [(2, vI (w32 (v2_ + q4))), (4, vI q4), (0, .ref (b + 0)), (1, vI x1), (3, vI v3_)]) F.hx F.hb d_WF_treatySum_57 rfl hl (Nat.le_of_ble_eq_true rfl) rfl (fun ls hl => ?_)
        refine lv_iinc (v := Int32.ofInt (w32 (v3_ + 1))) (lv' := [(3, vI (w32 (v3_ + 1))), (2, vI (w32 (v2_ + q4))), (4, vI q4), (0, .ref (b + 0)), (1, vI x1)]) F.hx F.hb d_WF_treatySum_58 hl (k := 4) rfl (q_of_add _ _) (Nat.le_of_ble_eq_true rfl) rfl (fun ls hl => ?_)
        refine lv_goto (tgt := 4) F.hx F.hb d_WF_treatySum_61 (by decide) ?_
        exact ih (q8.1) (w32 (v2_ + q4)) (inr_w32 _) (w32 (v3_ + 1)) (inr_w32 _) _ _ _ hS (lv_sub hl [3, 4, 1, 0] rfl) hT
      · replace hT := (if_neg c10).symm.trans hT
        refine r_bipush F.hx F.hb d_WF_treatySum_50 rfl ?_
        cases hT
        exact r_iret F hlk hr rfl hS (inr_c rfl) d_WF_treatySum_52
set_option maxHeartbeats 4000000 in
set_option maxRecDepth 100000 in
theorem c_WF_treatySum (l : Launch) {b n : Nat} {C : CT} (hlo : 191 ≤ n) (M : Mem) (x1 : Int) (hx1 : InR x1) (res : Mem × Int) (hT : t_WF_treatySum M x1 = some res) : CM l b C n 6 y_WF_treatySum b_WF_treatySum 5 (some .int) [.ref (b + 0), vI x1] M (QI b C n res.1 res.2) := by
  refine CM.of (lo := 191) (ow := "WardFalls") (by decide) rfl (Nat.le_of_ble_eq_true rfl) hlo (fun p e s m below meth c F hlk hr hS ls hl => ?_)
  have hl : lv_has ls 5 [(0, .ref (b + 0)), (1, vI x1)] := hl
  unfold t_WF_treatySum at hT
  refine r_iconst F.hx F.hb d_WF_treatySum_0 ?_
  refine lv_istore_n (lv' := [(2, vI 0), (0, .ref (b + 0)), (1, vI x1)]) F.hx F.hb d_WF_treatySum_1 rfl hl (Nat.le_of_ble_eq_true rfl) rfl (fun ls hl => ?_)
  refine r_iconst F.hx F.hb d_WF_treatySum_2 ?_
  refine lv_istore_n (lv' := [(3, vI 0), (2, vI 0), (0, .ref (b + 0)), (1, vI x1)]) F.hx F.hb d_WF_treatySum_3 rfl hl (Nat.le_of_ble_eq_true rfl) rfl (fun ls hl => ?_)
  exact k_WF_treatySum_L4 l hlo x1 hx1 F hlk hr FU M 0 (inr_c rfl) 0 (inr_c rfl) _ _ _ hS (lv_sub hl [2, 3, 1, 0] rfl) hT
theorem d_WF_treaty_0 : decode b_WF_treaty 0 = .ok (.iload_n 1, 1) := dc_27 (by decide +kernel)
theorem d_WF_treaty_1 : decode b_WF_treaty 1 = .ok (.ifCond .lt 8, 3) := dc_155 (by decide +kernel)
theorem d_WF_treaty_4 : decode b_WF_treaty 4 = .ok (.iload_n 1, 1) := dc_27 (by decide +kernel)
theorem d_WF_treaty_5 : decode b_WF_treaty 5 = .ok (.iconst 1, 1) := dc_4 (by decide +kernel)
theorem d_WF_treaty_6 : decode b_WF_treaty 6 = .ok (.if_icmp .le 5, 3) := dc_164 (by decide +kernel)
theorem d_WF_treaty_9 : decode b_WF_treaty 9 = .ok (.iconst (-1), 1) := dc_2 (by decide +kernel)
theorem d_WF_treaty_10 : decode b_WF_treaty 10 = .ok (.ireturn, 1) := dc_172 (by decide +kernel)
theorem d_WF_treaty_11 : decode b_WF_treaty 11 = .ok (.aload_n 0, 1) := dc_42 (by decide +kernel)
theorem d_WF_treaty_12 : decode b_WF_treaty 12 = .ok (.getfield 83, 3) := dc_180 (by decide +kernel)
theorem d_WF_treaty_15 : decode b_WF_treaty 15 = .ok (.aload_n 0, 1) := dc_42 (by decide +kernel)
theorem d_WF_treaty_16 : decode b_WF_treaty 16 = .ok (.getfield 22, 3) := dc_180 (by decide +kernel)
theorem d_WF_treaty_19 : decode b_WF_treaty 19 = .ok (.aload_n 0, 1) := dc_42 (by decide +kernel)
theorem d_WF_treaty_20 : decode b_WF_treaty 20 = .ok (.getfield 46, 3) := dc_180 (by decide +kernel)
theorem d_WF_treaty_23 : decode b_WF_treaty 23 = .ok (.aload_n 0, 1) := dc_42 (by decide +kernel)
theorem d_WF_treaty_24 : decode b_WF_treaty 24 = .ok (.getfield 50, 3) := dc_180 (by decide +kernel)
theorem d_WF_treaty_27 : decode b_WF_treaty 27 = .ok (.aload_n 0, 1) := dc_42 (by decide +kernel)
theorem d_WF_treaty_28 : decode b_WF_treaty 28 = .ok (.getfield 59, 3) := dc_180 (by decide +kernel)
theorem d_WF_treaty_31 : decode b_WF_treaty 31 = .ok (.getfield 218, 3) := dc_180 (by decide +kernel)
theorem d_WF_treaty_34 : decode b_WF_treaty 34 = .ok (.invokevirtual 355, 3) := dc_182 (by decide +kernel)
theorem d_WF_treaty_37 : decode b_WF_treaty 37 = .ok (.aload_n 0, 1) := dc_42 (by decide +kernel)
theorem d_WF_treaty_38 : decode b_WF_treaty 38 = .ok (.getfield 83, 3) := dc_180 (by decide +kernel)
theorem d_WF_treaty_41 : decode b_WF_treaty 41 = .ok (.aload_n 0, 1) := dc_42 (by decide +kernel)
theorem d_WF_treaty_42 : decode b_WF_treaty 42 = .ok (.getfield 22, 3) := dc_180 (by decide +kernel)
theorem d_WF_treaty_45 : decode b_WF_treaty 45 = .ok (.aload_n 0, 1) := dc_42 (by decide +kernel)
theorem d_WF_treaty_46 : decode b_WF_treaty 46 = .ok (.getfield 46, 3) := dc_180 (by decide +kernel)
theorem d_WF_treaty_49 : decode b_WF_treaty 49 = .ok (.invokevirtual 214, 3) := dc_182 (by decide +kernel)
theorem d_WF_treaty_52 : decode b_WF_treaty 52 = .ok (.bipush (-2), 2) := dc_16 (by decide +kernel)
theorem d_WF_treaty_54 : decode b_WF_treaty 54 = .ok (.istore_n 2, 1) := dc_61 (by decide +kernel)
theorem d_WF_treaty_55 : decode b_WF_treaty 55 = .ok (.bipush (-2), 2) := dc_16 (by decide +kernel)
theorem d_WF_treaty_57 : decode b_WF_treaty 57 = .ok (.istore_n 3, 1) := dc_62 (by decide +kernel)
theorem d_WF_treaty_58 : decode b_WF_treaty 58 = .ok (.iconst 0, 1) := dc_3 (by decide +kernel)
theorem d_WF_treaty_59 : decode b_WF_treaty 59 = .ok (.istore 4, 2) := dc_54 (by decide +kernel)
theorem d_WF_treaty_61 : decode b_WF_treaty 61 = .ok (.iload 4, 2) := dc_21 (by decide +kernel)
theorem d_WF_treaty_63 : decode b_WF_treaty 63 = .ok (.aload_n 0, 1) := dc_42 (by decide +kernel)
theorem d_WF_treaty_64 : decode b_WF_treaty 64 = .ok (.getfield 83, 3) := dc_180 (by decide +kernel)
theorem d_WF_treaty_67 : decode b_WF_treaty 67 = .ok (.getfield 359, 3) := dc_180 (by decide +kernel)
theorem d_WF_treaty_70 : decode b_WF_treaty 70 = .ok (.if_icmp .ge 46, 3) := dc_162 (by decide +kernel)
theorem d_WF_treaty_73 : decode b_WF_treaty 73 = .ok (.aload_n 0, 1) := dc_42 (by decide +kernel)
theorem d_WF_treaty_74 : decode b_WF_treaty 74 = .ok (.getfield 83, 3) := dc_180 (by decide +kernel)
theorem d_WF_treaty_77 : decode b_WF_treaty 77 = .ok (.iload 4, 2) := dc_21 (by decide +kernel)
theorem d_WF_treaty_79 : decode b_WF_treaty 79 = .ok (.invokevirtual 362, 3) := dc_182 (by decide +kernel)
theorem d_WF_treaty_82 : decode b_WF_treaty 82 = .ok (.ifCond .eq 12, 3) := dc_153 (by decide +kernel)
theorem d_WF_treaty_85 : decode b_WF_treaty 85 = .ok (.aload_n 0, 1) := dc_42 (by decide +kernel)
theorem d_WF_treaty_86 : decode b_WF_treaty 86 = .ok (.iload 4, 2) := dc_21 (by decide +kernel)
theorem d_WF_treaty_88 : decode b_WF_treaty 88 = .ok (.invokevirtual 365, 3) := dc_182 (by decide +kernel)
theorem d_WF_treaty_91 : decode b_WF_treaty 91 = .ok (.goto 5, 3) := dc_167 (by decide +kernel)
theorem d_WF_treaty_94 : decode b_WF_treaty 94 = .ok (.bipush (-2), 2) := dc_16 (by decide +kernel)
theorem d_WF_treaty_96 : decode b_WF_treaty 96 = .ok (.istore 5, 2) := dc_54 (by decide +kernel)
theorem d_WF_treaty_98 : decode b_WF_treaty 98 = .ok (.iload 5, 2) := dc_21 (by decide +kernel)
theorem d_WF_treaty_100 : decode b_WF_treaty 100 = .ok (.iload_n 3, 1) := dc_29 (by decide +kernel)
theorem d_WF_treaty_101 : decode b_WF_treaty 101 = .ok (.if_icmp .le 9, 3) := dc_164 (by decide +kernel)
theorem d_WF_treaty_104 : decode b_WF_treaty 104 = .ok (.iload 4, 2) := dc_21 (by decide +kernel)
theorem d_WF_treaty_106 : decode b_WF_treaty 106 = .ok (.istore_n 2, 1) := dc_61 (by decide +kernel)
theorem d_WF_treaty_107 : decode b_WF_treaty 107 = .ok (.iload 5, 2) := dc_21 (by decide +kernel)
theorem d_WF_treaty_109 : decode b_WF_treaty 109 = .ok (.istore_n 3, 1) := dc_62 (by decide +kernel)
theorem d_WF_treaty_110 : decode b_WF_treaty 110 = .ok (.iinc 4 1, 3) := dc_132 (by decide +kernel)
theorem d_WF_treaty_113 : decode b_WF_treaty 113 = .ok (.goto (-52), 3) := dc_167 (by decide +kernel)
theorem d_WF_treaty_116 : decode b_WF_treaty 116 = .ok (.iload_n 1, 1) := dc_27 (by decide +kernel)
theorem d_WF_treaty_117 : decode b_WF_treaty 117 = .ok (.ifCond .ne 7, 3) := dc_154 (by decide +kernel)
theorem d_WF_treaty_120 : decode b_WF_treaty 120 = .ok (.iload_n 3, 1) := dc_29 (by decide +kernel)
theorem d_WF_treaty_121 : decode b_WF_treaty 121 = .ok (.goto 4, 3) := dc_167 (by decide +kernel)
theorem d_WF_treaty_124 : decode b_WF_treaty 124 = .ok (.iload_n 2, 1) := dc_28 (by decide +kernel)
theorem d_WF_treaty_125 : decode b_WF_treaty 125 = .ok (.ireturn, 1) := dc_172 (by decide +kernel)
def t_WF_treaty_L110 (x1 : Int) (bk61 : Mem → Int → Int → Int → Option (Mem × Int)) (M : Mem) (v2_ : Int) (v3_ : Int) (v4_ : Int) : Option (Mem × Int) := (bk61 M v2_ v3_ (w32 (v4_ + 1)))
def t_WF_treaty_L96 (x1 : Int) (bk61 : Mem → Int → Int → Int → Option (Mem × Int)) (M : Mem) (v2_ : Int) (v3_ : Int) (v4_ : Int) (v5_ : Int) : Option (Mem × Int) := (if v5_ ≤ v3_ then (t_WF_treaty_L110 x1 bk61 M v2_ v3_ v4_) else (t_WF_treaty_L110 x1 bk61 M v4_ v5_ v4_))
def t_WF_treaty_L61 (x1 : Int)  : Nat → Mem → Int → Int → Int → Option (Mem × Int)
  | 0, _, _, _, _ => none
  | fu + 1, M, v2_, v3_, v4_ => (if (M.1 177 7) ≤ v4_ then (if x1 = 0 then (some (M, v3_)) else (some (M, v2_))) else (obind (t_Laws_isStay M v4_) fun q13 => (if q13 = 0 then (t_WF_treaty_L96 x1 (fun a0_ a1_ a2_ a3_ => t_WF_treaty_L61 x1 fu a0_ a1_ a2_ a3_) M v2_ v3_ v4_ (-2)) else (obind (t_WF_treatySum M v4_) fun q16 => (t_WF_treaty_L96 x1 (fun a0_ a1_ a2_ a3_ => t_WF_treaty_L61 x1 fu a0_ a1_ a2_ a3_) (q16.1) v2_ v3_ v4_ (q16.2))))))
def t_WF_treaty (M : Mem) (x1 : Int) : Option (Mem × Int) := (if x1 < 0 then (some (M, (-1))) else (if x1 ≤ 1 then (obind (t_Laws_tryVotes M ((M.1 0 4).toNat) 47 52 (M.1 62 3)) fun q5 => (obind (t_Laws_measure q5 ((q5.1 0 4).toNat) 47) fun q8 => (t_WF_treaty_L61 x1 FU q8 (-2) (-2) 0))) else (some (M, (-1)))))
set_option maxHeartbeats 4000000 in
set_option maxRecDepth 100000 in
theorem k_WF_treaty_L110 (l : Launch) {p : Program} {e : Env} {s : State} {m : MethodId} {below : List Frame} {meth : Method} {c : Code} {b n : Nat} {C : CT} (hlo : 191 ≤ n) (x1 : Int) (hx1 : InR x1) (F : Cx b p m c b_WF_treaty 6 s ([.ref (b + 0), vI x1] : List Value).toArray "WardFalls" C n 191) (hlk : meth.locks = false) (hr : meth.sig.returnType = some .int) {res : Mem × Int} (bk61 : Mem → Int → Int → Int → Option (Mem × Int)) (hbk61 : ∀ (M : Mem) (v2_ : Int) (hv2_ : InR v2_) (v3_ : Int) (hv3_ : InR v3_) (v4_ : Int) (hv4_ : InR v4_) (H : Heap) (locs : List Loc) (ls : Array Slot), St b C n M s H locs → lv_has ls 6 [(0, .ref (b + 0)), (1, vI x1), (2, vI v2_), (3, vI v3_), (4, vI v4_)] → bk61 M v2_ v3_ v4_ = some res → W p l e (headSpec (wsM y_WF_treaty b_WF_treaty 6 (some .int)) (rmD 7)).room s m ([.ref (b + 0), vI x1] : List Value).toArray below meth c H locs 0 0 (MQ below (QI b C n res.1 res.2) ([.ref (b + 0), vI x1] : List Value).toArray s 0 0 (frb b)) (F0 m 61 ls [])) (M : Mem) (v2_ : Int) (hv2_ : InR v2_) (v3_ : Int) (hv3_ : InR v3_) (v4_ : Int) (hv4_ : InR v4_) (H : Heap) (locs : List Loc) (ls : Array Slot) (hS : St b C n M s H locs) (hl : lv_has ls 6 [(0, .ref (b + 0)), (1, vI x1), (2, vI v2_), (3, vI v3_), (4, vI v4_)]) (hT : t_WF_treaty_L110 x1 bk61 M v2_ v3_ v4_ = some res) : W p l e (headSpec (wsM y_WF_treaty b_WF_treaty 6 (some .int)) (rmD 7)).room s m ([.ref (b + 0), vI x1] : List Value).toArray below meth c H locs 0 0 (MQ below (QI b C n res.1 res.2) ([.ref (b + 0), vI x1] : List Value).toArray s 0 0 (frb b)) (F0 m 110 ls []) := by
  unfold t_WF_treaty_L110 at hT
  refine lv_iinc (v := Int32.ofInt (w32 (v4_ + 1))) (lv' := [(4, vI (w32 (v4_ + 1))), (0, .ref (b + 0)), (1, vI x1), (2, vI v2_), (3, vI v3_)]) F.hx F.hb d_WF_treaty_110 hl (k := 4) rfl (q_of_add _ _) (Nat.le_of_ble_eq_true rfl) rfl (fun ls hl => ?_)
  refine lv_goto (tgt := 61) F.hx F.hb d_WF_treaty_113 (by decide) ?_
  exact hbk61 M v2_ hv2_ v3_ hv3_ (w32 (v4_ + 1)) (inr_w32 _) _ _ _ hS (lv_sub hl [1, 2, 3, 4, 0] rfl) hT
set_option maxHeartbeats 4000000 in
set_option maxRecDepth 100000 in
theorem k_WF_treaty_L96 (l : Launch) {p : Program} {e : Env} {s : State} {m : MethodId} {below : List Frame} {meth : Method} {c : Code} {b n : Nat} {C : CT} (hlo : 191 ≤ n) (x1 : Int) (hx1 : InR x1) (F : Cx b p m c b_WF_treaty 6 s ([.ref (b + 0), vI x1] : List Value).toArray "WardFalls" C n 191) (hlk : meth.locks = false) (hr : meth.sig.returnType = some .int) {res : Mem × Int} (bk61 : Mem → Int → Int → Int → Option (Mem × Int)) (hbk61 : ∀ (M : Mem) (v2_ : Int) (hv2_ : InR v2_) (v3_ : Int) (hv3_ : InR v3_) (v4_ : Int) (hv4_ : InR v4_) (H : Heap) (locs : List Loc) (ls : Array Slot), St b C n M s H locs → lv_has ls 6 [(0, .ref (b + 0)), (1, vI x1), (2, vI v2_), (3, vI v3_), (4, vI v4_)] → bk61 M v2_ v3_ v4_ = some res → W p l e (headSpec (wsM y_WF_treaty b_WF_treaty 6 (some .int)) (rmD 7)).room s m ([.ref (b + 0), vI x1] : List Value).toArray below meth c H locs 0 0 (MQ below (QI b C n res.1 res.2) ([.ref (b + 0), vI x1] : List Value).toArray s 0 0 (frb b)) (F0 m 61 ls [])) (M : Mem) (v2_ : Int) (hv2_ : InR v2_) (v3_ : Int) (hv3_ : InR v3_) (v4_ : Int) (hv4_ : InR v4_) (v5_ : Int) (hv5_ : InR v5_) (H : Heap) (locs : List Loc) (ls : Array Slot) (hS : St b C n M s H locs) (hl : lv_has ls 6 [(0, .ref (b + 0)), (1, vI x1), (2, vI v2_), (3, vI v3_), (4, vI v4_)]) (hT : t_WF_treaty_L96 x1 bk61 M v2_ v3_ v4_ v5_ = some res) : W p l e (headSpec (wsM y_WF_treaty b_WF_treaty 6 (some .int)) (rmD 7)).room s m ([.ref (b + 0), vI x1] : List Value).toArray below meth c H locs 0 0 (MQ below (QI b C n res.1 res.2) ([.ref (b + 0), vI x1] : List Value).toArray s 0 0 (frb b)) (F0 m 96 ls [vI v5_]) := by
  unfold t_WF_treaty_L96 at hT
  refine lv_istore (lv' := [(5, vI v5_), (0, .ref (b + 0)), (1, vI x1), (2, vI v2_), (3, vI v3_), (4, vI v4_)]) F.hx F.hb d_WF_treaty_96 hl (Nat.le_of_ble_eq_true rfl) rfl (fun ls hl => ?_)
  refine lv_iload F.hx F.hb d_WF_treaty_98 (lv_at hl 0 rfl) ?_
  refine lv_iload_n F.hx F.hb d_WF_treaty_100 rfl (lv_at hl 4 rfl) ?_
  refine r_icmp_le (tgt := 110) F.hx F.hb hv5_ hv3_ d_WF_treaty_101 (by decide) (fun c18 => ?_) (fun c18 => ?_)
  · replace hT := (if_pos c18).symm.trans hT
    exact k_WF_treaty_L110 l hlo x1 hx1 F hlk hr bk61 hbk61 M v2_ hv2_ v3_ hv3_ v4_ hv4_ _ _ _ hS (lv_sub hl [1, 2, 3, 4, 5] rfl) hT
  · replace hT := (if_neg c18).symm.trans hT
    refine lv_iload F.hx F.hb d_WF_treaty_104 (lv_at hl 5 rfl) ?_
    refine lv_istore_n (lv' := [(2, vI v4_), (5, vI v5_), (0, .ref (b + 0)), (1, vI x1), (3, vI v3_), (4, vI v4_)]) F.hx F.hb d_WF_treaty_106 rfl hl (Nat.le_of_ble_eq_true rfl) rfl (fun ls hl => ?_)
    refine lv_iload F.hx F.hb d_WF_treaty_107 (lv_at hl 1 rfl) ?_
    refine lv_istore_n (lv' := [(3, vI v5_), (2, vI v4_), (5, vI v5_), (0, .ref (b + 0)), (1, vI x1), (4, vI v4_)]) F.hx F.hb d_WF_treaty_109 rfl hl (Nat.le_of_ble_eq_true rfl) rfl (fun ls hl => ?_)
    exact k_WF_treaty_L110 l hlo x1 hx1 F hlk hr bk61 hbk61 M v4_ hv4_ v5_ hv5_ v4_ hv4_ _ _ _ hS (lv_sub hl [3, 4, 1, 0, 5] rfl) hT
set_option maxHeartbeats 4000000 in
set_option maxRecDepth 100000 in
theorem k_WF_treaty_L61 (l : Launch) {p : Program} {e : Env} {s : State} {m : MethodId} {below : List Frame} {meth : Method} {c : Code} {b n : Nat} {C : CT} (hlo : 191 ≤ n) (x1 : Int) (hx1 : InR x1) (F : Cx b p m c b_WF_treaty 6 s ([.ref (b + 0), vI x1] : List Value).toArray "WardFalls" C n 191) (hlk : meth.locks = false) (hr : meth.sig.returnType = some .int) {res : Mem × Int} : ∀ (fu : Nat) (M : Mem) (v2_ : Int) (hv2_ : InR v2_) (v3_ : Int) (hv3_ : InR v3_) (v4_ : Int) (hv4_ : InR v4_) (H : Heap) (locs : List Loc) (ls : Array Slot), St b C n M s H locs → lv_has ls 6 [(0, .ref (b + 0)), (1, vI x1), (2, vI v2_), (3, vI v3_), (4, vI v4_)] → t_WF_treaty_L61 x1 fu M v2_ v3_ v4_ = some res → W p l e (headSpec (wsM y_WF_treaty b_WF_treaty 6 (some .int)) (rmD 7)).room s m ([.ref (b + 0), vI x1] : List Value).toArray below meth c H locs 0 0 (MQ below (QI b C n res.1 res.2) ([.ref (b + 0), vI x1] : List Value).toArray s 0 0 (frb b)) (F0 m 61 ls []) := by
  intro fu
  induction fu with
  | zero => intro M v2_ hv2_ v3_ hv3_ v4_ hv4_ H locs ls hS hl hT; exact absurd hT (by simp [t_WF_treaty_L61])
  | succ fu ih =>
    intro M v2_ hv2_ v3_ hv3_ v4_ hv4_ H locs ls hS hl hT
    rw [t_WF_treaty_L61] at hT
    refine lv_iload F.hx F.hb d_WF_treaty_61 (lv_at hl 4 rfl) ?_
    refine lv_aload_n F.hx F.hb d_WF_treaty_63 rfl (lv_at hl 0 rfl) ?_
    refine r_get (v := .ref (b + 177)) (N := 19) (T := T0) (j := 16) F hS (show 0 < 191 by decide) (show shK 0 = 4 from rfl) (show shN 0 = 19 from rfl) rfl (Nat.le_of_ble_eq_true rfl) ing0 mw_566 (fv_sg rfl rfl rfl) d_WF_treaty_64 ?_
    refine r_get (v := vI (M.1 177 7)) (N := 9) (T := T4) (j := 7) F hS (show 177 < 191 by decide) (show shK 177 = 8 from rfl) (show shN 177 = 9 from rfl) rfl (Nat.le_of_ble_eq_true rfl) ing4 mw_446 (fv_int rfl) d_WF_treaty_67 ?_
    have i10 := hS.rng 177 7
    refine r_icmp_ge (tgt := 116) F.hx F.hb hv4_ i10 d_WF_treaty_70 (by decide) (fun c11 => ?_) (fun c11 => ?_)
    · replace hT := (if_pos c11).symm.trans hT
      refine lv_iload_n F.hx F.hb d_WF_treaty_116 rfl (lv_at hl 1 rfl) ?_
      refine r_if_ne (tgt := 124) F.hx F.hb hx1 d_WF_treaty_117 (by decide) (fun c12 => ?_) (fun c12 => ?_)
      · replace hT := (if_neg c12).symm.trans hT
        refine lv_iload_n F.hx F.hb d_WF_treaty_124 rfl (lv_at hl 2 rfl) ?_
        cases hT
        exact r_iret F hlk hr rfl hS hv2_ d_WF_treaty_125
      · replace hT := (if_pos c12).symm.trans hT
        refine lv_iload_n F.hx F.hb d_WF_treaty_120 rfl (lv_at hl 3 rfl) ?_
        refine lv_goto (tgt := 125) F.hx F.hb d_WF_treaty_121 (by decide) ?_
        cases hT
        exact r_iret F hlk hr rfl hS hv3_ d_WF_treaty_125
    · replace hT := (if_neg c11).symm.trans hT
      refine lv_aload_n F.hx F.hb d_WF_treaty_73 rfl (lv_at hl 0 rfl) ?_
      refine r_get (v := .ref (b + 177)) (N := 19) (T := T0) (j := 16) F hS (show 0 < 191 by decide) (show shK 0 = 4 from rfl) (show shN 0 = 19 from rfl) rfl (Nat.le_of_ble_eq_true rfl) ing0 mw_566 (fv_sg rfl rfl rfl) d_WF_treaty_74 ?_
      refine lv_iload F.hx F.hb d_WF_treaty_77 (lv_at hl 4 rfl) ?_
      obtain ⟨q13, hq13, hT⟩ := q_obind hT
      refine r_backZ F hS (r_runV (k := 177) (N := 9) (T := T4) (As := [vI v4_]) F hS (show 177 < 191 by decide) (show shK 177 = 8 from rfl) rfl (c_Laws_isStay l F.2.2.1 M v4_ hv4_ _ hq13) gs_WF_362 hd_Laws_isStay ⟨Nat.le_of_ble_eq_true rfl, Nat.le_of_ble_eq_true rfl⟩ rfl hl.1 (Nat.le_of_ble_eq_true rfl) ⟨Nat.zero_le _, Nat.zero_le _⟩ rfl d_WF_treaty_79) (fun H locs hS h14 => ?_)
      refine r_if_eq (tgt := 94) F.hx F.hb (inr_z h14) d_WF_treaty_82 (by decide) (fun c15 => ?_) (fun c15 => ?_)
      · replace hT := (if_pos c15).symm.trans hT
        refine r_bipush F.hx F.hb d_WF_treaty_94 rfl ?_
        exact k_WF_treaty_L96 l hlo x1 hx1 F hlk hr (fun a0_ a1_ a2_ a3_ => t_WF_treaty_L61 x1 fu a0_ a1_ a2_ a3_) ih M v2_ hv2_ v3_ hv3_ v4_ hv4_ (-2) (inr_c rfl) _ _ _ hS (lv_sub hl [0, 1, 2, 3, 4] rfl) hT
      · replace hT := (if_neg c15).symm.trans hT
        refine lv_aload_n F.hx F.hb d_WF_treaty_85 rfl (lv_at hl 0 rfl) ?_
        refine lv_iload F.hx F.hb d_WF_treaty_86 (lv_at hl 4 rfl) ?_
        obtain ⟨q16, hq16, hT⟩ := q_obind hT
        refine r_backI F hS (r_runV (k := 0) (N := 19) (T := T0) (As := [vI v4_]) F hS (show 0 < 191 by decide) (show shK 0 = 4 from rfl) rfl (c_WF_treatySum l F.2.2.1 M v4_ hv4_ _ hq16) gs_WF_365 hd_WF_treatySum ⟨Nat.le_of_ble_eq_true rfl, Nat.le_of_ble_eq_true rfl⟩ rfl hl.1 (Nat.le_of_ble_eq_true rfl) ⟨Nat.zero_le _, Nat.zero_le _⟩ rfl d_WF_treaty_88) (fun H locs hS h17 => ?_)
        refine lv_goto (tgt := 96) F.hx F.hb d_WF_treaty_91 (by decide) ?_
        exact k_WF_treaty_L96 l hlo x1 hx1 F hlk hr (fun a0_ a1_ a2_ a3_ => t_WF_treaty_L61 x1 fu a0_ a1_ a2_ a3_) ih (q16.1) v2_ hv2_ v3_ hv3_ v4_ hv4_ (q16.2) h17 _ _ _ hS (lv_sub hl [0, 1, 2, 3, 4] rfl) hT
set_option maxHeartbeats 4000000 in
set_option maxRecDepth 100000 in
theorem c_WF_treaty (l : Launch) {b n : Nat} {C : CT} (hlo : 191 ≤ n) (M : Mem) (x1 : Int) (hx1 : InR x1) (res : Mem × Int) (hT : t_WF_treaty M x1 = some res) : CM l b C n 7 y_WF_treaty b_WF_treaty 6 (some .int) [.ref (b + 0), vI x1] M (QI b C n res.1 res.2) := by
  refine CM.of (lo := 191) (ow := "WardFalls") (by decide) rfl (Nat.le_of_ble_eq_true rfl) hlo (fun p e s m below meth c F hlk hr hS ls hl => ?_)
  have hl : lv_has ls 6 [(0, .ref (b + 0)), (1, vI x1)] := hl
  unfold t_WF_treaty at hT
  refine lv_iload_n F.hx F.hb d_WF_treaty_0 rfl (lv_at hl 1 rfl) ?_
  refine r_if_lt (tgt := 9) F.hx F.hb hx1 d_WF_treaty_1 (by decide) (fun c1 => ?_) (fun c1 => ?_)
  · replace hT := (if_pos c1).symm.trans hT
    refine r_iconst F.hx F.hb d_WF_treaty_9 ?_
    cases hT
    exact r_iret F hlk hr rfl hS (inr_c rfl) d_WF_treaty_10
  · replace hT := (if_neg c1).symm.trans hT
    refine lv_iload_n F.hx F.hb d_WF_treaty_4 rfl (lv_at hl 1 rfl) ?_
    refine r_iconst F.hx F.hb d_WF_treaty_5 ?_
    refine r_icmp_le (tgt := 11) F.hx F.hb hx1 (inr_c rfl) d_WF_treaty_6 (by decide) (fun c2 => ?_) (fun c2 => ?_)
    · replace hT := (if_pos c2).symm.trans hT
      refine lv_aload_n F.hx F.hb d_WF_treaty_11 rfl (lv_at hl 0 rfl) ?_
      refine r_get (v := .ref (b + 177)) (N := 19) (T := T0) (j := 16) F hS (show 0 < 191 by decide) (show shK 0 = 4 from rfl) (show shN 0 = 19 from rfl) rfl (Nat.le_of_ble_eq_true rfl) ing0 mw_566 (fv_sg rfl rfl rfl) d_WF_treaty_12 ?_
      refine lv_aload_n F.hx F.hb d_WF_treaty_15 rfl (lv_at hl 0 rfl) ?_
      have h3 := St_town hS
      refine r_get (v := .ref (b + ((M.1 0 4).toNat))) (N := 19) (T := T0) (j := 4) F hS (show 0 < 191 by decide) (show shK 0 = 4 from rfl) (show shN 0 = 19 from rfl) rfl (Nat.le_of_ble_eq_true rfl) ing0 mw_554 (fv_town hS) d_WF_treaty_16 ?_
      refine lv_aload_n F.hx F.hb d_WF_treaty_19 rfl (lv_at hl 0 rfl) ?_
      refine r_get (v := .ref (b + 47)) (N := 19) (T := T0) (j := 8) F hS (show 0 < 191 by decide) (show shK 0 = 4 from rfl) (show shN 0 = 19 from rfl) rfl (Nat.le_of_ble_eq_true rfl) ing0 mw_558 (fv_sg rfl rfl rfl) d_WF_treaty_20 ?_
      refine lv_aload_n F.hx F.hb d_WF_treaty_23 rfl (lv_at hl 0 rfl) ?_
      refine r_get (v := .ref (b + 52)) (N := 19) (T := T0) (j := 9) F hS (show 0 < 191 by decide) (show shK 0 = 4 from rfl) (show shN 0 = 19 from rfl) rfl (Nat.le_of_ble_eq_true rfl) ing0 mw_559 (fv_sg rfl rfl rfl) d_WF_treaty_24 ?_
      refine lv_aload_n F.hx F.hb d_WF_treaty_27 rfl (lv_at hl 0 rfl) ?_
      refine r_get (v := .ref (b + 62)) (N := 19) (T := T0) (j := 11) F hS (show 0 < 191 by decide) (show shK 0 = 4 from rfl) (show shN 0 = 19 from rfl) rfl (Nat.le_of_ble_eq_true rfl) ing0 mw_561 (fv_sg rfl rfl rfl) d_WF_treaty_28 ?_
      refine r_get (v := vI (M.1 62 3)) (N := 6) (T := T2) (j := 3) F hS (show 62 < 191 by decide) (show shK 62 = 6 from rfl) (show shN 62 = 6 from rfl) rfl (Nat.le_of_ble_eq_true rfl) ing2 mw_321 (fv_int rfl) d_WF_treaty_31 ?_
      have i4 := hS.rng 62 3
      obtain ⟨q5, hq5, hT⟩ := q_obind hT
      refine r_backV F hS (r_runV (k := 177) (N := 9) (T := T4) (As := [.ref (b + ((M.1 0 4).toNat)), .ref (b + 47), .ref (b + 52), vI (M.1 62 3)]) F hS (show 177 < 191 by decide) (show shK 177 = 8 from rfl) rfl (c_Laws_tryVotes l F.2.2.1 M ((M.1 0 4).toNat) 47 52 (M.1 62 3) h3 (by decide : isScene 47) (by decide : isScene 52) i4 _ hq5) gs_WF_355 hd_Laws_tryVotes ⟨Nat.le_of_ble_eq_true rfl, Nat.le_of_ble_eq_true rfl⟩ rfl hl.1 (Nat.le_of_ble_eq_true rfl) ⟨Nat.zero_le _, Nat.zero_le _⟩ rfl d_WF_treaty_34) (fun H locs hS => ?_)
      refine lv_aload_n F.hx F.hb d_WF_treaty_37 rfl (lv_at hl 0 rfl) ?_
      refine r_get (v := .ref (b + 177)) (N := 19) (T := T0) (j := 16) F hS (show 0 < 191 by decide) (show shK 0 = 4 from rfl) (show shN 0 = 19 from rfl) rfl (Nat.le_of_ble_eq_true rfl) ing0 mw_566 (fv_sg rfl rfl rfl) d_WF_treaty_38 ?_
      refine lv_aload_n F.hx F.hb d_WF_treaty_41 rfl (lv_at hl 0 rfl) ?_
      have h7 := St_town hS
      refine r_get (v := .ref (b + ((q5.1 0 4).toNat))) (N := 19) (T := T0) (j := 4) F hS (show 0 < 191 by decide) (show shK 0 = 4 from rfl) (show shN 0 = 19 from rfl) rfl (Nat.le_of_ble_eq_true rfl) ing0 mw_554 (fv_town hS) d_WF_treaty_42 ?_
      refine lv_aload_n F.hx F.hb d_WF_treaty_45 rfl (lv_at hl 0 rfl) ?_
      refine r_get (v := .ref (b + 47)) (N := 19) (T := T0) (j := 8) F hS (show 0 < 191 by decide) (show shK 0 = 4 from rfl) (show shN 0 = 19 from rfl) rfl (Nat.le_of_ble_eq_true rfl) ing0 mw_558 (fv_sg rfl rfl rfl) d_WF_treaty_46 ?_
      obtain ⟨q8, hq8, hT⟩ := q_obind hT
      refine r_backV F hS (r_runV (k := 177) (N := 9) (T := T4) (As := [.ref (b + ((q5.1 0 4).toNat)), .ref (b + 47)]) F hS (show 177 < 191 by decide) (show shK 177 = 8 from rfl) rfl (c_Laws_measure l F.2.2.1 q5 ((q5.1 0 4).toNat) 47 h7 (by decide : isScene 47) _ hq8) gs_WF_214 hd_Laws_measure ⟨Nat.le_of_ble_eq_true rfl, Nat.le_of_ble_eq_true rfl⟩ rfl hl.1 (Nat.le_of_ble_eq_true rfl) ⟨Nat.zero_le _, Nat.zero_le _⟩ rfl d_WF_treaty_49) (fun H locs hS => ?_)
      refine r_bipush F.hx F.hb d_WF_treaty_52 rfl ?_
      refine lv_istore_n (lv' := [(2, vI (-2)), (0, .ref (b + 0)), (1, vI x1)]) F.hx F.hb d_WF_treaty_54 rfl hl (Nat.le_of_ble_eq_true rfl) rfl (fun ls hl => ?_)
      refine r_bipush F.hx F.hb d_WF_treaty_55 rfl ?_
      refine lv_istore_n (lv' := [(3, vI (-2)), (2, vI (-2)), (0, .ref (b + 0)), (1, vI x1)]) F.hx F.hb d_WF_treaty_57 rfl hl (Nat.le_of_ble_eq_true rfl) rfl (fun ls hl => ?_)
      refine r_iconst F.hx F.hb d_WF_treaty_58 ?_
      refine lv_istore (lv' := [(4, vI 0), (3, vI (-2)), (2, vI (-2)), (0, .ref (b + 0)), (1, vI x1)]) F.hx F.hb d_WF_treaty_59 hl (Nat.le_of_ble_eq_true rfl) rfl (fun ls hl => ?_)
      exact k_WF_treaty_L61 l hlo x1 hx1 F hlk hr FU q8 (-2) (inr_c rfl) (-2) (inr_c rfl) 0 (inr_c rfl) _ _ _ hS (lv_sub hl [3, 4, 2, 1, 0] rfl) hT
    · replace hT := (if_neg c2).symm.trans hT
      refine r_iconst F.hx F.hb d_WF_treaty_9 ?_
      cases hT
      exact r_iret F hlk hr rfl hS (inr_c rfl) d_WF_treaty_10
theorem d_WF_moves_0 : decode b_WF_moves 0 = .ok (.iload_n 1, 1) := dc_27 (by decide +kernel)
theorem d_WF_moves_1 : decode b_WF_moves 1 = .ok (.ifCond .lt 27, 3) := dc_155 (by decide +kernel)
theorem d_WF_moves_4 : decode b_WF_moves 4 = .ok (.iload_n 1, 1) := dc_27 (by decide +kernel)
theorem d_WF_moves_5 : decode b_WF_moves 5 = .ok (.iconst 1, 1) := dc_4 (by decide +kernel)
theorem d_WF_moves_6 : decode b_WF_moves 6 = .ok (.iconst 2, 1) := dc_5 (by decide +kernel)
theorem d_WF_moves_7 : decode b_WF_moves 7 = .ok (.aload_n 0, 1) := dc_42 (by decide +kernel)
theorem d_WF_moves_8 : decode b_WF_moves 8 = .ok (.getfield 22, 3) := dc_180 (by decide +kernel)
theorem d_WF_moves_11 : decode b_WF_moves 11 = .ok (.getfield 137, 3) := dc_180 (by decide +kernel)
theorem d_WF_moves_14 : decode b_WF_moves 14 = .ok (.imul, 1) := dc_104 (by decide +kernel)
theorem d_WF_moves_15 : decode b_WF_moves 15 = .ok (.ishl, 1) := dc_120 (by decide +kernel)
theorem d_WF_moves_16 : decode b_WF_moves 16 = .ok (.if_icmp .ge 12, 3) := dc_162 (by decide +kernel)
theorem d_WF_moves_19 : decode b_WF_moves 19 = .ok (.iload_n 2, 1) := dc_28 (by decide +kernel)
theorem d_WF_moves_20 : decode b_WF_moves 20 = .ok (.ifCond .lt 8, 3) := dc_155 (by decide +kernel)
theorem d_WF_moves_23 : decode b_WF_moves 23 = .ok (.iload_n 2, 1) := dc_28 (by decide +kernel)
theorem d_WF_moves_24 : decode b_WF_moves 24 = .ok (.iconst 1, 1) := dc_4 (by decide +kernel)
theorem d_WF_moves_25 : decode b_WF_moves 25 = .ok (.if_icmp .le 5, 3) := dc_164 (by decide +kernel)
theorem d_WF_moves_28 : decode b_WF_moves 28 = .ok (.iconst (-1), 1) := dc_2 (by decide +kernel)
theorem d_WF_moves_29 : decode b_WF_moves 29 = .ok (.ireturn, 1) := dc_172 (by decide +kernel)
theorem d_WF_moves_30 : decode b_WF_moves 30 = .ok (.aload_n 0, 1) := dc_42 (by decide +kernel)
theorem d_WF_moves_31 : decode b_WF_moves 31 = .ok (.getfield 83, 3) := dc_180 (by decide +kernel)
theorem d_WF_moves_34 : decode b_WF_moves 34 = .ok (.aload_n 0, 1) := dc_42 (by decide +kernel)
theorem d_WF_moves_35 : decode b_WF_moves 35 = .ok (.getfield 22, 3) := dc_180 (by decide +kernel)
theorem d_WF_moves_38 : decode b_WF_moves 38 = .ok (.aload_n 0, 1) := dc_42 (by decide +kernel)
theorem d_WF_moves_39 : decode b_WF_moves 39 = .ok (.getfield 46, 3) := dc_180 (by decide +kernel)
theorem d_WF_moves_42 : decode b_WF_moves 42 = .ok (.aload_n 0, 1) := dc_42 (by decide +kernel)
theorem d_WF_moves_43 : decode b_WF_moves 43 = .ok (.getfield 50, 3) := dc_180 (by decide +kernel)
theorem d_WF_moves_46 : decode b_WF_moves 46 = .ok (.aload_n 0, 1) := dc_42 (by decide +kernel)
theorem d_WF_moves_47 : decode b_WF_moves 47 = .ok (.getfield 59, 3) := dc_180 (by decide +kernel)
theorem d_WF_moves_50 : decode b_WF_moves 50 = .ok (.getfield 218, 3) := dc_180 (by decide +kernel)
theorem d_WF_moves_53 : decode b_WF_moves 53 = .ok (.invokevirtual 355, 3) := dc_182 (by decide +kernel)
theorem d_WF_moves_56 : decode b_WF_moves 56 = .ok (.iload_n 1, 1) := dc_27 (by decide +kernel)
theorem d_WF_moves_57 : decode b_WF_moves 57 = .ok (.istore_n 3, 1) := dc_62 (by decide +kernel)
theorem d_WF_moves_58 : decode b_WF_moves 58 = .ok (.iconst 0, 1) := dc_3 (by decide +kernel)
theorem d_WF_moves_59 : decode b_WF_moves 59 = .ok (.istore 4, 2) := dc_54 (by decide +kernel)
theorem d_WF_moves_61 : decode b_WF_moves 61 = .ok (.iload 4, 2) := dc_21 (by decide +kernel)
theorem d_WF_moves_63 : decode b_WF_moves 63 = .ok (.bipush 40, 2) := dc_16 (by decide +kernel)
theorem d_WF_moves_65 : decode b_WF_moves 65 = .ok (.if_icmp .gt 39, 3) := dc_163 (by decide +kernel)
theorem d_WF_moves_68 : decode b_WF_moves 68 = .ok (.aload_n 0, 1) := dc_42 (by decide +kernel)
theorem d_WF_moves_69 : decode b_WF_moves 69 = .ok (.getfield 83, 3) := dc_180 (by decide +kernel)
theorem d_WF_moves_72 : decode b_WF_moves 72 = .ok (.iload_n 3, 1) := dc_29 (by decide +kernel)
theorem d_WF_moves_73 : decode b_WF_moves 73 = .ok (.invokevirtual 368, 3) := dc_182 (by decide +kernel)
theorem d_WF_moves_76 : decode b_WF_moves 76 = .ok (.istore 5, 2) := dc_54 (by decide +kernel)
theorem d_WF_moves_78 : decode b_WF_moves 78 = .ok (.iload 5, 2) := dc_21 (by decide +kernel)
theorem d_WF_moves_80 : decode b_WF_moves 80 = .ok (.iload_n 3, 1) := dc_29 (by decide +kernel)
theorem d_WF_moves_81 : decode b_WF_moves 81 = .ok (.if_icmp .ne 14, 3) := dc_160 (by decide +kernel)
theorem d_WF_moves_84 : decode b_WF_moves 84 = .ok (.iload_n 2, 1) := dc_28 (by decide +kernel)
theorem d_WF_moves_85 : decode b_WF_moves 85 = .ok (.ifCond .ne 8, 3) := dc_154 (by decide +kernel)
theorem d_WF_moves_88 : decode b_WF_moves 88 = .ok (.iload 4, 2) := dc_21 (by decide +kernel)
theorem d_WF_moves_90 : decode b_WF_moves 90 = .ok (.goto 4, 3) := dc_167 (by decide +kernel)
theorem d_WF_moves_93 : decode b_WF_moves 93 = .ok (.iload_n 3, 1) := dc_29 (by decide +kernel)
theorem d_WF_moves_94 : decode b_WF_moves 94 = .ok (.ireturn, 1) := dc_172 (by decide +kernel)
theorem d_WF_moves_95 : decode b_WF_moves 95 = .ok (.iload 5, 2) := dc_21 (by decide +kernel)
theorem d_WF_moves_97 : decode b_WF_moves 97 = .ok (.istore_n 3, 1) := dc_62 (by decide +kernel)
theorem d_WF_moves_98 : decode b_WF_moves 98 = .ok (.iinc 4 1, 3) := dc_132 (by decide +kernel)
theorem d_WF_moves_101 : decode b_WF_moves 101 = .ok (.goto (-40), 3) := dc_167 (by decide +kernel)
theorem d_WF_moves_104 : decode b_WF_moves 104 = .ok (.bipush (-2), 2) := dc_16 (by decide +kernel)
theorem d_WF_moves_106 : decode b_WF_moves 106 = .ok (.ireturn, 1) := dc_172 (by decide +kernel)
def t_WF_moves_L61 (x1 : Int) (x2 : Int)  : Nat → Mem → Int → Int → Option (Mem × Int)
  | 0, _, _, _ => none
  | fu + 1, M, v2_, v3_ => (if 40 < v3_ then (some (M, (-2))) else (obind (t_Laws_moved M v2_) fun q12 => (if q12 = v2_ then (if x2 = 0 then (some (M, v3_)) else (some (M, v2_))) else (t_WF_moves_L61 x1 x2 fu M q12 (w32 (v3_ + 1))))))
def t_WF_moves (M : Mem) (x1 : Int) (x2 : Int) : Option (Mem × Int) := (if x1 < 0 then (some (M, (-1))) else (if (q_shl 1 (w32 (2 * (M.1 ((M.1 0 4).toNat) 14)))) ≤ x1 then (some (M, (-1))) else (if x2 < 0 then (some (M, (-1))) else (if x2 ≤ 1 then (obind (t_Laws_tryVotes M ((M.1 0 4).toNat) 47 52 (M.1 62 3)) fun q9 => (t_WF_moves_L61 x1 x2 FU q9 x1 0)) else (some (M, (-1)))))))
set_option maxHeartbeats 4000000 in
set_option maxRecDepth 100000 in
theorem k_WF_moves_L61 (l : Launch) {p : Program} {e : Env} {s : State} {m : MethodId} {below : List Frame} {meth : Method} {c : Code} {b n : Nat} {C : CT} (hlo : 191 ≤ n) (x1 : Int) (x2 : Int) (hx1 : InR x1) (hx2 : InR x2) (F : Cx b p m c b_WF_moves 6 s ([.ref (b + 0), vI x1, vI x2] : List Value).toArray "WardFalls" C n 191) (hlk : meth.locks = false) (hr : meth.sig.returnType = some .int) {res : Mem × Int} : ∀ (fu : Nat) (M : Mem) (v2_ : Int) (hv2_ : InR v2_) (v3_ : Int) (hv3_ : InR v3_) (H : Heap) (locs : List Loc) (ls : Array Slot), St b C n M s H locs → lv_has ls 6 [(0, .ref (b + 0)), (2, vI x2), (3, vI v2_), (4, vI v3_)] → t_WF_moves_L61 x1 x2 fu M v2_ v3_ = some res → W p l e (headSpec (wsM y_WF_moves b_WF_moves 6 (some .int)) (rmD 7)).room s m ([.ref (b + 0), vI x1, vI x2] : List Value).toArray below meth c H locs 0 0 (MQ below (QI b C n res.1 res.2) ([.ref (b + 0), vI x1, vI x2] : List Value).toArray s 0 0 (frb b)) (F0 m 61 ls []) := by
  intro fu
  induction fu with
  | zero => intro M v2_ hv2_ v3_ hv3_ H locs ls hS hl hT; exact absurd hT (by simp [t_WF_moves_L61])
  | succ fu ih =>
    intro M v2_ hv2_ v3_ hv3_ H locs ls hS hl hT
    rw [t_WF_moves_L61] at hT
    refine lv_iload F.hx F.hb d_WF_moves_61 (lv_at hl 3 rfl) ?_
    refine r_bipush F.hx F.hb d_WF_moves_63 rfl ?_
    refine r_icmp_gt (tgt := 104) F.hx F.hb hv3_ (inr_c rfl) d_WF_moves_65 (by decide) (fun c11 => ?_) (fun c11 => ?_)
    · replace hT := (if_pos c11).symm.trans hT
      refine r_bipush F.hx F.hb d_WF_moves_104 rfl ?_
      cases hT
      exact r_iret F hlk hr rfl hS (inr_c rfl) d_WF_moves_106
    · replace hT := (if_neg c11).symm.trans hT
      refine lv_aload_n F.hx F.hb d_WF_moves_68 rfl (lv_at hl 0 rfl) ?_
      refine r_get (v := .ref (b + 177)) (N := 19) (T := T0) (j := 16) F hS (show 0 < 191 by decide) (show shK 0 = 4 from rfl) (show shN 0 = 19 from rfl) rfl (Nat.le_of_ble_eq_true rfl) ing0 mw_566 (fv_sg rfl rfl rfl) d_WF_moves_69 ?_
      refine lv_iload_n F.hx F.hb d_WF_moves_72 rfl (lv_at hl 2 rfl) ?_
      obtain ⟨q12, hq12, hT⟩ := q_obind hT
      refine r_backI F hS (r_runV (k := 177) (N := 9) (T := T4) (As := [vI v2_]) F hS (show 177 < 191 by decide) (show shK 177 = 8 from rfl) rfl (c_Laws_moved l F.2.2.1 M v2_ hv2_ _ hq12) gs_WF_368 hd_Laws_moved ⟨Nat.le_of_ble_eq_true rfl, Nat.le_of_ble_eq_true rfl⟩ rfl hl.1 (Nat.le_of_ble_eq_true rfl) ⟨Nat.zero_le _, Nat.zero_le _⟩ rfl d_WF_moves_73) (fun H locs hS h13 => ?_)
      refine lv_istore (lv' := [(5, vI q12), (0, .ref (b + 0)), (2, vI x2), (3, vI v2_), (4, vI v3_)]) F.hx F.hb d_WF_moves_76 hl (Nat.le_of_ble_eq_true rfl) rfl (fun ls hl => ?_)
      refine lv_iload F.hx F.hb d_WF_moves_78 (lv_at hl 0 rfl) ?_
      refine lv_iload_n F.hx F.hb d_WF_moves_80 rfl (lv_at hl 3 rfl) ?_
      refine r_icmp_ne (tgt := 95) F.hx F.hb h13 hv2_ d_WF_moves_81 (by decide) (fun c14 => ?_) (fun c14 => ?_)
      · replace hT := (if_neg c14).symm.trans hT
        refine lv_iload F.hx F.hb d_WF_moves_95 (lv_at hl 0 rfl) ?_
        refine lv_istore_n (lv' := [(3, vI q12), (5, vI q12), (0, .ref (b + 0)), (2, vI x2), (4, vI v3_)]) F.hx F.hb d_WF_moves_97 rfl hl (Nat.le_of_ble_eq_true rfl) rfl (fun ls hl => ?_)
        refine lv_iinc (v := Int32.ofInt (w32 (v3_ + 1))) (lv' := [(4, vI (w32 (v3_ + 1))), (3, vI q12), (5, vI q12), (0, .ref (b + 0)), (2, vI x2)]) F.hx F.hb d_WF_moves_98 hl (k := 4) rfl (q_of_add _ _) (Nat.le_of_ble_eq_true rfl) rfl (fun ls hl => ?_)
        refine lv_goto (tgt := 61) F.hx F.hb d_WF_moves_101 (by decide) ?_
        exact ih M q12 h13 (w32 (v3_ + 1)) (inr_w32 _) _ _ _ hS (lv_sub hl [3, 4, 1, 0] rfl) hT
      · replace hT := (if_pos c14).symm.trans hT
        refine lv_iload_n F.hx F.hb d_WF_moves_84 rfl (lv_at hl 2 rfl) ?_
        refine r_if_ne (tgt := 93) F.hx F.hb hx2 d_WF_moves_85 (by decide) (fun c15 => ?_) (fun c15 => ?_)
        · replace hT := (if_neg c15).symm.trans hT
          refine lv_iload_n F.hx F.hb d_WF_moves_93 rfl (lv_at hl 3 rfl) ?_
          cases hT
          exact r_iret F hlk hr rfl hS hv2_ d_WF_moves_94
        · replace hT := (if_pos c15).symm.trans hT
          refine lv_iload F.hx F.hb d_WF_moves_88 (lv_at hl 4 rfl) ?_
          refine lv_goto (tgt := 94) F.hx F.hb d_WF_moves_90 (by decide) ?_
          cases hT
          exact r_iret F hlk hr rfl hS hv3_ d_WF_moves_94
set_option maxHeartbeats 4000000 in
set_option maxRecDepth 100000 in
theorem c_WF_moves (l : Launch) {b n : Nat} {C : CT} (hlo : 191 ≤ n) (M : Mem) (x1 : Int) (x2 : Int) (hx1 : InR x1) (hx2 : InR x2) (res : Mem × Int) (hT : t_WF_moves M x1 x2 = some res) : CM l b C n 7 y_WF_moves b_WF_moves 6 (some .int) [.ref (b + 0), vI x1, vI x2] M (QI b C n res.1 res.2) := by
  refine CM.of (lo := 191) (ow := "WardFalls") (by decide) rfl (Nat.le_of_ble_eq_true rfl) hlo (fun p e s m below meth c F hlk hr hS ls hl => ?_)
  have hl : lv_has ls 6 [(0, .ref (b + 0)), (1, vI x1), (2, vI x2)] := hl
  unfold t_WF_moves at hT
  refine lv_iload_n F.hx F.hb d_WF_moves_0 rfl (lv_at hl 1 rfl) ?_
  refine r_if_lt (tgt := 28) F.hx F.hb hx1 d_WF_moves_1 (by decide) (fun c1 => ?_) (fun c1 => ?_)
  · replace hT := (if_pos c1).symm.trans hT
    refine r_iconst F.hx F.hb d_WF_moves_28 ?_
    cases hT
    exact r_iret F hlk hr rfl hS (inr_c rfl) d_WF_moves_29
  · replace hT := (if_neg c1).symm.trans hT
    refine lv_iload_n F.hx F.hb d_WF_moves_4 rfl (lv_at hl 1 rfl) ?_
    refine r_iconst F.hx F.hb d_WF_moves_5 ?_
    refine r_iconst F.hx F.hb d_WF_moves_6 ?_
    refine lv_aload_n F.hx F.hb d_WF_moves_7 rfl (lv_at hl 0 rfl) ?_
    have h2 := St_town hS
    refine r_get (v := .ref (b + ((M.1 0 4).toNat))) (N := 19) (T := T0) (j := 4) F hS (show 0 < 191 by decide) (show shK 0 = 4 from rfl) (show shN 0 = 19 from rfl) rfl (Nat.le_of_ble_eq_true rfl) ing0 mw_554 (fv_town hS) d_WF_moves_8 ?_
    refine r_get (v := vI (M.1 ((M.1 0 4).toNat) 14)) (N := 20) (T := T11) (j := 14) F hS (Town_lt h2) (Town_sh h2) (Town_N h2) rfl (Nat.le_of_ble_eq_true rfl) ing11 mw_137 (fv_int rfl) d_WF_moves_11 ?_
    have i3 := hS.rng ((M.1 0 4).toNat) 14
    refine r_imul F.hx F.hb d_WF_moves_14 ?_
    refine r_ishl F.hx F.hb d_WF_moves_15 ?_
    refine r_icmp_ge (tgt := 28) F.hx F.hb hx1 (q_inr_toInt _) d_WF_moves_16 (by decide) (fun c4 => ?_) (fun c4 => ?_)
    · replace hT := (if_pos c4).symm.trans hT
      refine r_iconst F.hx F.hb d_WF_moves_28 ?_
      cases hT
      exact r_iret F hlk hr rfl hS (inr_c rfl) d_WF_moves_29
    · replace hT := (if_neg c4).symm.trans hT
      refine lv_iload_n F.hx F.hb d_WF_moves_19 rfl (lv_at hl 2 rfl) ?_
      refine r_if_lt (tgt := 28) F.hx F.hb hx2 d_WF_moves_20 (by decide) (fun c5 => ?_) (fun c5 => ?_)
      · replace hT := (if_pos c5).symm.trans hT
        refine r_iconst F.hx F.hb d_WF_moves_28 ?_
        cases hT
        exact r_iret F hlk hr rfl hS (inr_c rfl) d_WF_moves_29
      · replace hT := (if_neg c5).symm.trans hT
        refine lv_iload_n F.hx F.hb d_WF_moves_23 rfl (lv_at hl 2 rfl) ?_
        refine r_iconst F.hx F.hb d_WF_moves_24 ?_
        refine r_icmp_le (tgt := 30) F.hx F.hb hx2 (inr_c rfl) d_WF_moves_25 (by decide) (fun c6 => ?_) (fun c6 => ?_)
        · replace hT := (if_pos c6).symm.trans hT
          refine lv_aload_n F.hx F.hb d_WF_moves_30 rfl (lv_at hl 0 rfl) ?_
          refine r_get (v := .ref (b + 177)) (N := 19) (T := T0) (j := 16) F hS (show 0 < 191 by decide) (show shK 0 = 4 from rfl) (show shN 0 = 19 from rfl) rfl (Nat.le_of_ble_eq_true rfl) ing0 mw_566 (fv_sg rfl rfl rfl) d_WF_moves_31 ?_
          refine lv_aload_n F.hx F.hb d_WF_moves_34 rfl (lv_at hl 0 rfl) ?_
          have h7 := St_town hS
          refine r_get (v := .ref (b + ((M.1 0 4).toNat))) (N := 19) (T := T0) (j := 4) F hS (show 0 < 191 by decide) (show shK 0 = 4 from rfl) (show shN 0 = 19 from rfl) rfl (Nat.le_of_ble_eq_true rfl) ing0 mw_554 (fv_town hS) d_WF_moves_35 ?_
          refine lv_aload_n F.hx F.hb d_WF_moves_38 rfl (lv_at hl 0 rfl) ?_
          refine r_get (v := .ref (b + 47)) (N := 19) (T := T0) (j := 8) F hS (show 0 < 191 by decide) (show shK 0 = 4 from rfl) (show shN 0 = 19 from rfl) rfl (Nat.le_of_ble_eq_true rfl) ing0 mw_558 (fv_sg rfl rfl rfl) d_WF_moves_39 ?_
          refine lv_aload_n F.hx F.hb d_WF_moves_42 rfl (lv_at hl 0 rfl) ?_
          refine r_get (v := .ref (b + 52)) (N := 19) (T := T0) (j := 9) F hS (show 0 < 191 by decide) (show shK 0 = 4 from rfl) (show shN 0 = 19 from rfl) rfl (Nat.le_of_ble_eq_true rfl) ing0 mw_559 (fv_sg rfl rfl rfl) d_WF_moves_43 ?_
          refine lv_aload_n F.hx F.hb d_WF_moves_46 rfl (lv_at hl 0 rfl) ?_
          refine r_get (v := .ref (b + 62)) (N := 19) (T := T0) (j := 11) F hS (show 0 < 191 by decide) (show shK 0 = 4 from rfl) (show shN 0 = 19 from rfl) rfl (Nat.le_of_ble_eq_true rfl) ing0 mw_561 (fv_sg rfl rfl rfl) d_WF_moves_47 ?_
          refine r_get (v := vI (M.1 62 3)) (N := 6) (T := T2) (j := 3) F hS (show 62 < 191 by decide) (show shK 62 = 6 from rfl) (show shN 62 = 6 from rfl) rfl (Nat.le_of_ble_eq_true rfl) ing2 mw_321 (fv_int rfl) d_WF_moves_50 ?_
          have i8 := hS.rng 62 3
          obtain ⟨q9, hq9, hT⟩ := q_obind hT
          refine r_backV F hS (r_runV (k := 177) (N := 9) (T := T4) (As := [.ref (b + ((M.1 0 4).toNat)), .ref (b + 47), .ref (b + 52), vI (M.1 62 3)]) F hS (show 177 < 191 by decide) (show shK 177 = 8 from rfl) rfl (c_Laws_tryVotes l F.2.2.1 M ((M.1 0 4).toNat) 47 52 (M.1 62 3) h7 (by decide : isScene 47) (by decide : isScene 52) i8 _ hq9) gs_WF_355 hd_Laws_tryVotes ⟨Nat.le_of_ble_eq_true rfl, Nat.le_of_ble_eq_true rfl⟩ rfl hl.1 (Nat.le_of_ble_eq_true rfl) ⟨Nat.zero_le _, Nat.zero_le _⟩ rfl d_WF_moves_53) (fun H locs hS => ?_)
          refine lv_iload_n F.hx F.hb d_WF_moves_56 rfl (lv_at hl 1 rfl) ?_
          refine lv_istore_n (lv' := [(3, vI x1), (0, .ref (b + 0)), (1, vI x1), (2, vI x2)]) F.hx F.hb d_WF_moves_57 rfl hl (Nat.le_of_ble_eq_true rfl) rfl (fun ls hl => ?_)
          refine r_iconst F.hx F.hb d_WF_moves_58 ?_
          refine lv_istore (lv' := [(4, vI 0), (3, vI x1), (0, .ref (b + 0)), (1, vI x1), (2, vI x2)]) F.hx F.hb d_WF_moves_59 hl (Nat.le_of_ble_eq_true rfl) rfl (fun ls hl => ?_)
          exact k_WF_moves_L61 l hlo x1 x2 hx1 hx2 F hlk hr FU q9 x1 hx1 0 (inr_c rfl) _ _ _ hS (lv_sub hl [2, 4, 1, 0] rfl) hT
        · replace hT := (if_neg c6).symm.trans hT
          refine r_iconst F.hx F.hb d_WF_moves_28 ?_
          cases hT
          exact r_iret F hlk hr rfl hS (inr_c rfl) d_WF_moves_29
theorem d_Notes_add_0 : decode b_Notes_add 0 = .ok (.aload_n 0, 1) := dc_42 (by decide +kernel)
theorem d_Notes_add_1 : decode b_Notes_add 1 = .ok (.getfield 24, 3) := dc_180 (by decide +kernel)
theorem d_Notes_add_4 : decode b_Notes_add 4 = .ok (.bipush 24, 2) := dc_16 (by decide +kernel)
theorem d_Notes_add_6 : decode b_Notes_add 6 = .ok (.if_icmp .lt 5, 3) := dc_161 (by decide +kernel)
theorem d_Notes_add_9 : decode b_Notes_add 9 = .ok (.iconst (-1), 1) := dc_2 (by decide +kernel)
theorem d_Notes_add_10 : decode b_Notes_add 10 = .ok (.ireturn, 1) := dc_172 (by decide +kernel)
theorem d_Notes_add_11 : decode b_Notes_add 11 = .ok (.aload_n 0, 1) := dc_42 (by decide +kernel)
theorem d_Notes_add_12 : decode b_Notes_add 12 = .ok (.getfield 9, 3) := dc_180 (by decide +kernel)
theorem d_Notes_add_15 : decode b_Notes_add 15 = .ok (.aload_n 0, 1) := dc_42 (by decide +kernel)
theorem d_Notes_add_16 : decode b_Notes_add 16 = .ok (.getfield 24, 3) := dc_180 (by decide +kernel)
theorem d_Notes_add_19 : decode b_Notes_add 19 = .ok (.iload_n 1, 1) := dc_27 (by decide +kernel)
theorem d_Notes_add_20 : decode b_Notes_add 20 = .ok (.invokestatic 31, 3) := dc_184 (by decide +kernel)
theorem d_Notes_add_23 : decode b_Notes_add 23 = .ok (.aload_n 0, 1) := dc_42 (by decide +kernel)
theorem d_Notes_add_24 : decode b_Notes_add 24 = .ok (.getfield 15, 3) := dc_180 (by decide +kernel)
theorem d_Notes_add_27 : decode b_Notes_add 27 = .ok (.aload_n 0, 1) := dc_42 (by decide +kernel)
theorem d_Notes_add_28 : decode b_Notes_add 28 = .ok (.getfield 24, 3) := dc_180 (by decide +kernel)
theorem d_Notes_add_31 : decode b_Notes_add 31 = .ok (.iload_n 2, 1) := dc_28 (by decide +kernel)
theorem d_Notes_add_32 : decode b_Notes_add 32 = .ok (.invokestatic 31, 3) := dc_184 (by decide +kernel)
theorem d_Notes_add_35 : decode b_Notes_add 35 = .ok (.aload_n 0, 1) := dc_42 (by decide +kernel)
theorem d_Notes_add_36 : decode b_Notes_add 36 = .ok (.getfield 18, 3) := dc_180 (by decide +kernel)
theorem d_Notes_add_39 : decode b_Notes_add 39 = .ok (.aload_n 0, 1) := dc_42 (by decide +kernel)
theorem d_Notes_add_40 : decode b_Notes_add 40 = .ok (.getfield 24, 3) := dc_180 (by decide +kernel)
theorem d_Notes_add_43 : decode b_Notes_add 43 = .ok (.iload_n 3, 1) := dc_29 (by decide +kernel)
theorem d_Notes_add_44 : decode b_Notes_add 44 = .ok (.invokestatic 31, 3) := dc_184 (by decide +kernel)
theorem d_Notes_add_47 : decode b_Notes_add 47 = .ok (.aload_n 0, 1) := dc_42 (by decide +kernel)
theorem d_Notes_add_48 : decode b_Notes_add 48 = .ok (.dup, 1) := dc_89 (by decide +kernel)
theorem d_Notes_add_49 : decode b_Notes_add 49 = .ok (.getfield 24, 3) := dc_180 (by decide +kernel)
theorem d_Notes_add_52 : decode b_Notes_add 52 = .ok (.iconst 1, 1) := dc_4 (by decide +kernel)
theorem d_Notes_add_53 : decode b_Notes_add 53 = .ok (.iadd, 1) := dc_96 (by decide +kernel)
theorem d_Notes_add_54 : decode b_Notes_add 54 = .ok (.putfield 24, 3) := dc_181 (by decide +kernel)
theorem d_Notes_add_57 : decode b_Notes_add 57 = .ok (.aload_n 0, 1) := dc_42 (by decide +kernel)
theorem d_Notes_add_58 : decode b_Notes_add 58 = .ok (.getfield 24, 3) := dc_180 (by decide +kernel)
theorem d_Notes_add_61 : decode b_Notes_add 61 = .ok (.iconst 1, 1) := dc_4 (by decide +kernel)
theorem d_Notes_add_62 : decode b_Notes_add 62 = .ok (.isub, 1) := dc_100 (by decide +kernel)
theorem d_Notes_add_63 : decode b_Notes_add 63 = .ok (.ireturn, 1) := dc_172 (by decide +kernel)
def t_Notes_add (M : Mem) (x1 : Int) (x2 : Int) (x3 : Int) : Mem × Int := (if (M.1 172 5) < 24 then (qlet (t_WF_put M 173 24 (M.1 172 5) x1) fun q4 => (qlet (t_WF_put q4 174 24 (q4.1 172 5) x2) fun q7 => (qlet (t_WF_put q7 175 24 (q7.1 172 5) x3) fun q10 => (qlet (setI q10 172 5 (w32 ((q10.1 172 5) + 1))) fun M13 => (M13, (w32 ((M13.1 172 5) - 1))))))) else (M, (-1)))
set_option maxHeartbeats 4000000 in
set_option maxRecDepth 100000 in
theorem c_Notes_add (l : Launch) {b n : Nat} {C : CT} (hlo : 191 ≤ n) (M : Mem) (x1 : Int) (x2 : Int) (x3 : Int) (hx1 : InR x1) (hx2 : InR x2) (hx3 : InR x3) (res : Mem × Int) (hT : t_Notes_add M x1 x2 x3 = res) : CM l b C n 1 y_Notes_add b_Notes_add 4 (some .int) [.ref (b + 172), vI x1, vI x2, vI x3] M (QI b C n res.1 res.2) := by
  refine CM.of (lo := 191) (ow := "WardFalls$Notes") (by decide) rfl (Nat.le_of_ble_eq_true rfl) hlo (fun p e s m below meth c F hlk hr hS ls hl => ?_)
  have hl : lv_has ls 4 [(0, .ref (b + 172)), (1, vI x1), (2, vI x2), (3, vI x3)] := hl
  unfold t_Notes_add at hT
  refine lv_aload_n F.hx F.hb d_Notes_add_0 rfl (lv_at hl 0 rfl) ?_
  refine r_get (v := vI (M.1 172 5)) (N := 7) (T := T5) (j := 5) F hS (show 172 < 191 by decide) (show shK 172 = 9 from rfl) (show shN 172 = 7 from rfl) rfl (Nat.le_of_ble_eq_true rfl) ing5 mw_371 (fv_int rfl) d_Notes_add_1 ?_
  have i1 := hS.rng 172 5
  refine r_bipush F.hx F.hb d_Notes_add_4 rfl ?_
  refine r_icmp_lt (tgt := 11) F.hx F.hb i1 (inr_c rfl) d_Notes_add_6 (by decide) (fun c2 => ?_) (fun c2 => ?_)
  · replace hT := (if_pos c2).symm.trans hT
    refine lv_aload_n F.hx F.hb d_Notes_add_11 rfl (lv_at hl 0 rfl) ?_
    refine r_get (v := .ref (b + 173)) (N := 7) (T := T5) (j := 0) F hS (show 172 < 191 by decide) (show shK 172 = 9 from rfl) (show shN 172 = 7 from rfl) rfl (Nat.le_of_ble_eq_true rfl) ing5 mw_364 (fv_sg rfl rfl rfl) d_Notes_add_12 ?_
    refine lv_aload_n F.hx F.hb d_Notes_add_15 rfl (lv_at hl 0 rfl) ?_
    refine r_get (v := vI (M.1 172 5)) (N := 7) (T := T5) (j := 5) F hS (show 172 < 191 by decide) (show shK 172 = 9 from rfl) (show shN 172 = 7 from rfl) rfl (Nat.le_of_ble_eq_true rfl) ing5 mw_371 (fv_int rfl) d_Notes_add_16 ?_
    have i3 := hS.rng 172 5
    refine lv_iload_n F.hx F.hb d_Notes_add_19 rfl (lv_at hl 1 rfl) ?_
    obtain ⟨q4, hq4⟩ : ∃ q, q = (t_WF_put M 173 24 (M.1 172 5) x1) := ⟨_, rfl⟩
    replace hT := qlet_eq hT hq4
    refine r_backV F hS (r_runSN (As := [.ref (b + 173), vI (M.1 172 5), vI x1]) F hS (c_WF_put l F.2.2.1 M 173 24 (M.1 172 5) x1 (show arrP 0 173 24 191 from ⟨rfl, rfl, by decide⟩) i3 hx1 _ hq4.symm) mw_512 mw_511 mw_1 gs_Notes_31 hd_WF_put ⟨Nat.le_of_ble_eq_true rfl, Nat.le_of_ble_eq_true rfl⟩ rfl hl.1 (Nat.le_of_ble_eq_true rfl) ⟨Nat.zero_le _, Nat.zero_le _⟩ rfl d_Notes_add_20) (fun H locs hS => ?_)
    refine lv_aload_n F.hx F.hb d_Notes_add_23 rfl (lv_at hl 0 rfl) ?_
    refine r_get (v := .ref (b + 174)) (N := 7) (T := T5) (j := 1) F hS (show 172 < 191 by decide) (show shK 172 = 9 from rfl) (show shN 172 = 7 from rfl) rfl (Nat.le_of_ble_eq_true rfl) ing5 mw_365 (fv_sg rfl rfl rfl) d_Notes_add_24 ?_
    refine lv_aload_n F.hx F.hb d_Notes_add_27 rfl (lv_at hl 0 rfl) ?_
    refine r_get (v := vI (q4.1 172 5)) (N := 7) (T := T5) (j := 5) F hS (show 172 < 191 by decide) (show shK 172 = 9 from rfl) (show shN 172 = 7 from rfl) rfl (Nat.le_of_ble_eq_true rfl) ing5 mw_371 (fv_int rfl) d_Notes_add_28 ?_
    have i6 := hS.rng 172 5
    refine lv_iload_n F.hx F.hb d_Notes_add_31 rfl (lv_at hl 2 rfl) ?_
    obtain ⟨q7, hq7⟩ : ∃ q, q = (t_WF_put q4 174 24 (q4.1 172 5) x2) := ⟨_, rfl⟩
    replace hT := qlet_eq hT hq7
    refine r_backV F hS (r_runSN (As := [.ref (b + 174), vI (q4.1 172 5), vI x2]) F hS (c_WF_put l F.2.2.1 q4 174 24 (q4.1 172 5) x2 (show arrP 0 174 24 191 from ⟨rfl, rfl, by decide⟩) i6 hx2 _ hq7.symm) mw_512 mw_511 mw_1 gs_Notes_31 hd_WF_put ⟨Nat.le_of_ble_eq_true rfl, Nat.le_of_ble_eq_true rfl⟩ rfl hl.1 (Nat.le_of_ble_eq_true rfl) ⟨Nat.zero_le _, Nat.zero_le _⟩ rfl d_Notes_add_32) (fun H locs hS => ?_)
    refine lv_aload_n F.hx F.hb d_Notes_add_35 rfl (lv_at hl 0 rfl) ?_
    refine r_get (v := .ref (b + 175)) (N := 7) (T := T5) (j := 2) F hS (show 172 < 191 by decide) (show shK 172 = 9 from rfl) (show shN 172 = 7 from rfl) rfl (Nat.le_of_ble_eq_true rfl) ing5 mw_366 (fv_sg rfl rfl rfl) d_Notes_add_36 ?_
    refine lv_aload_n F.hx F.hb d_Notes_add_39 rfl (lv_at hl 0 rfl) ?_
    refine r_get (v := vI (q7.1 172 5)) (N := 7) (T := T5) (j := 5) F hS (show 172 < 191 by decide) (show shK 172 = 9 from rfl) (show shN 172 = 7 from rfl) rfl (Nat.le_of_ble_eq_true rfl) ing5 mw_371 (fv_int rfl) d_Notes_add_40 ?_
    have i9 := hS.rng 172 5
    refine lv_iload_n F.hx F.hb d_Notes_add_43 rfl (lv_at hl 3 rfl) ?_
    obtain ⟨q10, hq10⟩ : ∃ q, q = (t_WF_put q7 175 24 (q7.1 172 5) x3) := ⟨_, rfl⟩
    replace hT := qlet_eq hT hq10
    refine r_backV F hS (r_runSN (As := [.ref (b + 175), vI (q7.1 172 5), vI x3]) F hS (c_WF_put l F.2.2.1 q7 175 24 (q7.1 172 5) x3 (show arrP 0 175 24 191 from ⟨rfl, rfl, by decide⟩) i9 hx3 _ hq10.symm) mw_512 mw_511 mw_1 gs_Notes_31 hd_WF_put ⟨Nat.le_of_ble_eq_true rfl, Nat.le_of_ble_eq_true rfl⟩ rfl hl.1 (Nat.le_of_ble_eq_true rfl) ⟨Nat.zero_le _, Nat.zero_le _⟩ rfl d_Notes_add_44) (fun H locs hS => ?_)
    refine lv_aload_n F.hx F.hb d_Notes_add_47 rfl (lv_at hl 0 rfl) ?_
    refine lv_dup F.hx F.hb d_Notes_add_48 rfl ?_
    refine r_get (v := vI (q10.1 172 5)) (N := 7) (T := T5) (j := 5) F hS (show 172 < 191 by decide) (show shK 172 = 9 from rfl) (show shN 172 = 7 from rfl) rfl (Nat.le_of_ble_eq_true rfl) ing5 mw_371 (fv_int rfl) d_Notes_add_49 ?_
    have i12 := hS.rng 172 5
    refine r_iconst F.hx F.hb d_Notes_add_52 ?_
    refine r_iadd F.hx F.hb d_Notes_add_53 ?_
    refine r_putI (N := 7) (T := T5) (j := 5) F hS (show 172 < 191 by decide) (show shK 172 = 9 from rfl) (show shN 172 = 7 from rfl) rfl (Nat.le_of_ble_eq_true rfl) ing5 tyok5 nm5 rfl rfl rfl rfl rfl rfl mw_371 (inr_w32 _) d_Notes_add_54 (fun H locs hS => ?_)
    obtain ⟨M13, eM13⟩ : ∃ q, q = (setI q10 172 5 (w32 ((q10.1 172 5) + 1))) := ⟨_, rfl⟩
    replace hS : St b C n M13 s H locs := by rw [eM13]; exact hS
    replace hT := qlet_eq hT eM13
    refine lv_aload_n F.hx F.hb d_Notes_add_57 rfl (lv_at hl 0 rfl) ?_
    refine r_get (v := vI (M13.1 172 5)) (N := 7) (T := T5) (j := 5) F hS (show 172 < 191 by decide) (show shK 172 = 9 from rfl) (show shN 172 = 7 from rfl) rfl (Nat.le_of_ble_eq_true rfl) ing5 mw_371 (fv_int rfl) d_Notes_add_58 ?_
    have i14 := hS.rng 172 5
    refine r_iconst F.hx F.hb d_Notes_add_61 ?_
    refine r_isub F.hx F.hb d_Notes_add_62 ?_
    subst hT
    exact r_iret F hlk hr rfl hS (inr_w32 _) d_Notes_add_63
  · replace hT := (if_neg c2).symm.trans hT
    refine r_iconst F.hx F.hb d_Notes_add_9 ?_
    subst hT
    exact r_iret F hlk hr rfl hS (inr_c rfl) d_Notes_add_10
theorem d_WF_note_0 : decode b_WF_note 0 = .ok (.aload_n 0, 1) := dc_42 (by decide +kernel)
theorem d_WF_note_1 : decode b_WF_note 1 = .ok (.iload_n 1, 1) := dc_27 (by decide +kernel)
theorem d_WF_note_2 : decode b_WF_note 2 = .ok (.invokevirtual 250, 3) := dc_182 (by decide +kernel)
theorem d_WF_note_5 : decode b_WF_note 5 = .ok (.ifCond .eq 16, 3) := dc_153 (by decide +kernel)
theorem d_WF_note_8 : decode b_WF_note 8 = .ok (.iload_n 2, 1) := dc_28 (by decide +kernel)
theorem d_WF_note_9 : decode b_WF_note 9 = .ok (.iconst (-1), 1) := dc_2 (by decide +kernel)
theorem d_WF_note_10 : decode b_WF_note 10 = .ok (.if_icmp .eq 13, 3) := dc_159 (by decide +kernel)
theorem d_WF_note_13 : decode b_WF_note 13 = .ok (.aload_n 0, 1) := dc_42 (by decide +kernel)
theorem d_WF_note_14 : decode b_WF_note 14 = .ok (.iload_n 2, 1) := dc_28 (by decide +kernel)
theorem d_WF_note_15 : decode b_WF_note 15 = .ok (.invokevirtual 250, 3) := dc_182 (by decide +kernel)
theorem d_WF_note_18 : decode b_WF_note 18 = .ok (.ifCond .ne 5, 3) := dc_154 (by decide +kernel)
theorem d_WF_note_21 : decode b_WF_note 21 = .ok (.iconst (-1), 1) := dc_2 (by decide +kernel)
theorem d_WF_note_22 : decode b_WF_note 22 = .ok (.ireturn, 1) := dc_172 (by decide +kernel)
theorem d_WF_note_23 : decode b_WF_note 23 = .ok (.aload_n 0, 1) := dc_42 (by decide +kernel)
theorem d_WF_note_24 : decode b_WF_note 24 = .ok (.getfield 76, 3) := dc_180 (by decide +kernel)
theorem d_WF_note_27 : decode b_WF_note 27 = .ok (.iload_n 1, 1) := dc_27 (by decide +kernel)
theorem d_WF_note_28 : decode b_WF_note 28 = .ok (.iload_n 2, 1) := dc_28 (by decide +kernel)
theorem d_WF_note_29 : decode b_WF_note 29 = .ok (.iconst (-1), 1) := dc_2 (by decide +kernel)
theorem d_WF_note_30 : decode b_WF_note 30 = .ok (.invokevirtual 371, 3) := dc_182 (by decide +kernel)
theorem d_WF_note_33 : decode b_WF_note 33 = .ok (.ireturn, 1) := dc_172 (by decide +kernel)
def t_WF_note_L23 (x1 : Int) (x2 : Int)  (M : Mem)  : Mem × Int := (qlet (t_Notes_add M x1 x2 (-1)) fun q8 => ((q8.1), (q8.2)))
def t_WF_note (M : Mem) (x1 : Int) (x2 : Int) : Mem × Int := (qlet (t_WF_isFree M x1) fun q1 => (if q1 = 0 then (M, (-1)) else (if x2 = (-1) then (t_WF_note_L23 x1 x2 M) else (qlet (t_WF_isFree M x2) fun q5 => (if q5 = 0 then (M, (-1)) else (t_WF_note_L23 x1 x2 M))))))
set_option maxHeartbeats 4000000 in
set_option maxRecDepth 100000 in
theorem k_WF_note_L23 (l : Launch) {p : Program} {e : Env} {s : State} {m : MethodId} {below : List Frame} {meth : Method} {c : Code} {b n : Nat} {C : CT} (hlo : 191 ≤ n) (x1 : Int) (x2 : Int) (hx1 : InR x1) (hx2 : InR x2) (F : Cx b p m c b_WF_note 3 s ([.ref (b + 0), vI x1, vI x2] : List Value).toArray "WardFalls" C n 191) (hlk : meth.locks = false) (hr : meth.sig.returnType = some .int) {res : Mem × Int} (M : Mem)  (H : Heap) (locs : List Loc) (ls : Array Slot) (hS : St b C n M s H locs) (hl : lv_has ls 3 [(0, .ref (b + 0)), (1, vI x1), (2, vI x2)]) (hT : t_WF_note_L23 x1 x2 M = res) : W p l e (headSpec (wsM y_WF_note b_WF_note 3 (some .int)) (rmD 2)).room s m ([.ref (b + 0), vI x1, vI x2] : List Value).toArray below meth c H locs 0 0 (MQ below (QI b C n res.1 res.2) ([.ref (b + 0), vI x1, vI x2] : List Value).toArray s 0 0 (frb b)) (F0 m 23 ls []) := by
  unfold t_WF_note_L23 at hT
  refine lv_aload_n F.hx F.hb d_WF_note_23 rfl (lv_at hl 0 rfl) ?_
  refine r_get (v := .ref (b + 172)) (N := 19) (T := T0) (j := 15) F hS (show 0 < 191 by decide) (show shK 0 = 4 from rfl) (show shN 0 = 19 from rfl) rfl (Nat.le_of_ble_eq_true rfl) ing0 mw_565 (fv_sg rfl rfl rfl) d_WF_note_24 ?_
  refine lv_iload_n F.hx F.hb d_WF_note_27 rfl (lv_at hl 1 rfl) ?_
  refine lv_iload_n F.hx F.hb d_WF_note_28 rfl (lv_at hl 2 rfl) ?_
  refine r_iconst F.hx F.hb d_WF_note_29 ?_
  obtain ⟨q8, hq8⟩ : ∃ q, q = (t_Notes_add M x1 x2 (-1)) := ⟨_, rfl⟩
  replace hT := qlet_eq hT hq8
  refine r_backI F hS (r_runV (k := 172) (N := 7) (T := T5) (As := [vI x1, vI x2, vI (-1)]) F hS (show 172 < 191 by decide) (show shK 172 = 9 from rfl) rfl (c_Notes_add l F.2.2.1 M x1 x2 (-1) hx1 hx2 (inr_c rfl) _ hq8.symm) gs_WF_371 hd_Notes_add ⟨Nat.le_of_ble_eq_true rfl, Nat.le_of_ble_eq_true rfl⟩ rfl hl.1 (Nat.le_of_ble_eq_true rfl) ⟨Nat.zero_le _, Nat.zero_le _⟩ rfl d_WF_note_30) (fun H locs hS h9 => ?_)
  subst hT
  exact r_iret F hlk hr rfl hS h9 d_WF_note_33
set_option maxHeartbeats 4000000 in
set_option maxRecDepth 100000 in
theorem c_WF_note (l : Launch) {b n : Nat} {C : CT} (hlo : 191 ≤ n) (M : Mem) (x1 : Int) (x2 : Int) (hx1 : InR x1) (hx2 : InR x2) (res : Mem × Int) (hT : t_WF_note M x1 x2 = res) : CM l b C n 2 y_WF_note b_WF_note 3 (some .int) [.ref (b + 0), vI x1, vI x2] M (QI b C n res.1 res.2) := by
  refine CM.of (lo := 191) (ow := "WardFalls") (by decide) rfl (Nat.le_of_ble_eq_true rfl) hlo (fun p e s m below meth c F hlk hr hS ls hl => ?_)
  have hl : lv_has ls 3 [(0, .ref (b + 0)), (1, vI x1), (2, vI x2)] := hl
  unfold t_WF_note at hT
  refine lv_aload_n F.hx F.hb d_WF_note_0 rfl (lv_at hl 0 rfl) ?_
  refine lv_iload_n F.hx F.hb d_WF_note_1 rfl (lv_at hl 1 rfl) ?_
  obtain ⟨q1, hq1⟩ : ∃ q, q = (t_WF_isFree M x1) := ⟨_, rfl⟩
  replace hT := qlet_eq hT hq1
  refine r_backZ F hS (r_runV (k := 0) (N := 19) (T := T0) (As := [vI x1]) F hS (show 0 < 191 by decide) (show shK 0 = 4 from rfl) rfl (c_WF_isFree l F.2.2.1 M x1 hx1 _ hq1.symm) gs_WF_250 hd_WF_isFree ⟨Nat.le_of_ble_eq_true rfl, Nat.le_of_ble_eq_true rfl⟩ rfl hl.1 (Nat.le_of_ble_eq_true rfl) ⟨Nat.zero_le _, Nat.zero_le _⟩ rfl d_WF_note_2) (fun H locs hS h2 => ?_)
  refine r_if_eq (tgt := 21) F.hx F.hb (inr_z h2) d_WF_note_5 (by decide) (fun c3 => ?_) (fun c3 => ?_)
  · replace hT := (if_pos c3).symm.trans hT
    refine r_iconst F.hx F.hb d_WF_note_21 ?_
    subst hT
    exact r_iret F hlk hr rfl hS (inr_c rfl) d_WF_note_22
  · replace hT := (if_neg c3).symm.trans hT
    refine lv_iload_n F.hx F.hb d_WF_note_8 rfl (lv_at hl 2 rfl) ?_
    refine r_iconst F.hx F.hb d_WF_note_9 ?_
    refine r_icmp_eq (tgt := 23) F.hx F.hb hx2 (inr_c rfl) d_WF_note_10 (by decide) (fun c4 => ?_) (fun c4 => ?_)
    · replace hT := (if_pos c4).symm.trans hT
      exact k_WF_note_L23 l hlo x1 x2 hx1 hx2 F hlk hr M _ _ _ hS (lv_sub hl [0, 1, 2] rfl) hT
    · replace hT := (if_neg c4).symm.trans hT
      refine lv_aload_n F.hx F.hb d_WF_note_13 rfl (lv_at hl 0 rfl) ?_
      refine lv_iload_n F.hx F.hb d_WF_note_14 rfl (lv_at hl 2 rfl) ?_
      obtain ⟨q5, hq5⟩ : ∃ q, q = (t_WF_isFree M x2) := ⟨_, rfl⟩
      replace hT := qlet_eq hT hq5
      refine r_backZ F hS (r_runV (k := 0) (N := 19) (T := T0) (As := [vI x2]) F hS (show 0 < 191 by decide) (show shK 0 = 4 from rfl) rfl (c_WF_isFree l F.2.2.1 M x2 hx2 _ hq5.symm) gs_WF_250 hd_WF_isFree ⟨Nat.le_of_ble_eq_true rfl, Nat.le_of_ble_eq_true rfl⟩ rfl hl.1 (Nat.le_of_ble_eq_true rfl) ⟨Nat.zero_le _, Nat.zero_le _⟩ rfl d_WF_note_15) (fun H locs hS h6 => ?_)
      refine r_if_ne (tgt := 23) F.hx F.hb (inr_z h6) d_WF_note_18 (by decide) (fun c7 => ?_) (fun c7 => ?_)
      · replace hT := (if_neg c7).symm.trans hT
        exact k_WF_note_L23 l hlo x1 x2 hx1 hx2 F hlk hr M _ _ _ hS (lv_sub hl [0, 1, 2] rfl) hT
      · replace hT := (if_pos c7).symm.trans hT
        refine r_iconst F.hx F.hb d_WF_note_21 ?_
        subst hT
        exact r_iret F hlk hr rfl hS (inr_c rfl) d_WF_note_22
