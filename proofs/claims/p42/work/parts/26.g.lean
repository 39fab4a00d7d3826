section
theorem wn_Laws_tryVotes_0 : ∀ i, i < 95 → bA b_Laws_tryVotes (0 + i) = wB [42, 180, 0, 151, 153, 0, 4, 177, 42, 4, 181, 0, 151, 45, 44, 182, 0, 155, 42, 43, 180, 0, 159, 181, 0, 162, 42, 4, 5, 42, 180, 0, 162, 104, 120, 181, 0, 163, 3, 54, 5, 21, 5, 42, 180, 0, 163, 162, 0, 94, 3, 54, 6, 21, 6, 42, 180, 0, 162, 162, 0, 27, 45, 180, 0, 166, 21, 6, 21, 5, 5, 21, 6, 104, 122, 6, 126, 184, 0, 68, 132, 6, 1, 167, 255, 226, 42, 43, 45, 182, 0, 169, 3, 54, 6] i := wB_of (by decide +kernel)
theorem d_Laws_tryVotes_0 : decode b_Laws_tryVotes 0 = .ok (.aload_n 0, 1) := dc_42 (q0_win (r := 0) wn_Laws_tryVotes_0 (by decide +kernel))
theorem d_Laws_tryVotes_1 : decode b_Laws_tryVotes 1 = .ok (.getfield 151, 3) := dc_180 (qU2_win (r := 1) wn_Laws_tryVotes_0 (by decide +kernel))
theorem d_Laws_tryVotes_4 : decode b_Laws_tryVotes 4 = .ok (.ifCond .eq 4, 3) := dc_153 (qS2_win (r := 4) wn_Laws_tryVotes_0 (by decide +kernel))
theorem d_Laws_tryVotes_7 : decode b_Laws_tryVotes 7 = .ok (.return_, 1) := dc_177 (q0_win (r := 7) wn_Laws_tryVotes_0 (by decide +kernel))
theorem d_Laws_tryVotes_8 : decode b_Laws_tryVotes 8 = .ok (.aload_n 0, 1) := dc_42 (q0_win (r := 8) wn_Laws_tryVotes_0 (by decide +kernel))
theorem d_Laws_tryVotes_9 : decode b_Laws_tryVotes 9 = .ok (.iconst 1, 1) := dc_4 (q0_win (r := 9) wn_Laws_tryVotes_0 (by decide +kernel))
theorem d_Laws_tryVotes_10 : decode b_Laws_tryVotes 10 = .ok (.putfield 151, 3) := dc_181 (qU2_win (r := 10) wn_Laws_tryVotes_0 (by decide +kernel))
theorem d_Laws_tryVotes_13 : decode b_Laws_tryVotes 13 = .ok (.aload_n 3, 1) := dc_45 (q0_win (r := 13) wn_Laws_tryVotes_0 (by decide +kernel))
theorem d_Laws_tryVotes_14 : decode b_Laws_tryVotes 14 = .ok (.aload_n 2, 1) := dc_44 (q0_win (r := 14) wn_Laws_tryVotes_0 (by decide +kernel))
theorem d_Laws_tryVotes_15 : decode b_Laws_tryVotes 15 = .ok (.invokevirtual 155, 3) := dc_182 (qU2_win (r := 15) wn_Laws_tryVotes_0 (by decide +kernel))
theorem d_Laws_tryVotes_18 : decode b_Laws_tryVotes 18 = .ok (.aload_n 0, 1) := dc_42 (q0_win (r := 18) wn_Laws_tryVotes_0 (by decide +kernel))
theorem d_Laws_tryVotes_19 : decode b_Laws_tryVotes 19 = .ok (.aload_n 1, 1) := dc_43 (q0_win (r := 19) wn_Laws_tryVotes_0 (by decide +kernel))
theorem d_Laws_tryVotes_20 : decode b_Laws_tryVotes 20 = .ok (.getfield 159, 3) := dc_180 (qU2_win (r := 20) wn_Laws_tryVotes_0 (by decide +kernel))
theorem d_Laws_tryVotes_23 : decode b_Laws_tryVotes 23 = .ok (.putfield 162, 3) := dc_181 (qU2_win (r := 23) wn_Laws_tryVotes_0 (by decide +kernel))
theorem d_Laws_tryVotes_26 : decode b_Laws_tryVotes 26 = .ok (.aload_n 0, 1) := dc_42 (q0_win (r := 26) wn_Laws_tryVotes_0 (by decide +kernel))
theorem d_Laws_tryVotes_27 : decode b_Laws_tryVotes 27 = .ok (.iconst 1, 1) := dc_4 (q0_win (r := 27) wn_Laws_tryVotes_0 (by decide +kernel))
theorem d_Laws_tryVotes_28 : decode b_Laws_tryVotes 28 = .ok (.iconst 2, 1) := dc_5 (q0_win (r := 28) wn_Laws_tryVotes_0 (by decide +kernel))
theorem d_Laws_tryVotes_29 : decode b_Laws_tryVotes 29 = .ok (.aload_n 0, 1) := dc_42 (q0_win (r := 29) wn_Laws_tryVotes_0 (by decide +kernel))
theorem d_Laws_tryVotes_30 : decode b_Laws_tryVotes 30 = .ok (.getfield 162, 3) := dc_180 (qU2_win (r := 30) wn_Laws_tryVotes_0 (by decide +kernel))
theorem d_Laws_tryVotes_33 : decode b_Laws_tryVotes 33 = .ok (.imul, 1) := dc_104 (q0_win (r := 33) wn_Laws_tryVotes_0 (by decide +kernel))
theorem d_Laws_tryVotes_34 : decode b_Laws_tryVotes 34 = .ok (.ishl, 1) := dc_120 (q0_win (r := 34) wn_Laws_tryVotes_0 (by decide +kernel))
theorem d_Laws_tryVotes_35 : decode b_Laws_tryVotes 35 = .ok (.putfield 163, 3) := dc_181 (qU2_win (r := 35) wn_Laws_tryVotes_0 (by decide +kernel))
theorem d_Laws_tryVotes_38 : decode b_Laws_tryVotes 38 = .ok (.iconst 0, 1) := dc_3 (q0_win (r := 38) wn_Laws_tryVotes_0 (by decide +kernel))
theorem d_Laws_tryVotes_39 : decode b_Laws_tryVotes 39 = .ok (.istore 5, 2) := dc_54 (qU1_win (r := 39) wn_Laws_tryVotes_0 (by decide +kernel))
theorem d_Laws_tryVotes_41 : decode b_Laws_tryVotes 41 = .ok (.iload 5, 2) := dc_21 (qU1_win (r := 41) wn_Laws_tryVotes_0 (by decide +kernel))
theorem d_Laws_tryVotes_43 : decode b_Laws_tryVotes 43 = .ok (.aload_n 0, 1) := dc_42 (q0_win (r := 43) wn_Laws_tryVotes_0 (by decide +kernel))
theorem d_Laws_tryVotes_44 : decode b_Laws_tryVotes 44 = .ok (.getfield 163, 3) := dc_180 (qU2_win (r := 44) wn_Laws_tryVotes_0 (by decide +kernel))
theorem d_Laws_tryVotes_47 : decode b_Laws_tryVotes 47 = .ok (.if_icmp .ge 94, 3) := dc_162 (qS2_win (r := 47) wn_Laws_tryVotes_0 (by decide +kernel))
theorem d_Laws_tryVotes_50 : decode b_Laws_tryVotes 50 = .ok (.iconst 0, 1) := dc_3 (q0_win (r := 50) wn_Laws_tryVotes_0 (by decide +kernel))
theorem d_Laws_tryVotes_51 : decode b_Laws_tryVotes 51 = .ok (.istore 6, 2) := dc_54 (qU1_win (r := 51) wn_Laws_tryVotes_0 (by decide +kernel))
theorem d_Laws_tryVotes_53 : decode b_Laws_tryVotes 53 = .ok (.iload 6, 2) := dc_21 (qU1_win (r := 53) wn_Laws_tryVotes_0 (by decide +kernel))
theorem d_Laws_tryVotes_55 : decode b_Laws_tryVotes 55 = .ok (.aload_n 0, 1) := dc_42 (q0_win (r := 55) wn_Laws_tryVotes_0 (by decide +kernel))
theorem d_Laws_tryVotes_56 : decode b_Laws_tryVotes 56 = .ok (.getfield 162, 3) := dc_180 (qU2_win (r := 56) wn_Laws_tryVotes_0 (by decide +kernel))
theorem d_Laws_tryVotes_59 : decode b_Laws_tryVotes 59 = .ok (.if_icmp .ge 27, 3) := dc_162 (qS2_win (r := 59) wn_Laws_tryVotes_0 (by decide +kernel))
theorem d_Laws_tryVotes_62 : decode b_Laws_tryVotes 62 = .ok (.aload_n 3, 1) := dc_45 (q0_win (r := 62) wn_Laws_tryVotes_0 (by decide +kernel))
theorem d_Laws_tryVotes_63 : decode b_Laws_tryVotes 63 = .ok (.getfield 166, 3) := dc_180 (qU2_win (r := 63) wn_Laws_tryVotes_0 (by decide +kernel))
theorem d_Laws_tryVotes_66 : decode b_Laws_tryVotes 66 = .ok (.iload 6, 2) := dc_21 (qU1_win (r := 66) wn_Laws_tryVotes_0 (by decide +kernel))
theorem d_Laws_tryVotes_68 : decode b_Laws_tryVotes 68 = .ok (.iload 5, 2) := dc_21 (qU1_win (r := 68) wn_Laws_tryVotes_0 (by decide +kernel))
theorem d_Laws_tryVotes_70 : decode b_Laws_tryVotes 70 = .ok (.iconst 2, 1) := dc_5 (q0_win (r := 70) wn_Laws_tryVotes_0 (by decide +kernel))
theorem d_Laws_tryVotes_71 : decode b_Laws_tryVotes 71 = .ok (.iload 6, 2) := dc_21 (qU1_win (r := 71) wn_Laws_tryVotes_0 (by decide +kernel))
theorem d_Laws_tryVotes_73 : decode b_Laws_tryVotes 73 = .ok (.imul, 1) := dc_104 (q0_win (r := 73) wn_Laws_tryVotes_0 (by decide +kernel))
theorem d_Laws_tryVotes_74 : decode b_Laws_tryVotes 74 = .ok (.ishr, 1) := dc_122 (q0_win (r := 74) wn_Laws_tryVotes_0 (by decide +kernel))
theorem d_Laws_tryVotes_75 : decode b_Laws_tryVotes 75 = .ok (.iconst 3, 1) := dc_6 (q0_win (r := 75) wn_Laws_tryVotes_0 (by decide +kernel))
theorem d_Laws_tryVotes_76 : decode b_Laws_tryVotes 76 = .ok (.iand, 1) := dc_126 (q0_win (r := 76) wn_Laws_tryVotes_0 (by decide +kernel))
theorem d_Laws_tryVotes_77 : decode b_Laws_tryVotes 77 = .ok (.invokestatic 68, 3) := dc_184 (qU2_win (r := 77) wn_Laws_tryVotes_0 (by decide +kernel))
theorem d_Laws_tryVotes_80 : decode b_Laws_tryVotes 80 = .ok (.iinc 6 1, 3) := dc_132 (qI_win (r := 80) wn_Laws_tryVotes_0 (by decide +kernel))
theorem d_Laws_tryVotes_83 : decode b_Laws_tryVotes 83 = .ok (.goto (-30), 3) := dc_167 (qS2_win (r := 83) wn_Laws_tryVotes_0 (by decide +kernel))
theorem d_Laws_tryVotes_86 : decode b_Laws_tryVotes 86 = .ok (.aload_n 0, 1) := dc_42 (q0_win (r := 86) wn_Laws_tryVotes_0 (by decide +kernel))
theorem d_Laws_tryVotes_87 : decode b_Laws_tryVotes 87 = .ok (.aload_n 1, 1) := dc_43 (q0_win (r := 87) wn_Laws_tryVotes_0 (by decide +kernel))
theorem d_Laws_tryVotes_88 : decode b_Laws_tryVotes 88 = .ok (.aload_n 3, 1) := dc_45 (q0_win (r := 88) wn_Laws_tryVotes_0 (by decide +kernel))
theorem d_Laws_tryVotes_89 : decode b_Laws_tryVotes 89 = .ok (.invokevirtual 169, 3) := dc_182 (qU2_win (r := 89) wn_Laws_tryVotes_0 (by decide +kernel))
theorem d_Laws_tryVotes_92 : decode b_Laws_tryVotes 92 = .ok (.iconst 0, 1) := dc_3 (q0_win (r := 92) wn_Laws_tryVotes_0 (by decide +kernel))
theorem d_Laws_tryVotes_93 : decode b_Laws_tryVotes 93 = .ok (.istore 6, 2) := dc_54 (qU1_win (r := 93) wn_Laws_tryVotes_0 (by decide +kernel))
theorem wn_Laws_tryVotes_95 : ∀ i, i < 47 → bA b_Laws_tryVotes (95 + i) = wB [21, 6, 42, 180, 0, 162, 162, 0, 34, 42, 180, 0, 32, 21, 6, 17, 1, 0, 104, 21, 5, 96, 42, 43, 21, 6, 21, 4, 182, 0, 173, 184, 0, 68, 132, 6, 1, 167, 255, 219, 132, 5, 1, 167, 255, 159, 177] i := wB_of (by decide +kernel)
theorem d_Laws_tryVotes_95 : decode b_Laws_tryVotes 95 = .ok (.iload 6, 2) := dc_21 (qU1_win (r := 0) wn_Laws_tryVotes_95 (by decide +kernel))
theorem d_Laws_tryVotes_97 : decode b_Laws_tryVotes 97 = .ok (.aload_n 0, 1) := dc_42 (q0_win (r := 2) wn_Laws_tryVotes_95 (by decide +kernel))
theorem d_Laws_tryVotes_98 : decode b_Laws_tryVotes 98 = .ok (.getfield 162, 3) := dc_180 (qU2_win (r := 3) wn_Laws_tryVotes_95 (by decide +kernel))
theorem d_Laws_tryVotes_101 : decode b_Laws_tryVotes 101 = .ok (.if_icmp .ge 34, 3) := dc_162 (qS2_win (r := 6) wn_Laws_tryVotes_95 (by decide +kernel))
theorem d_Laws_tryVotes_104 : decode b_Laws_tryVotes 104 = .ok (.aload_n 0, 1) := dc_42 (q0_win (r := 9) wn_Laws_tryVotes_95 (by decide +kernel))
theorem d_Laws_tryVotes_105 : decode b_Laws_tryVotes 105 = .ok (.getfield 32, 3) := dc_180 (qU2_win (r := 10) wn_Laws_tryVotes_95 (by decide +kernel))
theorem d_Laws_tryVotes_108 : decode b_Laws_tryVotes 108 = .ok (.iload 6, 2) := dc_21 (qU1_win (r := 13) wn_Laws_tryVotes_95 (by decide +kernel))
theorem d_Laws_tryVotes_110 : decode b_Laws_tryVotes 110 = .ok (.sipush 256, 3) := dc_17 (qS2_win (r := 15) wn_Laws_tryVotes_95 (by decide +kernel))
theorem d_Laws_tryVotes_113 : decode b_Laws_tryVotes 113 = .ok (.imul, 1) := dc_104 (q0_win (r := 18) wn_Laws_tryVotes_95 (by decide +kernel))
theorem d_Laws_tryVotes_114 : decode b_Laws_tryVotes 114 = .ok (.iload 5, 2) := dc_21 (qU1_win (r := 19) wn_Laws_tryVotes_95 (by decide +kernel))
theorem d_Laws_tryVotes_116 : decode b_Laws_tryVotes 116 = .ok (.iadd, 1) := dc_96 (q0_win (r := 21) wn_Laws_tryVotes_95 (by decide +kernel))
theorem d_Laws_tryVotes_117 : decode b_Laws_tryVotes 117 = .ok (.aload_n 0, 1) := dc_42 (q0_win (r := 22) wn_Laws_tryVotes_95 (by decide +kernel))
theorem d_Laws_tryVotes_118 : decode b_Laws_tryVotes 118 = .ok (.aload_n 1, 1) := dc_43 (q0_win (r := 23) wn_Laws_tryVotes_95 (by decide +kernel))
theorem d_Laws_tryVotes_119 : decode b_Laws_tryVotes 119 = .ok (.iload 6, 2) := dc_21 (qU1_win (r := 24) wn_Laws_tryVotes_95 (by decide +kernel))
theorem d_Laws_tryVotes_121 : decode b_Laws_tryVotes 121 = .ok (.iload 4, 2) := dc_21 (qU1_win (r := 26) wn_Laws_tryVotes_95 (by decide +kernel))
theorem d_Laws_tryVotes_123 : decode b_Laws_tryVotes 123 = .ok (.invokevirtual 173, 3) := dc_182 (qU2_win (r := 28) wn_Laws_tryVotes_95 (by decide +kernel))
theorem d_Laws_tryVotes_126 : decode b_Laws_tryVotes 126 = .ok (.invokestatic 68, 3) := dc_184 (qU2_win (r := 31) wn_Laws_tryVotes_95 (by decide +kernel))
theorem d_Laws_tryVotes_129 : decode b_Laws_tryVotes 129 = .ok (.iinc 6 1, 3) := dc_132 (qI_win (r := 34) wn_Laws_tryVotes_95 (by decide +kernel))
theorem d_Laws_tryVotes_132 : decode b_Laws_tryVotes 132 = .ok (.goto (-37), 3) := dc_167 (qS2_win (r := 37) wn_Laws_tryVotes_95 (by decide +kernel))
theorem d_Laws_tryVotes_135 : decode b_Laws_tryVotes 135 = .ok (.iinc 5 1, 3) := dc_132 (qI_win (r := 40) wn_Laws_tryVotes_95 (by decide +kernel))
theorem d_Laws_tryVotes_138 : decode b_Laws_tryVotes 138 = .ok (.goto (-97), 3) := dc_167 (qS2_win (r := 43) wn_Laws_tryVotes_95 (by decide +kernel))
theorem d_Laws_tryVotes_141 : decode b_Laws_tryVotes 141 = .ok (.return_, 1) := dc_177 (q0_win (r := 46) wn_Laws_tryVotes_95 (by decide +kernel))
def t_Laws_tryVotes_L95 (k1 : Nat) (k2 : Nat) (k3 : Nat) (x4 : Int) (bk41 : Mem → Int → Option (Mem)) : Nat → Mem → Int → Int → Option (Mem)
  | 0, _, _, _ => none
  | fu + 1, M, v4_, v5_ => (if (M.1 177 6) ≤ v5_ then (bk41 M (w32 (v4_ + 1))) else (obind (t_Laws_joyOf M k1 v5_ x4) fun q20 => (qlet (t_WF_put (q20.1) 184 1024 (w32 ((w32 (v5_ * 256)) + v4_)) (q20.2)) fun q22 => (t_Laws_tryVotes_L95 k1 k2 k3 x4 bk41 fu q22 v4_ (w32 (v5_ + 1))))))
def t_Laws_tryVotes_L53 (k1 : Nat) (k2 : Nat) (k3 : Nat) (x4 : Int) (bk41 : Mem → Int → Option (Mem)) : Nat → Mem → Int → Int → Option (Mem)
  | 0, _, _, _ => none
  | fu + 1, M, v4_, v5_ => (if (M.1 177 6) ≤ v5_ then (obind (t_Laws_measure M k1 k3) fun q14 => (t_Laws_tryVotes_L95 k1 k2 k3 x4 bk41 FU q14 v4_ 0)) else (qlet (t_WF_put M (k3 + 1) 4 v5_ (q_and (q_shr v4_ (w32 (2 * v5_))) 3)) fun q16 => (t_Laws_tryVotes_L53 k1 k2 k3 x4 bk41 fu q16 v4_ (w32 (v5_ + 1)))))
def t_Laws_tryVotes_L41 (k1 : Nat) (k2 : Nat) (k3 : Nat) (x4 : Int)  : Nat → Mem → Int → Option (Mem)
  | 0, _, _ => none
  | fu + 1, M, v4_ => (if (M.1 177 7) ≤ v4_ then (some M) else (t_Laws_tryVotes_L53 k1 k2 k3 x4 (fun a0_ a1_ => t_Laws_tryVotes_L41 k1 k2 k3 x4 fu a0_ a1_) FU M v4_ 0))
def t_Laws_tryVotes (M : Mem) (k1 : Nat) (k2 : Nat) (k3 : Nat) (x4 : Int) : Option (Mem) := (if (M.1 177 8) = 0 then (qlet (setI M 177 8 1) fun M3 => (qlet (t_Scene_copy M3 k3 k2) fun q4 => (qlet (setI q4 177 6 (q4.1 k1 14)) fun M7 => (qlet (setI M7 177 7 (q_shl 1 (w32 (2 * (M7.1 177 6))))) fun M9 => (t_Laws_tryVotes_L41 k1 k2 k3 x4 FU M9 0))))) else (some M))
set_option maxHeartbeats 4000000 in
set_option maxRecDepth 100000 in
theorem k_Laws_tryVotes_L95 (l : Launch) {p : Program} {e : Env} {s : State} {m : MethodId} {below : List Frame} {meth : Method} {c : Code} {b n : Nat} {C : CT} (hlo : 191 ≤ n) (k1 : Nat) (k2 : Nat) (k3 : Nat) (x4 : Int) (hk1 : isTown k1) (hk2 : isScene k2) (hk3 : isScene k3) (hx4 : InR x4) (F : Cx b p m c b_Laws_tryVotes 7 s ([.ref (b + 177), .ref (b + k1), .ref (b + k2), .ref (b + k3), vI x4] : List Value).toArray "WardFalls$Laws" C n 191) (hlk : meth.locks = false) (hr : meth.sig.returnType = none) {res : Mem} (bk41 : Mem → Int → Option (Mem)) (hbk41 : ∀ (M : Mem) (v4_ : Int) (hv4_ : InR v4_) (H : Heap) (locs : List Loc) (ls : Array Slot), St b C n M s H locs → lv_has ls 7 [(0, .ref (b + 177)), (1, .ref (b + k1)), (3, .ref (b + k3)), (4, vI x4), (5, vI v4_)] → bk41 M v4_ = some res → W p l e (headSpec (wsM y_Laws_tryVotes b_Laws_tryVotes 7 (none)) (rmD 6)).room s m ([.ref (b + 177), .ref (b + k1), .ref (b + k2), .ref (b + k3), vI x4] : List Value).toArray below meth c H locs 0 0 (MQ below (QV b C n res) ([.ref (b + 177), .ref (b + k1), .ref (b + k2), .ref (b + k3), vI x4] : List Value).toArray s 0 0 (frb b)) (F0 m 41 ls [])) : ∀ (fu : Nat) (M : Mem) (v4_ : Int) (hv4_ : InR v4_) (v5_ : Int) (hv5_ : InR v5_) (H : Heap) (locs : List Loc) (ls : Array Slot), St b C n M s H locs → lv_has ls 7 [(0, .ref (b + 177)), (1, .ref (b + k1)), (3, .ref (b + k3)), (4, vI x4), (5, vI v4_), (6, vI v5_)] → t_Laws_tryVotes_L95 k1 k2 k3 x4 bk41 fu M v4_ v5_ = some res → W p l e (headSpec (wsM y_Laws_tryVotes b_Laws_tryVotes 7 (none)) (rmD 6)).room s m ([.ref (b + 177), .ref (b + k1), .ref (b + k2), .ref (b + k3), vI x4] : List Value).toArray below meth c H locs 0 0 (MQ below (QV b C n res) ([.ref (b + 177), .ref (b + k1), .ref (b + k2), .ref (b + k3), vI x4] : List Value).toArray s 0 0 (frb b)) (F0 m 95 ls []) := by
  intro fu
  induction fu with
  | zero => intro M v4_ hv4_ v5_ hv5_ H locs ls hS hl hT; exact absurd hT (by simp [t_Laws_tryVotes_L95])
  | succ fu ih =>
    intro M v4_ hv4_ v5_ hv5_ H locs ls hS hl hT
    rw [t_Laws_tryVotes_L95] at hT
    refine lv_iload F.hx F.hb d_Laws_tryVotes_95 (lv_at hl 5 rfl) ?_
    refine lv_aload_n F.hx F.hb d_Laws_tryVotes_97 rfl (lv_at hl 0 rfl) ?_
    refine r_get (v := vI (M.1 177 6)) (N := 9) (T := T4) (j := 6) F hS (show 177 < 191 by decide) (show shK 177 = 8 from rfl) (show shN 177 = 9 from rfl) rfl (Nat.le_of_ble_eq_true rfl) ing4 mw_444 (fv_int rfl) d_Laws_tryVotes_98 ?_
    have i18 := hS.rng 177 6
    refine r_icmp_ge (tgt := 135) F.hx F.hb hv5_ i18 d_Laws_tryVotes_101 (by decide) (fun c19 => ?_) (fun c19 => ?_)
    · replace hT := (if_pos c19).symm.trans hT
      refine lv_iinc (v := Int32.ofInt (w32 (v4_ + 1))) (lv' := [(5, vI (w32 (v4_ + 1))), (0, .ref (b + 177)), (1, .ref (b + k1)), (3, .ref (b + k3)), (4, vI x4), (6, vI v5_)]) F.hx F.hb d_Laws_tryVotes_135 hl (k := 4) rfl (q_of_add _ _) (Nat.le_of_ble_eq_true rfl) rfl (fun ls hl => ?_)
      refine lv_goto (tgt := 41) F.hx F.hb d_Laws_tryVotes_138 (by decide) ?_
      exact hbk41 M (w32 (v4_ + 1)) (inr_w32 _) _ _ _ hS (lv_sub hl [1, 2, 3, 4, 0] rfl) hT
    · replace hT := (if_neg c19).symm.trans hT
      refine lv_aload_n F.hx F.hb d_Laws_tryVotes_104 rfl (lv_at hl 0 rfl) ?_
      refine r_get (v := .ref (b + 184)) (N := 9) (T := T4) (j := 5) F hS (show 177 < 191 by decide) (show shK 177 = 8 from rfl) (show shN 177 = 9 from rfl) rfl (Nat.le_of_ble_eq_true rfl) ing4 mw_443 (fv_sg rfl rfl rfl) d_Laws_tryVotes_105 ?_
      refine lv_iload F.hx F.hb d_Laws_tryVotes_108 (lv_at hl 5 rfl) ?_
      refine r_sipush F.hx F.hb d_Laws_tryVotes_110 rfl ?_
      refine r_imul F.hx F.hb d_Laws_tryVotes_113 ?_
      refine lv_iload F.hx F.hb d_Laws_tryVotes_114 (lv_at hl 4 rfl) ?_
      refine r_iadd F.hx F.hb d_Laws_tryVotes_116 ?_
      refine lv_aload_n F.hx F.hb d_Laws_tryVotes_117 rfl (lv_at hl 0 rfl) ?_
      refine lv_aload_n F.hx F.hb d_Laws_tryVotes_118 rfl (lv_at hl 1 rfl) ?_
      refine lv_iload F.hx F.hb d_Laws_tryVotes_119 (lv_at hl 5 rfl) ?_
      refine lv_iload F.hx F.hb d_Laws_tryVotes_121 (lv_at hl 3 rfl) ?_
      obtain ⟨q20, hq20, hT⟩ := q_obind hT
      refine r_backI F hS (r_runV (k := 177) (N := 9) (T := T4) (As := [.ref (b + k1), vI v5_, vI x4]) F hS (show 177 < 191 by decide) (show shK 177 = 8 from rfl) rfl (c_Laws_joyOf l F.2.2.1 M k1 v5_ x4 hk1 hv5_ hx4 _ hq20) gs_Laws_173 hd_Laws_joyOf ⟨Nat.le_of_ble_eq_true rfl, Nat.le_of_ble_eq_true rfl⟩ rfl hl.1 (Nat.le_of_ble_eq_true rfl) ⟨Nat.zero_le _, Nat.zero_le _⟩ rfl d_Laws_tryVotes_123) (fun H locs hS h21 => ?_)
      obtain ⟨q22, hq22⟩ : ∃ q, q = (t_WF_put (q20.1) 184 1024 (w32 ((w32 (v5_ * 256)) + v4_)) (q20.2)) := ⟨_, rfl⟩
      replace hT := qlet_eq hT hq22
      refine r_backV F hS (r_runSN (As := [.ref (b + 184), vI (w32 ((w32 (v5_ * 256)) + v4_)), vI (q20.2)]) F hS (c_WF_put l F.2.2.1 (q20.1) 184 1024 (w32 ((w32 (v5_ * 256)) + v4_)) (q20.2) (show arrP 0 184 1024 191 from ⟨rfl, rfl, by decide⟩) (inr_w32 _) h21 _ hq22.symm) mw_512 mw_511 mw_1 gs_Laws_68 hd_WF_put ⟨Nat.le_of_ble_eq_true rfl, Nat.le_of_ble_eq_true rfl⟩ rfl hl.1 (Nat.le_of_ble_eq_true rfl) ⟨Nat.zero_le _, Nat.zero_le _⟩ rfl d_Laws_tryVotes_126) (fun H locs hS => ?_)
      refine lv_iinc (v := Int32.ofInt (w32 (v5_ + 1))) (lv' := [(6, vI (w32 (v5_ + 1))), (0, .ref (b + 177)), (1, .ref (b + k1)), (3, .ref (b + k3)), (4, vI x4), (5, vI v4_)]) F.hx F.hb d_Laws_tryVotes_129 hl (k := 5) rfl (q_of_add _ _) (Nat.le_of_ble_eq_true rfl) rfl (fun ls hl => ?_)
      refine lv_goto (tgt := 95) F.hx F.hb d_Laws_tryVotes_132 (by decide) ?_
      exact ih q22 v4_ hv4_ (w32 (v5_ + 1)) (inr_w32 _) _ _ _ hS (lv_sub hl [1, 2, 3, 4, 5, 0] rfl) hT
set_option maxHeartbeats 4000000 in
set_option maxRecDepth 100000 in
theorem k_Laws_tryVotes_L53 (l : Launch) {p : Program} {e : Env} {s : State} {m : MethodId} {below : List Frame} {meth : Method} {c : Code} {b n : Nat} {C : CT} (hlo : 191 ≤ n) (k1 : Nat) (k2 : Nat) (k3 : Nat) (x4 : Int) (hk1 : isTown k1) (hk2 : isScene k2) (hk3 : isScene k3) (hx4 : InR x4) (F : Cx b p m c b_Laws_tryVotes 7 s ([.ref (b + 177), .ref (b + k1), .ref (b + k2), .ref (b + k3), vI x4] : List Value).toArray "WardFalls$Laws" C n 191) (hlk : meth.locks = false) (hr : meth.sig.returnType = none) {res : Mem} (bk41 : Mem → Int → Option (Mem)) (hbk41 : ∀ (M : Mem) (v4_ : Int) (hv4_ : InR v4_) (H : Heap) (locs : List Loc) (ls : Array Slot), St b C n M s H locs → lv_has ls 7 [(0, .ref (b + 177)), (1, .ref (b + k1)), (3, .ref (b + k3)), (4, vI x4), (5, vI v4_)] → bk41 M v4_ = some res → W p l e (headSpec (wsM y_Laws_tryVotes b_Laws_tryVotes 7 (none)) (rmD 6)).room s m ([.ref (b + 177), .ref (b + k1), .ref (b + k2), .ref (b + k3), vI x4] : List Value).toArray below meth c H locs 0 0 (MQ below (QV b C n res) ([.ref (b + 177), .ref (b + k1), .ref (b + k2), .ref (b + k3), vI x4] : List Value).toArray s 0 0 (frb b)) (F0 m 41 ls [])) : ∀ (fu : Nat) (M : Mem) (v4_ : Int) (hv4_ : InR v4_) (v5_ : Int) (hv5_ : InR v5_) (H : Heap) (locs : List Loc) (ls : Array Slot), St b C n M s H locs → lv_has ls 7 [(0, .ref (b + 177)), (1, .ref (b + k1)), (3, .ref (b + k3)), (4, vI x4), (5, vI v4_), (6, vI v5_)] → t_Laws_tryVotes_L53 k1 k2 k3 x4 bk41 fu M v4_ v5_ = some res → W p l e (headSpec (wsM y_Laws_tryVotes b_Laws_tryVotes 7 (none)) (rmD 6)).room s m ([.ref (b + 177), .ref (b + k1), .ref (b + k2), .ref (b + k3), vI x4] : List Value).toArray below meth c H locs 0 0 (MQ below (QV b C n res) ([.ref (b + 177), .ref (b + k1), .ref (b + k2), .ref (b + k3), vI x4] : List Value).toArray s 0 0 (frb b)) (F0 m 53 ls []) := by
  intro fu
  induction fu with
  | zero => intro M v4_ hv4_ v5_ hv5_ H locs ls hS hl hT; exact absurd hT (by simp [t_Laws_tryVotes_L53])
  | succ fu ih =>
    intro M v4_ hv4_ v5_ hv5_ H locs ls hS hl hT
    rw [t_Laws_tryVotes_L53] at hT
    refine lv_iload F.hx F.hb d_Laws_tryVotes_53 (lv_at hl 5 rfl) ?_
    refine lv_aload_n F.hx F.hb d_Laws_tryVotes_55 rfl (lv_at hl 0 rfl) ?_
    refine r_get (v := vI (M.1 177 6)) (N := 9) (T := T4) (j := 6) F hS (show 177 < 191 by decide) (show shK 177 = 8 from rfl) (show shN 177 = 9 from rfl) rfl (Nat.le_of_ble_eq_true rfl) ing4 mw_444 (fv_int rfl) d_Laws_tryVotes_56 ?_
    have i12 := hS.rng 177 6
    refine r_icmp_ge (tgt := 86) F.hx F.hb hv5_ i12 d_Laws_tryVotes_59 (by decide) (fun c13 => ?_) (fun c13 => ?_)
    · replace hT := (if_pos c13).symm.trans hT
      refine lv_aload_n F.hx F.hb d_Laws_tryVotes_86 rfl (lv_at hl 0 rfl) ?_
      refine lv_aload_n F.hx F.hb d_Laws_tryVotes_87 rfl (lv_at hl 1 rfl) ?_
      refine lv_aload_n F.hx F.hb d_Laws_tryVotes_88 rfl (lv_at hl 2 rfl) ?_
      obtain ⟨q14, hq14, hT⟩ := q_obind hT
      refine r_backV F hS (r_runV (k := 177) (N := 9) (T := T4) (As := [.ref (b + k1), .ref (b + k3)]) F hS (show 177 < 191 by decide) (show shK 177 = 8 from rfl) rfl (c_Laws_measure l F.2.2.1 M k1 k3 hk1 hk3 _ hq14) gs_Laws_169 hd_Laws_measure ⟨Nat.le_of_ble_eq_true rfl, Nat.le_of_ble_eq_true rfl⟩ rfl hl.1 (Nat.le_of_ble_eq_true rfl) ⟨Nat.zero_le _, Nat.zero_le _⟩ rfl d_Laws_tryVotes_89) (fun H locs hS => ?_)
      refine r_iconst F.hx F.hb d_Laws_tryVotes_92 ?_
      refine lv_istore (lv' := [(6, vI 0), (0, .ref (b + 177)), (1, .ref (b + k1)), (3, .ref (b + k3)), (4, vI x4), (5, vI v4_)]) F.hx F.hb d_Laws_tryVotes_93 hl (Nat.le_of_ble_eq_true rfl) rfl (fun ls hl => ?_)
      exact k_Laws_tryVotes_L95 l hlo k1 k2 k3 x4 hk1 hk2 hk3 hx4 F hlk hr bk41 hbk41 FU q14 v4_ hv4_ 0 (inr_c rfl) _ _ _ hS (lv_sub hl [1, 2, 3, 4, 5, 0] rfl) hT
    · replace hT := (if_neg c13).symm.trans hT
      refine lv_aload_n F.hx F.hb d_Laws_tryVotes_62 rfl (lv_at hl 2 rfl) ?_
      refine r_get (v := .ref (b + (k3 + 1))) (N := 7) (T := T9) (j := 0) F hS (Scene_lt hk3) (Scene_sh hk3) (Scene_N hk3) rfl (Nat.le_of_ble_eq_true rfl) ing9 mw_277 (Scene_g0 hk3 _) d_Laws_tryVotes_63 ?_
      refine lv_iload F.hx F.hb d_Laws_tryVotes_66 (lv_at hl 5 rfl) ?_
      refine lv_iload F.hx F.hb d_Laws_tryVotes_68 (lv_at hl 4 rfl) ?_
      refine r_iconst F.hx F.hb d_Laws_tryVotes_70 ?_
      refine lv_iload F.hx F.hb d_Laws_tryVotes_71 (lv_at hl 5 rfl) ?_
      refine r_imul F.hx F.hb d_Laws_tryVotes_73 ?_
      refine r_ishr F.hx F.hb d_Laws_tryVotes_74 ?_
      refine r_iconst F.hx F.hb d_Laws_tryVotes_75 ?_
      refine r_iand F.hx F.hb d_Laws_tryVotes_76 ?_
      obtain ⟨q16, hq16⟩ : ∃ q, q = (t_WF_put M (k3 + 1) 4 v5_ (q_and (q_shr v4_ (w32 (2 * v5_))) 3)) := ⟨_, rfl⟩
      replace hT := qlet_eq hT hq16
      refine r_backV F hS (r_runSN (As := [.ref (b + (k3 + 1)), vI v5_, vI (q_and (q_shr v4_ (w32 (2 * v5_))) 3)]) F hS (c_WF_put l F.2.2.1 M (k3 + 1) 4 v5_ (q_and (q_shr v4_ (w32 (2 * v5_))) 3) (Scene_f0 hk3) hv5_ (q_inr_toInt _) _ hq16.symm) mw_512 mw_511 mw_1 gs_Laws_68 hd_WF_put ⟨Nat.le_of_ble_eq_true rfl, Nat.le_of_ble_eq_true rfl⟩ rfl hl.1 (Nat.le_of_ble_eq_true rfl) ⟨Nat.zero_le _, Nat.zero_le _⟩ rfl d_Laws_tryVotes_77) (fun H locs hS => ?_)
      refine lv_iinc (v := Int32.ofInt (w32 (v5_ + 1))) (lv' := [(6, vI (w32 (v5_ + 1))), (0, .ref (b + 177)), (1, .ref (b + k1)), (3, .ref (b + k3)), (4, vI x4), (5, vI v4_)]) F.hx F.hb d_Laws_tryVotes_80 hl (k := 5) rfl (q_of_add _ _) (Nat.le_of_ble_eq_true rfl) rfl (fun ls hl => ?_)
      refine lv_goto (tgt := 53) F.hx F.hb d_Laws_tryVotes_83 (by decide) ?_
      exact ih q16 v4_ hv4_ (w32 (v5_ + 1)) (inr_w32 _) _ _ _ hS (lv_sub hl [1, 2, 3, 4, 5, 0] rfl) hT
set_option maxHeartbeats 4000000 in
set_option maxRecDepth 100000 in
theorem k_Laws_tryVotes_L41 (l : Launch) {p : Program} {e : Env} {s : State} {m : MethodId} {below : List Frame} {meth : Method} {c : Code} {b n : Nat} {C : CT} (hlo : 191 ≤ n) (k1 : Nat) (k2 : Nat) (k3 : Nat) (x4 : Int) (hk1 : isTown k1) (hk2 : isScene k2) (hk3 : isScene k3) (hx4 : InR x4) (F : Cx b p m c b_Laws_tryVotes 7 s ([.ref (b + 177), .ref (b + k1), .ref (b + k2), .ref (b + k3), vI x4] : List Value).toArray "WardFalls$Laws" C n 191) (hlk : meth.locks = false) (hr : meth.sig.returnType = none) {res : Mem} : ∀ (fu : Nat) (M : Mem) (v4_ : Int) (hv4_ : InR v4_) (H : Heap) (locs : List Loc) (ls : Array Slot), St b C n M s H locs → lv_has ls 7 [(0, .ref (b + 177)), (1, .ref (b + k1)), (3, .ref (b + k3)), (4, vI x4), (5, vI v4_)] → t_Laws_tryVotes_L41 k1 k2 k3 x4 fu M v4_ = some res → W p l e (headSpec (wsM y_Laws_tryVotes b_Laws_tryVotes 7 (none)) (rmD 6)).room s m ([.ref (b + 177), .ref (b + k1), .ref (b + k2), .ref (b + k3), vI x4] : List Value).toArray below meth c H locs 0 0 (MQ below (QV b C n res) ([.ref (b + 177), .ref (b + k1), .ref (b + k2), .ref (b + k3), vI x4] : List Value).toArray s 0 0 (frb b)) (F0 m 41 ls []) := by
  intro fu
  induction fu with
  | zero => intro M v4_ hv4_ H locs ls hS hl hT; exact absurd hT (by simp [t_Laws_tryVotes_L41])
  | succ fu ih =>
    intro M v4_ hv4_ H locs ls hS hl hT
    rw [t_Laws_tryVotes_L41] at hT
    refine lv_iload F.hx F.hb d_Laws_tryVotes_41 (lv_at hl 4 rfl) ?_
    refine lv_aload_n F.hx F.hb d_Laws_tryVotes_43 rfl (lv_at hl 0 rfl) ?_
    refine r_get (v := vI (M.1 177 7)) (N := 9) (T := T4) (j := 7) F hS (show 177 < 191 by decide) (show shK 177 = 8 from rfl) (show shN 177 = 9 from rfl) rfl (Nat.le_of_ble_eq_true rfl) ing4 mw_445 (fv_int rfl) d_Laws_tryVotes_44 ?_
    have i10 := hS.rng 177 7
    refine r_icmp_ge (tgt := 141) F.hx F.hb hv4_ i10 d_Laws_tryVotes_47 (by decide) (fun c11 => ?_) (fun c11 => ?_)
    · replace hT := (if_pos c11).symm.trans hT
      cases hT
      exact r_vret F hlk hr hS d_Laws_tryVotes_141
    · replace hT := (if_neg c11).symm.trans hT
      refine r_iconst F.hx F.hb d_Laws_tryVotes_50 ?_
      refine lv_istore (lv' := [(6, vI 0), (0, .ref (b + 177)), (1, .ref (b + k1)), (3, .ref (b + k3)), (4, vI x4), (5, vI v4_)]) F.hx F.hb d_Laws_tryVotes_51 hl (Nat.le_of_ble_eq_true rfl) rfl (fun ls hl => ?_)
      exact k_Laws_tryVotes_L53 l hlo k1 k2 k3 x4 hk1 hk2 hk3 hx4 F hlk hr (fun a0_ a1_ => t_Laws_tryVotes_L41 k1 k2 k3 x4 fu a0_ a1_) ih FU M v4_ hv4_ 0 (inr_c rfl) _ _ _ hS (lv_sub hl [1, 2, 3, 4, 5, 0] rfl) hT
set_option maxHeartbeats 4000000 in
set_option maxRecDepth 100000 in
theorem c_Laws_tryVotes (l : Launch) {b n : Nat} {C : CT} (hlo : 191 ≤ n) (M : Mem) (k1 : Nat) (k2 : Nat) (k3 : Nat) (x4 : Int) (hk1 : isTown k1) (hk2 : isScene k2) (hk3 : isScene k3) (hx4 : InR x4) (res : Mem) (hT : t_Laws_tryVotes M k1 k2 k3 x4 = some res) : CM l b C n 6 y_Laws_tryVotes b_Laws_tryVotes 7 (none) [.ref (b + 177), .ref (b + k1), .ref (b + k2), .ref (b + k3), vI x4] M (QV b C n res) := by
  refine CM.of (lo := 191) (ow := "WardFalls$Laws") (by decide) rfl (Nat.le_of_ble_eq_true rfl) hlo (fun p e s m below meth c F hlk hr hS ls hl => ?_)
  have hl : lv_has ls 7 [(0, .ref (b + 177)), (1, .ref (b + k1)), (2, .ref (b + k2)), (3, .ref (b + k3)), (4, vI x4)] := hl
  unfold t_Laws_tryVotes at hT
  refine lv_aload_n F.hx F.hb d_Laws_tryVotes_0 rfl (lv_at hl 0 rfl) ?_
  refine r_get (v := vI (M.1 177 8)) (N := 9) (T := T4) (j := 8) F hS (show 177 < 191 by decide) (show shK 177 = 8 from rfl) (show shN 177 = 9 from rfl) rfl (Nat.le_of_ble_eq_true rfl) ing4 mw_447 (fv_int rfl) d_Laws_tryVotes_1 ?_
  have i1 := hS.rng 177 8
  refine r_if_eq (tgt := 8) F.hx F.hb i1 d_Laws_tryVotes_4 (by decide) (fun c2 => ?_) (fun c2 => ?_)
  · replace hT := (if_pos c2).symm.trans hT
    refine lv_aload_n F.hx F.hb d_Laws_tryVotes_8 rfl (lv_at hl 0 rfl) ?_
    refine r_iconst F.hx F.hb d_Laws_tryVotes_9 ?_
    refine r_putI (N := 9) (T := T4) (j := 8) F hS (show 177 < 191 by decide) (show shK 177 = 8 from rfl) (show shN 177 = 9 from rfl) rfl (Nat.le_of_ble_eq_true rfl) ing4 tyok4 nm4 rfl rfl (nar_z (Or.inr rfl)) (fit_z (Or.inr rfl)) rfl rfl mw_447 (inr_c rfl) d_Laws_tryVotes_10 (fun H locs hS => ?_)
    obtain ⟨M3, eM3⟩ : ∃ q, q = (setI M 177 8 1) := ⟨_, rfl⟩
    replace hS : St b C n M3 s H locs := by rw [eM3]; exact hS
    replace hT := qlet_eq hT eM3
    refine lv_aload_n F.hx F.hb d_Laws_tryVotes_13 rfl (lv_at hl 3 rfl) ?_
    refine lv_aload_n F.hx F.hb d_Laws_tryVotes_14 rfl (lv_at hl 2 rfl) ?_
    obtain ⟨q4, hq4⟩ : ∃ q, q = (t_Scene_copy M3 k3 k2) := ⟨_, rfl⟩
    replace hT := qlet_eq hT hq4
    refine r_backV F hS (r_runV (k := k3) (N := 7) (T := T9) (As := [.ref (b + k2)]) F hS (Scene_lt hk3) (Scene_sh hk3) rfl (c_Scene_copy l F.2.2.1 M3 k3 k2 hk3 hk2 _ hq4.symm) gs_Laws_155 hd_Scene_copy ⟨Nat.le_of_ble_eq_true rfl, Nat.le_of_ble_eq_true rfl⟩ rfl hl.1 (Nat.le_of_ble_eq_true rfl) ⟨Nat.zero_le _, Nat.zero_le _⟩ rfl d_Laws_tryVotes_15) (fun H locs hS => ?_)
    refine lv_aload_n F.hx F.hb d_Laws_tryVotes_18 rfl (lv_at hl 0 rfl) ?_
    refine lv_aload_n F.hx F.hb d_Laws_tryVotes_19 rfl (lv_at hl 1 rfl) ?_
    refine r_get (v := vI (q4.1 k1 14)) (N := 20) (T := T11) (j := 14) F hS (Town_lt hk1) (Town_sh hk1) (Town_N hk1) rfl (Nat.le_of_ble_eq_true rfl) ing11 mw_139 (fv_int rfl) d_Laws_tryVotes_20 ?_
    have i6 := hS.rng k1 14
    refine r_putI (N := 9) (T := T4) (j := 6) F hS (show 177 < 191 by decide) (show shK 177 = 8 from rfl) (show shN 177 = 9 from rfl) rfl (Nat.le_of_ble_eq_true rfl) ing4 tyok4 nm4 rfl rfl rfl rfl rfl rfl mw_444 i6 d_Laws_tryVotes_23 (fun H locs hS => ?_)
    obtain ⟨M7, eM7⟩ : ∃ q, q = (setI q4 177 6 (q4.1 k1 14)) := ⟨_, rfl⟩
    replace hS : St b C n M7 s H locs := by rw [eM7]; exact hS
    replace hT := qlet_eq hT eM7
    refine lv_aload_n F.hx F.hb d_Laws_tryVotes_26 rfl (lv_at hl 0 rfl) ?_
    refine r_iconst F.hx F.hb d_Laws_tryVotes_27 ?_
    refine r_iconst F.hx F.hb d_Laws_tryVotes_28 ?_
    refine lv_aload_n F.hx F.hb d_Laws_tryVotes_29 rfl (lv_at hl 0 rfl) ?_
    refine r_get (v := vI (M7.1 177 6)) (N := 9) (T := T4) (j := 6) F hS (show 177 < 191 by decide) (show shK 177 = 8 from rfl) (show shN 177 = 9 from rfl) rfl (Nat.le_of_ble_eq_true rfl) ing4 mw_444 (fv_int rfl) d_Laws_tryVotes_30 ?_
    have i8 := hS.rng 177 6
    refine r_imul F.hx F.hb d_Laws_tryVotes_33 ?_
    refine r_ishl F.hx F.hb d_Laws_tryVotes_34 ?_
    refine r_putI (N := 9) (T := T4) (j := 7) F hS (show 177 < 191 by decide) (show shK 177 = 8 from rfl) (show shN 177 = 9 from rfl) rfl (Nat.le_of_ble_eq_true rfl) ing4 tyok4 nm4 rfl rfl rfl rfl rfl rfl mw_445 (q_inr_toInt _) d_Laws_tryVotes_35 (fun H locs hS => ?_)
    obtain ⟨M9, eM9⟩ : ∃ q, q = (setI M7 177 7 (q_shl 1 (w32 (2 * (M7.1 177 6))))) := ⟨_, rfl⟩
    replace hS : St b C n M9 s H locs := by rw [eM9]; exact hS
    replace hT := qlet_eq hT eM9
    refine r_iconst F.hx F.hb d_Laws_tryVotes_38 ?_
    refine lv_istore (lv' := [(5, vI 0), (0, .ref (b + 177)), (1, .ref (b + k1)), (2, .ref (b + k2)), (3, .ref (b + k3)), (4, vI x4)]) F.hx F.hb d_Laws_tryVotes_39 hl (Nat.le_of_ble_eq_true rfl) rfl (fun ls hl => ?_)
    exact k_Laws_tryVotes_L41 l hlo k1 k2 k3 x4 hk1 hk2 hk3 hx4 F hlk hr FU M9 0 (inr_c rfl) _ _ _ hS (lv_sub hl [1, 2, 4, 5, 0] rfl) hT
  · replace hT := (if_neg c2).symm.trans hT
    cases hT
    exact r_vret F hlk hr hS d_Laws_tryVotes_7
theorem d_Laws_joyBy_0 : decode b_Laws_joyBy 0 = .ok (.aload_n 0, 1) := dc_42 (by decide +kernel)
theorem d_Laws_joyBy_1 : decode b_Laws_joyBy 1 = .ok (.getfield 32, 3) := dc_180 (by decide +kernel)
theorem d_Laws_joyBy_4 : decode b_Laws_joyBy 4 = .ok (.iload_n 1, 1) := dc_27 (by decide +kernel)
theorem d_Laws_joyBy_5 : decode b_Laws_joyBy 5 = .ok (.sipush 256, 3) := dc_17 (by decide +kernel)
theorem d_Laws_joyBy_8 : decode b_Laws_joyBy 8 = .ok (.imul, 1) := dc_104 (by decide +kernel)
theorem d_Laws_joyBy_9 : decode b_Laws_joyBy 9 = .ok (.iload_n 2, 1) := dc_28 (by decide +kernel)
theorem d_Laws_joyBy_10 : decode b_Laws_joyBy 10 = .ok (.iadd, 1) := dc_96 (by decide +kernel)
theorem d_Laws_joyBy_11 : decode b_Laws_joyBy 11 = .ok (.invokestatic 52, 3) := dc_184 (by decide +kernel)
theorem d_Laws_joyBy_14 : decode b_Laws_joyBy 14 = .ok (.ireturn, 1) := dc_172 (by decide +kernel)
def t_Laws_joyBy (M : Mem) (x1 : Int) (x2 : Int) : Int := (qlet (t_WF_look M 184 1024 (w32 ((w32 (x1 * 256)) + x2))) fun q1 => q1)
set_option maxHeartbeats 4000000 in
set_option maxRecDepth 100000 in
theorem c_Laws_joyBy (l : Launch) {b n : Nat} {C : CT} (hlo : 191 ≤ n) (M : Mem) (x1 : Int) (x2 : Int) (hx1 : InR x1) (hx2 : InR x2) (res : Int) (hT : t_Laws_joyBy M x1 x2 = res) : CM l b C n 1 y_Laws_joyBy b_Laws_joyBy 3 (some .int) [.ref (b + 177), vI x1, vI x2] M (QI b C n M res) := by
  refine CM.of (lo := 191) (ow := "WardFalls$Laws") (by decide) rfl (Nat.le_of_ble_eq_true rfl) hlo (fun p e s m below meth c F hlk hr hS ls hl => ?_)
  have hl : lv_has ls 3 [(0, .ref (b + 177)), (1, vI x1), (2, vI x2)] := hl
  unfold t_Laws_joyBy at hT
  refine lv_aload_n F.hx F.hb d_Laws_joyBy_0 rfl (lv_at hl 0 rfl) ?_
  refine r_get (v := .ref (b + 184)) (N := 9) (T := T4) (j := 5) F hS (show 177 < 191 by decide) (show shK 177 = 8 from rfl) (show shN 177 = 9 from rfl) rfl (Nat.le_of_ble_eq_true rfl) ing4 mw_443 (fv_sg rfl rfl rfl) d_Laws_joyBy_1 ?_
  refine lv_iload_n F.hx F.hb d_Laws_joyBy_4 rfl (lv_at hl 1 rfl) ?_
  refine r_sipush F.hx F.hb d_Laws_joyBy_5 rfl ?_
  refine r_imul F.hx F.hb d_Laws_joyBy_8 ?_
  refine lv_iload_n F.hx F.hb d_Laws_joyBy_9 rfl (lv_at hl 2 rfl) ?_
  refine r_iadd F.hx F.hb d_Laws_joyBy_10 ?_
  obtain ⟨q1, hq1⟩ : ∃ q, q = (t_WF_look M 184 1024 (w32 ((w32 (x1 * 256)) + x2))) := ⟨_, rfl⟩
  replace hT := qlet_eq hT hq1
  refine r_backI F hS (r_runSN (As := [.ref (b + 184), vI (w32 ((w32 (x1 * 256)) + x2))]) F hS (c_WF_look l F.2.2.1 M 184 1024 (w32 ((w32 (x1 * 256)) + x2)) (show arrP 0 184 1024 191 from ⟨rfl, rfl, by decide⟩) (inr_w32 _) _ hq1.symm) mw_519 mw_518 mw_1 gs_Laws_52 hd_WF_look ⟨Nat.le_of_ble_eq_true rfl, Nat.le_of_ble_eq_true rfl⟩ rfl hl.1 (Nat.le_of_ble_eq_true rfl) ⟨Nat.zero_le _, Nat.zero_le _⟩ rfl d_Laws_joyBy_11) (fun H locs hS h2 => ?_)
  subst hT
  exact r_iret F hlk hr rfl hS h2 d_Laws_joyBy_14
theorem d_Laws_moved_0 : decode b_Laws_moved 0 = .ok (.iconst 0, 1) := dc_3 (by decide +kernel)
theorem d_Laws_moved_1 : decode b_Laws_moved 1 = .ok (.istore_n 2, 1) := dc_61 (by decide +kernel)
theorem d_Laws_moved_2 : decode b_Laws_moved 2 = .ok (.iload_n 2, 1) := dc_28 (by decide +kernel)
theorem d_Laws_moved_3 : decode b_Laws_moved 3 = .ok (.aload_n 0, 1) := dc_42 (by decide +kernel)
theorem d_Laws_moved_4 : decode b_Laws_moved 4 = .ok (.getfield 162, 3) := dc_180 (by decide +kernel)
theorem d_Laws_moved_7 : decode b_Laws_moved 7 = .ok (.if_icmp .ge 70, 3) := dc_162 (by decide +kernel)
theorem d_Laws_moved_10 : decode b_Laws_moved 10 = .ok (.iload_n 1, 1) := dc_27 (by decide +kernel)
theorem d_Laws_moved_11 : decode b_Laws_moved 11 = .ok (.istore_n 3, 1) := dc_62 (by decide +kernel)
theorem d_Laws_moved_12 : decode b_Laws_moved 12 = .ok (.iconst 0, 1) := dc_3 (by decide +kernel)
theorem d_Laws_moved_13 : decode b_Laws_moved 13 = .ok (.istore 4, 2) := dc_54 (by decide +kernel)
theorem d_Laws_moved_15 : decode b_Laws_moved 15 = .ok (.iload 4, 2) := dc_21 (by decide +kernel)
theorem d_Laws_moved_17 : decode b_Laws_moved 17 = .ok (.iconst 4, 1) := dc_7 (by decide +kernel)
theorem d_Laws_moved_18 : decode b_Laws_moved 18 = .ok (.if_icmp .ge 46, 3) := dc_162 (by decide +kernel)
theorem d_Laws_moved_21 : decode b_Laws_moved 21 = .ok (.iload_n 1, 1) := dc_27 (by decide +kernel)
theorem d_Laws_moved_22 : decode b_Laws_moved 22 = .ok (.iconst 3, 1) := dc_6 (by decide +kernel)
theorem d_Laws_moved_23 : decode b_Laws_moved 23 = .ok (.iconst 2, 1) := dc_5 (by decide +kernel)
theorem d_Laws_moved_24 : decode b_Laws_moved 24 = .ok (.iload_n 2, 1) := dc_28 (by decide +kernel)
theorem d_Laws_moved_25 : decode b_Laws_moved 25 = .ok (.imul, 1) := dc_104 (by decide +kernel)
theorem d_Laws_moved_26 : decode b_Laws_moved 26 = .ok (.ishl, 1) := dc_120 (by decide +kernel)
theorem d_Laws_moved_27 : decode b_Laws_moved 27 = .ok (.iconst (-1), 1) := dc_2 (by decide +kernel)
theorem d_Laws_moved_28 : decode b_Laws_moved 28 = .ok (.ixor, 1) := dc_130 (by decide +kernel)
theorem d_Laws_moved_29 : decode b_Laws_moved 29 = .ok (.iand, 1) := dc_126 (by decide +kernel)
theorem d_Laws_moved_30 : decode b_Laws_moved 30 = .ok (.iload 4, 2) := dc_21 (by decide +kernel)
theorem d_Laws_moved_32 : decode b_Laws_moved 32 = .ok (.iconst 2, 1) := dc_5 (by decide +kernel)
theorem d_Laws_moved_33 : decode b_Laws_moved 33 = .ok (.iload_n 2, 1) := dc_28 (by decide +kernel)
theorem d_Laws_moved_34 : decode b_Laws_moved 34 = .ok (.imul, 1) := dc_104 (by decide +kernel)
theorem d_Laws_moved_35 : decode b_Laws_moved 35 = .ok (.ishl, 1) := dc_120 (by decide +kernel)
theorem d_Laws_moved_36 : decode b_Laws_moved 36 = .ok (.ior, 1) := dc_128 (by decide +kernel)
theorem d_Laws_moved_37 : decode b_Laws_moved 37 = .ok (.istore 5, 2) := dc_54 (by decide +kernel)
theorem d_Laws_moved_39 : decode b_Laws_moved 39 = .ok (.aload_n 0, 1) := dc_42 (by decide +kernel)
theorem d_Laws_moved_40 : decode b_Laws_moved 40 = .ok (.iload_n 2, 1) := dc_28 (by decide +kernel)
theorem d_Laws_moved_41 : decode b_Laws_moved 41 = .ok (.iload 5, 2) := dc_21 (by decide +kernel)
theorem d_Laws_moved_43 : decode b_Laws_moved 43 = .ok (.invokevirtual 180, 3) := dc_182 (by decide +kernel)
theorem d_Laws_moved_46 : decode b_Laws_moved 46 = .ok (.aload_n 0, 1) := dc_42 (by decide +kernel)
theorem d_Laws_moved_47 : decode b_Laws_moved 47 = .ok (.iload_n 2, 1) := dc_28 (by decide +kernel)
theorem d_Laws_moved_48 : decode b_Laws_moved 48 = .ok (.iload_n 3, 1) := dc_29 (by decide +kernel)
theorem d_Laws_moved_49 : decode b_Laws_moved 49 = .ok (.invokevirtual 180, 3) := dc_182 (by decide +kernel)
theorem d_Laws_moved_52 : decode b_Laws_moved 52 = .ok (.if_icmp .le 6, 3) := dc_164 (by decide +kernel)
theorem d_Laws_moved_55 : decode b_Laws_moved 55 = .ok (.iload 5, 2) := dc_21 (by decide +kernel)
theorem d_Laws_moved_57 : decode b_Laws_moved 57 = .ok (.istore_n 3, 1) := dc_62 (by decide +kernel)
theorem d_Laws_moved_58 : decode b_Laws_moved 58 = .ok (.iinc 4 1, 3) := dc_132 (by decide +kernel)
theorem d_Laws_moved_61 : decode b_Laws_moved 61 = .ok (.goto (-46), 3) := dc_167 (by decide +kernel)
theorem d_Laws_moved_64 : decode b_Laws_moved 64 = .ok (.iload_n 3, 1) := dc_29 (by decide +kernel)
theorem d_Laws_moved_65 : decode b_Laws_moved 65 = .ok (.iload_n 1, 1) := dc_27 (by decide +kernel)
theorem d_Laws_moved_66 : decode b_Laws_moved 66 = .ok (.if_icmp .eq 5, 3) := dc_159 (by decide +kernel)
theorem d_Laws_moved_69 : decode b_Laws_moved 69 = .ok (.iload_n 3, 1) := dc_29 (by decide +kernel)
theorem d_Laws_moved_70 : decode b_Laws_moved 70 = .ok (.ireturn, 1) := dc_172 (by decide +kernel)
theorem d_Laws_moved_71 : decode b_Laws_moved 71 = .ok (.iinc 2 1, 3) := dc_132 (by decide +kernel)
theorem d_Laws_moved_74 : decode b_Laws_moved 74 = .ok (.goto (-72), 3) := dc_167 (by decide +kernel)
theorem d_Laws_moved_77 : decode b_Laws_moved 77 = .ok (.iload_n 1, 1) := dc_27 (by decide +kernel)
theorem d_Laws_moved_78 : decode b_Laws_moved 78 = .ok (.ireturn, 1) := dc_172 (by decide +kernel)
def t_Laws_moved_L58 (x1 : Int) (bk2 : Mem → Int → Option (Int)) (bk15 : Mem → Int → Int → Int → Option (Int)) (M : Mem) (v2_ : Int) (v3_ : Int) (v4_ : Int) : Option (Int) := (bk15 M v2_ v3_ (w32 (v4_ + 1)))
def t_Laws_moved_L15 (x1 : Int) (bk2 : Mem → Int → Option (Int)) : Nat → Mem → Int → Int → Int → Option (Int)
  | 0, _, _, _, _ => none
  | fu + 1, M, v2_, v3_, v4_ => (if 4 ≤ v4_ then (if v3_ = x1 then (bk2 M (w32 (v2_ + 1))) else (some v3_)) else (qlet (t_Laws_joyBy M v2_ (q_or (q_and x1 (q_xor (q_shl 3 (w32 (2 * v2_))) (-1))) (q_shl v4_ (w32 (2 * v2_))))) fun q5 => (qlet (t_Laws_joyBy M v2_ v3_) fun q7 => (if q5 ≤ q7 then (t_Laws_moved_L58 x1 bk2 (fun a0_ a1_ a2_ a3_ => t_Laws_moved_L15 x1 bk2 fu a0_ a1_ a2_ a3_) M v2_ v3_ v4_) else (t_Laws_moved_L58 x1 bk2 (fun a0_ a1_ a2_ a3_ => t_Laws_moved_L15 x1 bk2 fu a0_ a1_ a2_ a3_) M v2_ (q_or (q_and x1 (q_xor (q_shl 3 (w32 (2 * v2_))) (-1))) (q_shl v4_ (w32 (2 * v2_)))) v4_)))))
def t_Laws_moved_L2 (x1 : Int)  : Nat → Mem → Int → Option (Int)
  | 0, _, _ => none
  | fu + 1, M, v2_ => (if (M.1 177 6) ≤ v2_ then (some x1) else (t_Laws_moved_L15 x1 (fun a0_ a1_ => t_Laws_moved_L2 x1 fu a0_ a1_) FU M v2_ x1 0))
def t_Laws_moved (M : Mem) (x1 : Int) : Option (Int) := (t_Laws_moved_L2 x1 FU M 0)
set_option maxHeartbeats 4000000 in
set_option maxRecDepth 100000 in
theorem k_Laws_moved_L58 (l : Launch) {p : Program} {e : Env} {s : State} {m : MethodId} {below : List Frame} {meth : Method} {c : Code} {b n : Nat} {C : CT} (hlo : 191 ≤ n) (x1 : Int) (hx1 : InR x1) (F : Cx b p m c b_Laws_moved 6 s ([.ref (b + 177), vI x1] : List Value).toArray "WardFalls$Laws" C n 191) (hlk : meth.locks = false) (hr : meth.sig.returnType = some .int) {res : Int} (bk2 : Mem → Int → Option (Int)) (hbk2 : ∀ (M : Mem) (v2_ : Int) (hv2_ : InR v2_) (H : Heap) (locs : List Loc) (ls : Array Slot), St b C n M s H locs → lv_has ls 6 [(0, .ref (b + 177)), (1, vI x1), (2, vI v2_)] → bk2 M v2_ = some res → W p l e (headSpec (wsM y_Laws_moved b_Laws_moved 6 (some .int)) (rmD 2)).room s m ([.ref (b + 177), vI x1] : List Value).toArray below meth c H locs 0 0 (MQ below (QI b C n M res) ([.ref (b + 177), vI x1] : List Value).toArray s 0 0 (frb b)) (F0 m 2 ls [])) (bk15 : Mem → Int → Int → Int → Option (Int)) (hbk15 : ∀ (M : Mem) (v2_ : Int) (hv2_ : InR v2_) (v3_ : Int) (hv3_ : InR v3_) (v4_ : Int) (hv4_ : InR v4_) (H : Heap) (locs : List Loc) (ls : Array Slot), St b C n M s H locs → lv_has ls 6 [(0, .ref (b + 177)), (1, vI x1), (2, vI v2_), (3, vI v3_), (4, vI v4_)] → bk15 M v2_ v3_ v4_ = some res → W p l e (headSpec (wsM y_Laws_moved b_Laws_moved 6 (some .int)) (rmD 2)).room s m ([.ref (b + 177), vI x1] : List Value).toArray below meth c H locs 0 0 (MQ below (QI b C n M res) ([.ref (b + 177), vI x1] : List Value).toArray s 0 0 (frb b)) (F0 m 15 ls [])) (M : Mem) (v2_ : Int) (hv2_ : InR v2_) (v3_ : Int) (hv3_ : InR v3_) (v4_ : Int) (hv4_ : InR v4_) (H : Heap) (locs : List Loc) (ls : Array Slot) (hS : St b C n M s H locs) (hl : lv_has ls 6 [(0, .ref (b + 177)), (1, vI x1), (2, vI v2_), (3, vI v3_), (4, vI v4_)]) (hT : t_Laws_moved_L58 x1 bk2 bk15 M v2_ v3_ v4_ = some res) : W p l e (headSpec (wsM y_Laws_moved b_Laws_moved 6 (some .int)) (rmD 2)).room s m ([.ref (b + 177), vI x1] : List Value).toArray below meth c H locs 0 0 (MQ below (QI b C n M res) ([.ref (b + 177), vI x1] : List Value).toArray s 0 0 (frb b)) (F0 m 58 ls []) := by
  unfold t_Laws_moved_L58 at hT
  refine lv_iinc (v := Int32.ofInt (w32 (v4_ + 1))) (lv' := [(4, vI (w32 (v4_ + 1))), (0, .ref (b + 177)), (1, vI x1), (2, vI v2_), (3, vI v3_)]) F.hx F.hb d_Laws_moved_58 hl (k := 4) rfl (q_of_add _ _) (Nat.le_of_ble_eq_true rfl) rfl (fun ls hl => ?_)
  refine lv_goto (tgt := 15) F.hx F.hb d_Laws_moved_61 (by decide) ?_
  exact hbk15 M v2_ hv2_ v3_ hv3_ (w32 (v4_ + 1)) (inr_w32 _) _ _ _ hS (lv_sub hl [1, 2, 3, 4, 0] rfl) hT
set_option maxHeartbeats 4000000 in
set_option maxRecDepth 100000 in
theorem k_Laws_moved_L15 (l : Launch) {p : Program} {e : Env} {s : State} {m : MethodId} {below : List Frame} {meth : Method} {c : Code} {b n : Nat} {C : CT} (hlo : 191 ≤ n) (x1 : Int) (hx1 : InR x1) (F : Cx b p m c b_Laws_moved 6 s ([.ref (b + 177), vI x1] : List Value).toArray "WardFalls$Laws" C n 191) (hlk : meth.locks = false) (hr : meth.sig.returnType = some .int) {res : Int} (bk2 : Mem → Int → Option (Int)) (hbk2 : ∀ (M : Mem) (v2_ : Int) (hv2_ : InR v2_) (H : Heap) (locs : List Loc) (ls : Array Slot), St b C n M s H locs → lv_has ls 6 [(0, .ref (b + 177)), (1, vI x1), (2, vI v2_)] → bk2 M v2_ = some res → W p l e (headSpec (wsM y_Laws_moved b_Laws_moved 6 (some .int)) (rmD 2)).room s m ([.ref (b + 177), vI x1] : List Value).toArray below meth c H locs 0 0 (MQ below (QI b C n M res) ([.ref (b + 177), vI x1] : List Value).toArray s 0 0 (frb b)) (F0 m 2 ls [])) : ∀ (fu : Nat) (M : Mem) (v2_ : Int) (hv2_ : InR v2_) (v3_ : Int) (hv3_ : InR v3_) (v4_ : Int) (hv4_ : InR v4_) (H : Heap) (locs : List Loc) (ls : Array Slot), St b C n M s H locs → lv_has ls 6 [(0, .ref (b + 177)), (1, vI x1), (2, vI v2_), (3, vI v3_), (4, vI v4_)] → t_Laws_moved_L15 x1 bk2 fu M v2_ v3_ v4_ = some res → W p l e (headSpec (wsM y_Laws_moved b_Laws_moved 6 (some .int)) (rmD 2)).room s m ([.ref (b + 177), vI x1] : List Value).toArray below meth c H locs 0 0 (MQ below (QI b C n M res) ([.ref (b + 177), vI x1] : List Value).toArray s 0 0 (frb b)) (F0 m 15 ls []) := by
  intro fu
  induction fu with
  | zero => intro M v2_ hv2_ v3_ hv3_ v4_ hv4_ H locs ls hS hl hT; exact absurd hT (by simp [t_Laws_moved_L15])
  | succ fu ih =>
    intro M v2_ hv2_ v3_ hv3_ v4_ hv4_ H locs ls hS hl hT
    rw [t_Laws_moved_L15] at hT
    refine lv_iload F.hx F.hb d_Laws_moved_15 (lv_at hl 4 rfl) ?_
    refine r_iconst F.hx F.hb d_Laws_moved_17 ?_
    refine r_icmp_ge (tgt := 64) F.hx F.hb hv4_ (inr_c rfl) d_Laws_moved_18 (by decide) (fun c3 => ?_) (fun c3 => ?_)
    · replace hT := (if_pos c3).symm.trans hT
      refine lv_iload_n F.hx F.hb d_Laws_moved_64 rfl (lv_at hl 3 rfl) ?_
      refine lv_iload_n F.hx F.hb d_Laws_moved_65 rfl (lv_at hl 1 rfl) ?_
      refine r_icmp_eq (tgt := 71) F.hx F.hb hv3_ hx1 d_Laws_moved_66 (by decide) (fun c4 => ?_) (fun c4 => ?_)
      · replace hT := (if_pos c4).symm.trans hT
        refine lv_iinc (v := Int32.ofInt (w32 (v2_ + 1))) (lv' := [(2, vI (w32 (v2_ + 1))), (0, .ref (b + 177)), (1, vI x1), (3, vI v3_), (4, vI v4_)]) F.hx F.hb d_Laws_moved_71 hl (k := 2) rfl (q_of_add _ _) (Nat.le_of_ble_eq_true rfl) rfl (fun ls hl => ?_)
        refine lv_goto (tgt := 2) F.hx F.hb d_Laws_moved_74 (by decide) ?_
        exact hbk2 M (w32 (v2_ + 1)) (inr_w32 _) _ _ _ hS (lv_sub hl [1, 2, 0] rfl) hT
      · replace hT := (if_neg c4).symm.trans hT
        refine lv_iload_n F.hx F.hb d_Laws_moved_69 rfl (lv_at hl 3 rfl) ?_
        cases hT
        exact r_iret F hlk hr rfl hS hv3_ d_Laws_moved_70
    · replace hT := (if_neg c3).symm.trans hT
      refine lv_iload_n F.hx F.hb d_Laws_moved_21 rfl (lv_at hl 1 rfl) ?_
      refine r_iconst F.hx F.hb d_Laws_moved_22 ?_
      refine r_iconst F.hx F.hb d_Laws_moved_23 ?_
      refine lv_iload_n F.hx F.hb d_Laws_moved_24 rfl (lv_at hl 2 rfl) ?_
      refine r_imul F.hx F.hb d_Laws_moved_25 ?_
      refine r_ishl F.hx F.hb d_Laws_moved_26 ?_
      refine r_iconst F.hx F.hb d_Laws_moved_27 ?_
      refine r_ixor F.hx F.hb d_Laws_moved_28 ?_
      refine r_iand F.hx F.hb d_Laws_moved_29 ?_
      refine lv_iload F.hx F.hb d_Laws_moved_30 (lv_at hl 4 rfl) ?_
      refine r_iconst F.hx F.hb d_Laws_moved_32 ?_
      refine lv_iload_n F.hx F.hb d_Laws_moved_33 rfl (lv_at hl 2 rfl) ?_
      refine r_imul F.hx F.hb d_Laws_moved_34 ?_
      refine r_ishl F.hx F.hb d_Laws_moved_35 ?_
      refine r_ior F.hx F.hb d_Laws_moved_36 ?_
      refine lv_istore (lv' := [(5, vI (q_or (q_and x1 (q_xor (q_shl 3 (w32 (2 * v2_))) (-1))) (q_shl v4_ (w32 (2 * v2_))))), (0, .ref (b + 177)), (1, vI x1), (2, vI v2_), (3, vI v3_), (4, vI v4_)]) F.hx F.hb d_Laws_moved_37 hl (Nat.le_of_ble_eq_true rfl) rfl (fun ls hl => ?_)
      refine lv_aload_n F.hx F.hb d_Laws_moved_39 rfl (lv_at hl 1 rfl) ?_
      refine lv_iload_n F.hx F.hb d_Laws_moved_40 rfl (lv_at hl 3 rfl) ?_
      refine lv_iload F.hx F.hb d_Laws_moved_41 (lv_at hl 0 rfl) ?_
      obtain ⟨q5, hq5⟩ : ∃ q, q = (t_Laws_joyBy M v2_ (q_or (q_and x1 (q_xor (q_shl 3 (w32 (2 * v2_))) (-1))) (q_shl v4_ (w32 (2 * v2_))))) := ⟨_, rfl⟩
      replace hT := qlet_eq hT hq5
      refine r_backI F hS (r_runV (k := 177) (N := 9) (T := T4) (As := [vI v2_, vI (q_or (q_and x1 (q_xor (q_shl 3 (w32 (2 * v2_))) (-1))) (q_shl v4_ (w32 (2 * v2_))))]) F hS (show 177 < 191 by decide) (show shK 177 = 8 from rfl) rfl (c_Laws_joyBy l F.2.2.1 M v2_ (q_or (q_and x1 (q_xor (q_shl 3 (w32 (2 * v2_))) (-1))) (q_shl v4_ (w32 (2 * v2_)))) hv2_ (q_inr_toInt _) _ hq5.symm) gs_Laws_180 hd_Laws_joyBy ⟨Nat.le_of_ble_eq_true rfl, Nat.le_of_ble_eq_true rfl⟩ rfl hl.1 (Nat.le_of_ble_eq_true rfl) ⟨Nat.zero_le _, Nat.zero_le _⟩ rfl d_Laws_moved_43) (fun H locs hS h6 => ?_)
      refine lv_aload_n F.hx F.hb d_Laws_moved_46 rfl (lv_at hl 1 rfl) ?_
      refine lv_iload_n F.hx F.hb d_Laws_moved_47 rfl (lv_at hl 3 rfl) ?_
      refine lv_iload_n F.hx F.hb d_Laws_moved_48 rfl (lv_at hl 4 rfl) ?_
      obtain ⟨q7, hq7⟩ : ∃ q, q = (t_Laws_joyBy M v2_ v3_) := ⟨_, rfl⟩
      replace hT := qlet_eq hT hq7
      refine r_backI F hS (r_runV (k := 177) (N := 9) (T := T4) (As := [vI v2_, vI v3_]) F hS (show 177 < 191 by decide) (show shK 177 = 8 from rfl) rfl (c_Laws_joyBy l F.2.2.1 M v2_ v3_ hv2_ hv3_ _ hq7.symm) gs_Laws_180 hd_Laws_joyBy ⟨Nat.le_of_ble_eq_true rfl, Nat.le_of_ble_eq_true rfl⟩ rfl hl.1 (Nat.le_of_ble_eq_true rfl) ⟨Nat.zero_le _, Nat.zero_le _⟩ rfl d_Laws_moved_49) (fun H locs hS h8 => ?_)
      refine r_icmp_le (tgt := 58) F.hx F.hb h6 h8 d_Laws_moved_52 (by decide) (fun c9 => ?_) (fun c9 => ?_)
      · replace hT := (if_pos c9).symm.trans hT
        exact k_Laws_moved_L58 l hlo x1 hx1 F hlk hr bk2 hbk2 (fun a0_ a1_ a2_ a3_ => t_Laws_moved_L15 x1 bk2 fu a0_ a1_ a2_ a3_) ih M v2_ hv2_ v3_ hv3_ v4_ hv4_ _ _ _ hS (lv_sub hl [1, 2, 3, 4, 5] rfl) hT
      · replace hT := (if_neg c9).symm.trans hT
        refine lv_iload F.hx F.hb d_Laws_moved_55 (lv_at hl 0 rfl) ?_
        refine lv_istore_n (lv' := [(3, vI (q_or (q_and x1 (q_xor (q_shl 3 (w32 (2 * v2_))) (-1))) (q_shl v4_ (w32 (2 * v2_))))), (5, vI (q_or (q_and x1 (q_xor (q_shl 3 (w32 (2 * v2_))) (-1))) (q_shl v4_ (w32 (2 * v2_))))), (0, .ref (b + 177)), (1, vI x1), (2, vI v2_), (4, vI v4_)]) F.hx F.hb d_Laws_moved_57 rfl hl (Nat.le_of_ble_eq_true rfl) rfl (fun ls hl => ?_)
        exact k_Laws_moved_L58 l hlo x1 hx1 F hlk hr bk2 hbk2 (fun a0_ a1_ a2_ a3_ => t_Laws_moved_L15 x1 bk2 fu a0_ a1_ a2_ a3_) ih M v2_ hv2_ (q_or (q_and x1 (q_xor (q_shl 3 (w32 (2 * v2_))) (-1))) (q_shl v4_ (w32 (2 * v2_)))) (q_inr_toInt _) v4_ hv4_ _ _ _ hS (lv_sub hl [2, 3, 4, 0, 5] rfl) hT
set_option maxHeartbeats 4000000 in
set_option maxRecDepth 100000 in
theorem k_Laws_moved_L2 (l : Launch) {p : Program} {e : Env} {s : State} {m : MethodId} {below : List Frame} {meth : Method} {c : Code} {b n : Nat} {C : CT} (hlo : 191 ≤ n) (x1 : Int) (hx1 : InR x1) (F : Cx b p m c b_Laws_moved 6 s ([.ref (b + 177), vI x1] : List Value).toArray "WardFalls$Laws" C n 191) (hlk : meth.locks = false) (hr : meth.sig.returnType = some .int) {res : Int} : ∀ (fu : Nat) (M : Mem) (v2_ : Int) (hv2_ : InR v2_) (H : Heap) (locs : List Loc) (ls : Array Slot), St b C n M s H locs → lv_has ls 6 [(0, .ref (b + 177)), (1, vI x1), (2, vI v2_)] → t_Laws_moved_L2 x1 fu M v2_ = some res → W p l e (headSpec (wsM y_Laws_moved b_Laws_moved 6 (some .int)) (rmD 2)).room s m ([.ref (b + 177), vI x1] : List Value).toArray below meth c H locs 0 0 (MQ below (QI b C n M res) ([.ref (b + 177), vI x1] : List Value).toArray s 0 0 (frb b)) (F0 m 2 ls []) := by
  intro fu
  induction fu with
  | zero => intro M v2_ hv2_ H locs ls hS hl hT; exact absurd hT (by simp [t_Laws_moved_L2])
  | succ fu ih =>
    intro M v2_ hv2_ H locs ls hS hl hT
    rw [t_Laws_moved_L2] at hT
    refine lv_iload_n F.hx F.hb d_Laws_moved_2 rfl (lv_at hl 2 rfl) ?_
    refine lv_aload_n F.hx F.hb d_Laws_moved_3 rfl (lv_at hl 0 rfl) ?_
    refine r_get (v := vI (M.1 177 6)) (N := 9) (T := T4) (j := 6) F hS (show 177 < 191 by decide) (show shK 177 = 8 from rfl) (show shN 177 = 9 from rfl) rfl (Nat.le_of_ble_eq_true rfl) ing4 mw_444 (fv_int rfl) d_Laws_moved_4 ?_
    have i1 := hS.rng 177 6
    refine r_icmp_ge (tgt := 77) F.hx F.hb hv2_ i1 d_Laws_moved_7 (by decide) (fun c2 => ?_) (fun c2 => ?_)
    · replace hT := (if_pos c2).symm.trans hT
      refine lv_iload_n F.hx F.hb d_Laws_moved_77 rfl (lv_at hl 1 rfl) ?_
      cases hT
      exact r_iret F hlk hr rfl hS hx1 d_Laws_moved_78
    · replace hT := (if_neg c2).symm.trans hT
      refine lv_iload_n F.hx F.hb d_Laws_moved_10 rfl (lv_at hl 1 rfl) ?_
      refine lv_istore_n (lv' := [(3, vI x1), (0, .ref (b + 177)), (1, vI x1), (2, vI v2_)]) F.hx F.hb d_Laws_moved_11 rfl hl (Nat.le_of_ble_eq_true rfl) rfl (fun ls hl => ?_)
      refine r_iconst F.hx F.hb d_Laws_moved_12 ?_
      refine lv_istore (lv' := [(4, vI 0), (3, vI x1), (0, .ref (b + 177)), (1, vI x1), (2, vI v2_)]) F.hx F.hb d_Laws_moved_13 hl (Nat.le_of_ble_eq_true rfl) rfl (fun ls hl => ?_)
      exact k_Laws_moved_L15 l hlo x1 hx1 F hlk hr (fun a0_ a1_ => t_Laws_moved_L2 x1 fu a0_ a1_) ih FU M v2_ hv2_ x1 hx1 0 (inr_c rfl) _ _ _ hS (lv_sub hl [2, 3, 4, 1, 0] rfl) hT
set_option maxHeartbeats 4000000 in
set_option maxRecDepth 100000 in
theorem c_Laws_moved (l : Launch) {b n : Nat} {C : CT} (hlo : 191 ≤ n) (M : Mem) (x1 : Int) (hx1 : InR x1) (res : Int) (hT : t_Laws_moved M x1 = some res) : CM l b C n 2 y_Laws_moved b_Laws_moved 6 (some .int) [.ref (b + 177), vI x1] M (QI b C n M res) := by
  refine CM.of (lo := 191) (ow := "WardFalls$Laws") (by decide) rfl (Nat.le_of_ble_eq_true rfl) hlo (fun p e s m below meth c F hlk hr hS ls hl => ?_)
  have hl : lv_has ls 6 [(0, .ref (b + 177)), (1, vI x1)] := hl
  unfold t_Laws_moved at hT
  refine r_iconst F.hx F.hb d_Laws_moved_0 ?_
  refine lv_istore_n (lv' := [(2, vI 0), (0, .ref (b + 177)), (1, vI x1)]) F.hx F.hb d_Laws_moved_1 rfl hl (Nat.le_of_ble_eq_true rfl) rfl (fun ls hl => ?_)
  exact k_Laws_moved_L2 l hlo x1 hx1 F hlk hr FU M 0 (inr_c rfl) _ _ _ hS (lv_sub hl [1, 2, 0] rfl) hT
theorem d_Laws_isStay_0 : decode b_Laws_isStay 0 = .ok (.aload_n 0, 1) := dc_42 (by decide +kernel)
theorem d_Laws_isStay_1 : decode b_Laws_isStay 1 = .ok (.iload_n 1, 1) := dc_27 (by decide +kernel)
theorem d_Laws_isStay_2 : decode b_Laws_isStay 2 = .ok (.invokevirtual 177, 3) := dc_182 (by decide +kernel)
theorem d_Laws_isStay_5 : decode b_Laws_isStay 5 = .ok (.iload_n 1, 1) := dc_27 (by decide +kernel)
theorem d_Laws_isStay_6 : decode b_Laws_isStay 6 = .ok (.if_icmp .ne 7, 3) := dc_160 (by decide +kernel)
theorem d_Laws_isStay_9 : decode b_Laws_isStay 9 = .ok (.iconst 1, 1) := dc_4 (by decide +kernel)
theorem d_Laws_isStay_10 : decode b_Laws_isStay 10 = .ok (.goto 4, 3) := dc_167 (by decide +kernel)
theorem d_Laws_isStay_13 : decode b_Laws_isStay 13 = .ok (.iconst 0, 1) := dc_3 (by decide +kernel)
theorem d_Laws_isStay_14 : decode b_Laws_isStay 14 = .ok (.ireturn, 1) := dc_172 (by decide +kernel)
def t_Laws_isStay (M : Mem) (x1 : Int) : Option (Int) := (obind (t_Laws_moved M x1) fun q1 => (if q1 = x1 then (some 1) else (some 0)))
set_option maxHeartbeats 4000000 in
set_option maxRecDepth 100000 in
theorem c_Laws_isStay (l : Launch) {b n : Nat} {C : CT} (hlo : 191 ≤ n) (M : Mem) (x1 : Int) (hx1 : InR x1) (res : Int) (hT : t_Laws_isStay M x1 = some res) : CM l b C n 3 y_Laws_isStay b_Laws_isStay 2 (some .boolean) [.ref (b + 177), vI x1] M (QZ b C n M res) := by
  refine CM.of (lo := 191) (ow := "WardFalls$Laws") (by decide) rfl (Nat.le_of_ble_eq_true rfl) hlo (fun p e s m below meth c F hlk hr hS ls hl => ?_)
  have hl : lv_has ls 2 [(0, .ref (b + 177)), (1, vI x1)] := hl
  unfold t_Laws_isStay at hT
  refine lv_aload_n F.hx F.hb d_Laws_isStay_0 rfl (lv_at hl 0 rfl) ?_
  refine lv_iload_n F.hx F.hb d_Laws_isStay_1 rfl (lv_at hl 1 rfl) ?_
  obtain ⟨q1, hq1, hT⟩ := q_obind hT
  refine r_backI F hS (r_runV (k := 177) (N := 9) (T := T4) (As := [vI x1]) F hS (show 177 < 191 by decide) (show shK 177 = 8 from rfl) rfl (c_Laws_moved l F.2.2.1 M x1 hx1 _ hq1) gs_Laws_177 hd_Laws_moved ⟨Nat.le_of_ble_eq_true rfl, Nat.le_of_ble_eq_true rfl⟩ rfl hl.1 (Nat.le_of_ble_eq_true rfl) ⟨Nat.zero_le _, Nat.zero_le _⟩ rfl d_Laws_isStay_2) (fun H locs hS h2 => ?_)
  refine lv_iload_n F.hx F.hb d_Laws_isStay_5 rfl (lv_at hl 1 rfl) ?_
  refine r_icmp_ne (tgt := 13) F.hx F.hb h2 hx1 d_Laws_isStay_6 (by decide) (fun c3 => ?_) (fun c3 => ?_)
  · replace hT := (if_neg c3).symm.trans hT
    refine r_iconst F.hx F.hb d_Laws_isStay_13 ?_
    cases hT
    exact r_zret F hlk hr hS (Or.inl rfl) d_Laws_isStay_14
  · replace hT := (if_pos c3).symm.trans hT
    refine r_iconst F.hx F.hb d_Laws_isStay_9 ?_
    refine lv_goto (tgt := 14) F.hx F.hb d_Laws_isStay_10 (by decide) ?_
    cases hT
    exact r_zret F hlk hr hS (Or.inr rfl) d_Laws_isStay_14
theorem d_WF_stays_0 : decode b_WF_stays 0 = .ok (.aload_n 0, 1) := dc_42 (by decide +kernel)
theorem d_WF_stays_1 : decode b_WF_stays 1 = .ok (.getfield 83, 3) := dc_180 (by decide +kernel)
theorem d_WF_stays_4 : decode b_WF_stays 4 = .ok (.aload_n 0, 1) := dc_42 (by decide +kernel)
theorem d_WF_stays_5 : decode b_WF_stays 5 = .ok (.getfield 22, 3) := dc_180 (by decide +kernel)
theorem d_WF_stays_8 : decode b_WF_stays 8 = .ok (.aload_n 0, 1) := dc_42 (by decide +kernel)
theorem d_WF_stays_9 : decode b_WF_stays 9 = .ok (.getfield 46, 3) := dc_180 (by decide +kernel)
theorem d_WF_stays_12 : decode b_WF_stays 12 = .ok (.aload_n 0, 1) := dc_42 (by decide +kernel)
theorem d_WF_stays_13 : decode b_WF_stays 13 = .ok (.getfield 50, 3) := dc_180 (by decide +kernel)
theorem d_WF_stays_16 : decode b_WF_stays 16 = .ok (.aload_n 0, 1) := dc_42 (by decide +kernel)
theorem d_WF_stays_17 : decode b_WF_stays 17 = .ok (.getfield 59, 3) := dc_180 (by decide +kernel)
theorem d_WF_stays_20 : decode b_WF_stays 20 = .ok (.getfield 218, 3) := dc_180 (by decide +kernel)
theorem d_WF_stays_23 : decode b_WF_stays 23 = .ok (.invokevirtual 355, 3) := dc_182 (by decide +kernel)
theorem d_WF_stays_26 : decode b_WF_stays 26 = .ok (.iconst 0, 1) := dc_3 (by decide +kernel)
theorem d_WF_stays_27 : decode b_WF_stays 27 = .ok (.istore_n 1, 1) := dc_60 (by decide +kernel)
theorem d_WF_stays_28 : decode b_WF_stays 28 = .ok (.iconst 0, 1) := dc_3 (by decide +kernel)
theorem d_WF_stays_29 : decode b_WF_stays 29 = .ok (.istore_n 2, 1) := dc_61 (by decide +kernel)
theorem d_WF_stays_30 : decode b_WF_stays 30 = .ok (.iload_n 2, 1) := dc_28 (by decide +kernel)
theorem d_WF_stays_31 : decode b_WF_stays 31 = .ok (.aload_n 0, 1) := dc_42 (by decide +kernel)
theorem d_WF_stays_32 : decode b_WF_stays 32 = .ok (.getfield 83, 3) := dc_180 (by decide +kernel)
theorem d_WF_stays_35 : decode b_WF_stays 35 = .ok (.getfield 359, 3) := dc_180 (by decide +kernel)
theorem d_WF_stays_38 : decode b_WF_stays 38 = .ok (.if_icmp .ge 23, 3) := dc_162 (by decide +kernel)
theorem d_WF_stays_41 : decode b_WF_stays 41 = .ok (.aload_n 0, 1) := dc_42 (by decide +kernel)
theorem d_WF_stays_42 : decode b_WF_stays 42 = .ok (.getfield 83, 3) := dc_180 (by decide +kernel)
theorem d_WF_stays_45 : decode b_WF_stays 45 = .ok (.iload_n 2, 1) := dc_28 (by decide +kernel)
theorem d_WF_stays_46 : decode b_WF_stays 46 = .ok (.invokevirtual 362, 3) := dc_182 (by decide +kernel)
theorem d_WF_stays_49 : decode b_WF_stays 49 = .ok (.ifCond .eq 6, 3) := dc_153 (by decide +kernel)
theorem d_WF_stays_52 : decode b_WF_stays 52 = .ok (.iinc 1 1, 3) := dc_132 (by decide +kernel)
theorem d_WF_stays_55 : decode b_WF_stays 55 = .ok (.iinc 2 1, 3) := dc_132 (by decide +kernel)
theorem d_WF_stays_58 : decode b_WF_stays 58 = .ok (.goto (-28), 3) := dc_167 (by decide +kernel)
theorem d_WF_stays_61 : decode b_WF_stays 61 = .ok (.iload_n 1, 1) := dc_27 (by decide +kernel)
theorem d_WF_stays_62 : decode b_WF_stays 62 = .ok (.ireturn, 1) := dc_172 (by decide +kernel)
def t_WF_stays_L55  (bk30 : Mem → Int → Int → Option (Mem × Int)) (M : Mem) (v1_ : Int) (v2_ : Int) : Option (Mem × Int) := (bk30 M v1_ (w32 (v2_ + 1)))
def t_WF_stays_L30   : Nat → Mem → Int → Int → Option (Mem × Int)
  | 0, _, _, _ => none
  | fu + 1, M, v1_, v2_ => (if (M.1 177 7) ≤ v2_ then (some (M, v1_)) else (obind (t_Laws_isStay M v2_) fun q7 => (if q7 = 0 then (t_WF_stays_L55 (fun a0_ a1_ a2_ => t_WF_stays_L30 fu a0_ a1_ a2_) M v1_ v2_) else (t_WF_stays_L55 (fun a0_ a1_ a2_ => t_WF_stays_L30 fu a0_ a1_ a2_) M (w32 (v1_ + 1)) v2_))))
def t_WF_stays (M : Mem)  : Option (Mem × Int) := (obind (t_Laws_tryVotes M ((M.1 0 4).toNat) 47 52 (M.1 62 3)) fun q3 => (t_WF_stays_L30 FU q3 0 0))
set_option maxHeartbeats 4000000 in
set_option maxRecDepth 100000 in
theorem k_WF_stays_L55 (l : Launch) {p : Program} {e : Env} {s : State} {m : MethodId} {below : List Frame} {meth : Method} {c : Code} {b n : Nat} {C : CT} (hlo : 191 ≤ n)   (F : Cx b p m c b_WF_stays 3 s ([.ref (b + 0)] : List Value).toArray "WardFalls" C n 191) (hlk : meth.locks = false) (hr : meth.sig.returnType = some .int) {res : Mem × Int} (bk30 : Mem → Int → Int → Option (Mem × Int)) (hbk30 : ∀ (M : Mem) (v1_ : Int) (hv1_ : InR v1_) (v2_ : Int) (hv2_ : InR v2_) (H : Heap) (locs : List Loc) (ls : Array Slot), St b C n M s H locs → lv_has ls 3 [(0, .ref (b + 0)), (1, vI v1_), (2, vI v2_)] → bk30 M v1_ v2_ = some res → W p l e (headSpec (wsM y_WF_stays b_WF_stays 3 (some .int)) (rmD 7)).room s m ([.ref (b + 0)] : List Value).toArray below meth c H locs 0 0 (MQ below (QI b C n res.1 res.2) ([.ref (b + 0)] : List Value).toArray s 0 0 (frb b)) (F0 m 30 ls [])) (M : Mem) (v1_ : Int) (hv1_ : InR v1_) (v2_ : Int) (hv2_ : InR v2_) (H : Heap) (locs : List Loc) (ls : Array Slot) (hS : St b C n M s H locs) (hl : lv_has ls 3 [(0, .ref (b + 0)), (1, vI v1_), (2, vI v2_)]) (hT : t_WF_stays_L55 bk30 M v1_ v2_ = some res) : W p l e (headSpec (wsM y_WF_stays b_WF_stays 3 (some .int)) (rmD 7)).room s m ([.ref (b + 0)] : List Value).toArray below meth c H locs 0 0 (MQ below (QI b C n res.1 res.2) ([.ref (b + 0)] : List Value).toArray s 0 0 (frb b)) (F0 m 55 ls []) := by
  unfold t_WF_stays_L55 at hT
  refine lv_iinc (v := Int32.ofInt (w32 (v2_ + 1))) (lv' := [(2, vI (w32 (v2_ + 1))), (0, .ref (b + 0)), (1, vI v1_)]) F.hx F.hb d_WF_stays_55 hl (k := 2) rfl (q_of_add _ _) (Nat.le_of_ble_eq_true rfl) rfl (fun ls hl => ?_)
  refine lv_goto (tgt := 30) F.hx F.hb d_WF_stays_58 (by decide) ?_
  exact hbk30 M v1_ hv1_ (w32 (v2_ + 1)) (inr_w32 _) _ _ _ hS (lv_sub hl [1, 2, 0] rfl) hT
set_option maxHeartbeats 4000000 in
set_option maxRecDepth 100000 in
theorem k_WF_stays_L30 (l : Launch) {p : Program} {e : Env} {s : State} {m : MethodId} {below : List Frame} {meth : Method} {c : Code} {b n : Nat} {C : CT} (hlo : 191 ≤ n)   (F : Cx b p m c b_WF_stays 3 s ([.ref (b + 0)] : List Value).toArray "WardFalls" C n 191) (hlk : meth.locks = false) (hr : meth.sig.returnType = some .int) {res : Mem × Int} : ∀ (fu : Nat) (M : Mem) (v1_ : Int) (hv1_ : InR v1_) (v2_ : Int) (hv2_ : InR v2_) (H : Heap) (locs : List Loc) (ls : Array Slot), St b C n M s H locs → lv_has ls 3 [(0, .ref (b + 0)), (1, vI v1_), (2, vI v2_)] → t_WF_stays_L30 fu M v1_ v2_ = some res → W p l e (headSpec (wsM y_WF_stays b_WF_stays 3 (some .int)) (rmD 7)).room s m ([.ref (b + 0)] : List Value).toArray below meth c H locs 0 0 (MQ below (QI b C n res.1 res.2) ([.ref (b + 0)] : List Value).toArray s 0 0 (frb b)) (F0 m 30 ls []) := by
  intro fu
  induction fu with
  | zero => intro M v1_ hv1_ v2_ hv2_ H locs ls hS hl hT; exact absurd hT (by simp [t_WF_stays_L30])
  | succ fu ih =>
    intro M v1_ hv1_ v2_ hv2_ H locs ls hS hl hT
    rw [t_WF_stays_L30] at hT
    refine lv_iload_n F.hx F.hb d_WF_stays_30 rfl (lv_at hl 2 rfl) ?_
    refine lv_aload_n F.hx F.hb d_WF_stays_31 rfl (lv_at hl 0 rfl) ?_
    refine r_get (v := .ref (b + 177)) (N := 19) (T := T0) (j := 16) F hS (show 0 < 191 by decide) (show shK 0 = 4 from rfl) (show shN 0 = 19 from rfl) rfl (Nat.le_of_ble_eq_true rfl) ing0 mw_566 (fv_sg rfl rfl rfl) d_WF_stays_32 ?_
    refine r_get (v := vI (M.1 177 7)) (N := 9) (T := T4) (j := 7) F hS (show 177 < 191 by decide) (show shK 177 = 8 from rfl) (show shN 177 = 9 from rfl) rfl (Nat.le_of_ble_eq_true rfl) ing4 mw_446 (fv_int rfl) d_WF_stays_35 ?_
    have i5 := hS.rng 177 7
    refine r_icmp_ge (tgt := 61) F.hx F.hb hv2_ i5 d_WF_stays_38 (by decide) (fun c6 => ?_) (fun c6 => ?_)
    · replace hT := (if_pos c6).symm.trans hT
      refine lv_iload_n F.hx F.hb d_WF_stays_61 rfl (lv_at hl 1 rfl) ?_
      cases hT
      exact r_iret F hlk hr rfl hS hv1_ d_WF_stays_62
    · replace hT := (if_neg c6).symm.trans hT
      refine lv_aload_n F.hx F.hb d_WF_stays_41 rfl (lv_at hl 0 rfl) ?_
      refine r_get (v := .ref (b + 177)) (N := 19) (T := T0) (j := 16) F hS (show 0 < 191 by decide) (show shK 0 = 4 from rfl) (show shN 0 = 19 from rfl) rfl (Nat.le_of_ble_eq_true rfl) ing0 mw_566 (fv_sg rfl rfl rfl) d_WF_stays_42 ?_
      refine lv_iload_n F.hx F.hb d_WF_stays_45 rfl (lv_at hl 2 rfl) ?_
      obtain ⟨q7, hq7, hT⟩ := q_obind hT
      refine r_backZ F hS (r_runV (k := 177) (N := 9) (T := T4) (As := [vI v2_]) F hS (show 177 < 191 by decide) (show shK 177 = 8 from rfl) rfl (c_Laws_isStay l F.2.2.1 M v2_ hv2_ _ hq7) gs_WF_362 hd_Laws_isStay ⟨Nat.le_of_ble_eq_true rfl, Nat.le_of_ble_eq_true rfl⟩ rfl hl.1 (Nat.le_of_ble_eq_true rfl) ⟨Nat.zero_le _, Nat.zero_le _⟩ rfl d_WF_stays_46) (fun H locs hS h8 => ?_)
      refine r_if_eq (tgt := 55) F.hx F.hb (inr_z h8) d_WF_stays_49 (by decide) (fun c9 => ?_) (fun c9 => ?_)
      · replace hT := (if_pos c9).symm.trans hT
        exact k_WF_stays_L55 l hlo F hlk hr (fun a0_ a1_ a2_ => t_WF_stays_L30 fu a0_ a1_ a2_) ih M v1_ hv1_ v2_ hv2_ _ _ _ hS (lv_sub hl [0, 1, 2] rfl) hT
      · replace hT := (if_neg c9).symm.trans hT
        refine lv_iinc (v := Int32.ofInt (w32 (v1_ + 1))) (lv' := [(1, vI (w32 (v1_ + 1))), (0, .ref (b + 0)), (2, vI v2_)]) F.hx F.hb d_WF_stays_52 hl (k := 1) rfl (q_of_add _ _) (Nat.le_of_ble_eq_true rfl) rfl (fun ls hl => ?_)
        exact k_WF_stays_L55 l hlo F hlk hr (fun a0_ a1_ a2_ => t_WF_stays_L30 fu a0_ a1_ a2_) ih M (w32 (v1_ + 1)) (inr_w32 _) v2_ hv2_ _ _ _ hS (lv_sub hl [1, 0, 2] rfl) hT
set_option maxHeartbeats 4000000 in
set_option maxRecDepth 100000 in
theorem c_WF_stays (l : Launch) {b n : Nat} {C : CT} (hlo : 191 ≤ n) (M : Mem)   (res : Mem × Int) (hT : t_WF_stays M  = some res) : CM l b C n 7 y_WF_stays b_WF_stays 3 (some .int) [.ref (b + 0)] M (QI b C n res.1 res.2) := by
  refine CM.of (lo := 191) (ow := "WardFalls") (by decide) rfl (Nat.le_of_ble_eq_true rfl) hlo (fun p e s m below meth c F hlk hr hS ls hl => ?_)
  have hl : lv_has ls 3 [(0, .ref (b + 0))] := hl
  unfold t_WF_stays at hT
  refine lv_aload_n F.hx F.hb d_WF_stays_0 rfl (lv_at hl 0 rfl) ?_
  refine r_get (v := .ref (b + 177)) (N := 19) (T := T0) (j := 16) F hS (show 0 < 191 by decide) (show shK 0 = 4 from rfl) (show shN 0 = 19 from rfl) rfl (Nat.le_of_ble_eq_true rfl) ing0 mw_566 (fv_sg rfl rfl rfl) d_WF_stays_1 ?_
  refine lv_aload_n F.hx F.hb d_WF_stays_4 rfl (lv_at hl 0 rfl) ?_
  have h1 := St_town hS
  refine r_get (v := .ref (b + ((M.1 0 4).toNat))) (N := 19) (T := T0) (j := 4) F hS (show 0 < 191 by decide) (show shK 0 = 4 from rfl) (show shN 0 = 19 from rfl) rfl (Nat.le_of_ble_eq_true rfl) ing0 mw_554 (fv_town hS) d_WF_stays_5 ?_
  refine lv_aload_n F.hx F.hb d_WF_stays_8 rfl (lv_at hl 0 rfl) ?_
  refine r_get (v := .ref (b + 47)) (N := 19) (T := T0) (j := 8) F hS (show 0 < 191 by decide) (show shK 0 = 4 from rfl) (show shN 0 = 19 from rfl) rfl (Nat.le_of_ble_eq_true rfl) ing0 mw_558 (fv_sg rfl rfl rfl) d_WF_stays_9 ?_
  refine lv_aload_n F.hx F.hb d_WF_stays_12 rfl (lv_at hl 0 rfl) ?_
  refine r_get (v := .ref (b + 52)) (N := 19) (T := T0) (j := 9) F hS (show 0 < 191 by decide) (show shK 0 = 4 from rfl) (show shN 0 = 19 from rfl) rfl (Nat.le_of_ble_eq_true rfl) ing0 mw_559 (fv_sg rfl rfl rfl) d_WF_stays_13 ?_
  refine lv_aload_n F.hx F.hb d_WF_stays_16 rfl (lv_at hl 0 rfl) ?_
  refine r_get (v := .ref (b + 62)) (N := 19) (T := T0) (j := 11) F hS (show 0 < 191 by decide) (show shK 0 = 4 from rfl) (show shN 0 = 19 from rfl) rfl (Nat.le_of_ble_eq_true rfl) ing0 mw_561 (fv_sg rfl rfl rfl) d_WF_stays_17 ?_
  refine r_get (v := vI (M.1 62 3)) (N := 6) (T := T2) (j := 3) F hS (show 62 < 191 by decide) (show shK 62 = 6 from rfl) (show shN 62 = 6 from rfl) rfl (Nat.le_of_ble_eq_true rfl) ing2 mw_321 (fv_int rfl) d_WF_stays_20 ?_
  have i2 := hS.rng 62 3
  obtain ⟨q3, hq3, hT⟩ := q_obind hT
  refine r_backV F hS (r_runV (k := 177) (N := 9) (T := T4) (As := [.ref (b + ((M.1 0 4).toNat)), .ref (b + 47), .ref (b + 52), vI (M.1 62 3)]) F hS (show 177 < 191 by decide) (show shK 177 = 8 from rfl) rfl (c_Laws_tryVotes l F.2.2.1 M ((M.1 0 4).toNat) 47 52 (M.1 62 3) h1 (by decide : isScene 47) (by decide : isScene 52) i2 _ hq3) gs_WF_355 hd_Laws_tryVotes ⟨Nat.le_of_ble_eq_true rfl, Nat.le_of_ble_eq_true rfl⟩ rfl hl.1 (Nat.le_of_ble_eq_true rfl) ⟨Nat.zero_le _, Nat.zero_le _⟩ rfl d_WF_stays_23) (fun H locs hS => ?_)
  refine r_iconst F.hx F.hb d_WF_stays_26 ?_
  refine lv_istore_n (lv' := [(1, vI 0), (0, .ref (b + 0))]) F.hx F.hb d_WF_stays_27 rfl hl (Nat.le_of_ble_eq_true rfl) rfl (fun ls hl => ?_)
  refine r_iconst F.hx F.hb d_WF_stays_28 ?_
  refine lv_istore_n (lv' := [(2, vI 0), (1, vI 0), (0, .ref (b + 0))]) F.hx F.hb d_WF_stays_29 rfl hl (Nat.le_of_ble_eq_true rfl) rfl (fun ls hl => ?_)
  exact k_WF_stays_L30 l hlo F hlk hr FU q3 0 (inr_c rfl) 0 (inr_c rfl) _ _ _ hS (lv_sub hl [2, 1, 0] rfl) hT
theorem d_WF_stay_0 : decode b_WF_stay 0 = .ok (.iload_n 1, 1) := dc_27 (by decide +kernel)
theorem d_WF_stay_1 : decode b_WF_stay 1 = .ok (.ifCond .ge 5, 3) := dc_156 (by decide +kernel)
theorem d_WF_stay_4 : decode b_WF_stay 4 = .ok (.iconst (-1), 1) := dc_2 (by decide +kernel)
theorem d_WF_stay_5 : decode b_WF_stay 5 = .ok (.ireturn, 1) := dc_172 (by decide +kernel)
theorem d_WF_stay_6 : decode b_WF_stay 6 = .ok (.aload_n 0, 1) := dc_42 (by decide +kernel)
theorem d_WF_stay_7 : decode b_WF_stay 7 = .ok (.getfield 83, 3) := dc_180 (by decide +kernel)
theorem d_WF_stay_10 : decode b_WF_stay 10 = .ok (.aload_n 0, 1) := dc_42 (by decide +kernel)
theorem d_WF_stay_11 : decode b_WF_stay 11 = .ok (.getfield 22, 3) := dc_180 (by decide +kernel)
theorem d_WF_stay_14 : decode b_WF_stay 14 = .ok (.aload_n 0, 1) := dc_42 (by decide +kernel)
theorem d_WF_stay_15 : decode b_WF_stay 15 = .ok (.getfield 46, 3) := dc_180 (by decide +kernel)
theorem d_WF_stay_18 : decode b_WF_stay 18 = .ok (.aload_n 0, 1) := dc_42 (by decide +kernel)
theorem d_WF_stay_19 : decode b_WF_stay 19 = .ok (.getfield 50, 3) := dc_180 (by decide +kernel)
theorem d_WF_stay_22 : decode b_WF_stay 22 = .ok (.aload_n 0, 1) := dc_42 (by decide +kernel)
theorem d_WF_stay_23 : decode b_WF_stay 23 = .ok (.getfield 59, 3) := dc_180 (by decide +kernel)
theorem d_WF_stay_26 : decode b_WF_stay 26 = .ok (.getfield 218, 3) := dc_180 (by decide +kernel)
theorem d_WF_stay_29 : decode b_WF_stay 29 = .ok (.invokevirtual 355, 3) := dc_182 (by decide +kernel)
theorem d_WF_stay_32 : decode b_WF_stay 32 = .ok (.iload_n 1, 1) := dc_27 (by decide +kernel)
theorem d_WF_stay_33 : decode b_WF_stay 33 = .ok (.istore_n 2, 1) := dc_61 (by decide +kernel)
theorem d_WF_stay_34 : decode b_WF_stay 34 = .ok (.iconst 0, 1) := dc_3 (by decide +kernel)
theorem d_WF_stay_35 : decode b_WF_stay 35 = .ok (.istore_n 3, 1) := dc_62 (by decide +kernel)
theorem d_WF_stay_36 : decode b_WF_stay 36 = .ok (.iload_n 3, 1) := dc_29 (by decide +kernel)
theorem d_WF_stay_37 : decode b_WF_stay 37 = .ok (.aload_n 0, 1) := dc_42 (by decide +kernel)
theorem d_WF_stay_38 : decode b_WF_stay 38 = .ok (.getfield 83, 3) := dc_180 (by decide +kernel)
theorem d_WF_stay_41 : decode b_WF_stay 41 = .ok (.getfield 359, 3) := dc_180 (by decide +kernel)
theorem d_WF_stay_44 : decode b_WF_stay 44 = .ok (.if_icmp .ge 29, 3) := dc_162 (by decide +kernel)
theorem d_WF_stay_47 : decode b_WF_stay 47 = .ok (.aload_n 0, 1) := dc_42 (by decide +kernel)
theorem d_WF_stay_48 : decode b_WF_stay 48 = .ok (.getfield 83, 3) := dc_180 (by decide +kernel)
theorem d_WF_stay_51 : decode b_WF_stay 51 = .ok (.iload_n 3, 1) := dc_29 (by decide +kernel)
theorem d_WF_stay_52 : decode b_WF_stay 52 = .ok (.invokevirtual 362, 3) := dc_182 (by decide +kernel)
theorem d_WF_stay_55 : decode b_WF_stay 55 = .ok (.ifCond .eq 12, 3) := dc_153 (by decide +kernel)
theorem d_WF_stay_58 : decode b_WF_stay 58 = .ok (.iload_n 2, 1) := dc_28 (by decide +kernel)
theorem d_WF_stay_59 : decode b_WF_stay 59 = .ok (.ifCond .ne 5, 3) := dc_154 (by decide +kernel)
theorem d_WF_stay_62 : decode b_WF_stay 62 = .ok (.iload_n 3, 1) := dc_29 (by decide +kernel)
theorem d_WF_stay_63 : decode b_WF_stay 63 = .ok (.ireturn, 1) := dc_172 (by decide +kernel)
theorem d_WF_stay_64 : decode b_WF_stay 64 = .ok (.iinc 2 (-1), 3) := dc_132 (by decide +kernel)
theorem d_WF_stay_67 : decode b_WF_stay 67 = .ok (.iinc 3 1, 3) := dc_132 (by decide +kernel)
theorem d_WF_stay_70 : decode b_WF_stay 70 = .ok (.goto (-34), 3) := dc_167 (by decide +kernel)
theorem d_WF_stay_73 : decode b_WF_stay 73 = .ok (.bipush (-2), 2) := dc_16 (by decide +kernel)
theorem d_WF_stay_75 : decode b_WF_stay 75 = .ok (.ireturn, 1) := dc_172 (by decide +kernel)
def t_WF_stay_L67 (x1 : Int) (bk36 : Mem → Int → Int → Option (Mem × Int)) (M : Mem) (v1_ : Int) (v2_ : Int) : Option (Mem × Int) := (bk36 M v1_ (w32 (v2_ + 1)))
def t_WF_stay_L36 (x1 : Int)  : Nat → Mem → Int → Int → Option (Mem × Int)
  | 0, _, _, _ => none
  | fu + 1, M, v1_, v2_ => (if (M.1 177 7) ≤ v2_ then (some (M, (-2))) else (obind (t_Laws_isStay M v2_) fun q8 => (if q8 = 0 then (t_WF_stay_L67 x1 (fun a0_ a1_ a2_ => t_WF_stay_L36 x1 fu a0_ a1_ a2_) M v1_ v2_) else (if v1_ = 0 then (some (M, v2_)) else (t_WF_stay_L67 x1 (fun a0_ a1_ a2_ => t_WF_stay_L36 x1 fu a0_ a1_ a2_) M (w32 (v1_ + (-1))) v2_)))))
def t_WF_stay (M : Mem) (x1 : Int) : Option (Mem × Int) := (if 0 ≤ x1 then (obind (t_Laws_tryVotes M ((M.1 0 4).toNat) 47 52 (M.1 62 3)) fun q4 => (t_WF_stay_L36 x1 FU q4 x1 0)) else (some (M, (-1))))
set_option maxHeartbeats 4000000 in
set_option maxRecDepth 100000 in
theorem k_WF_stay_L67 (l : Launch) {p : Program} {e : Env} {s : State} {m : MethodId} {below : List Frame} {meth : Method} {c : Code} {b n : Nat} {C : CT} (hlo : 191 ≤ n) (x1 : Int) (hx1 : InR x1) (F : Cx b p m c b_WF_stay 4 s ([.ref (b + 0), vI x1] : List Value).toArray "WardFalls" C n 191) (hlk : meth.locks = false) (hr : meth.sig.returnType = some .int) {res : Mem × Int} (bk36 : Mem → Int → Int → Option (Mem × Int)) (hbk36 : ∀ (M : Mem) (v1_ : Int) (hv1_ : InR v1_) (v2_ : Int) (hv2_ : InR v2_) (H : Heap) (locs : List Loc) (ls : Array Slot), St b C n M s H locs → lv_has ls 4 [(0, .ref (b + 0)), (2, vI v1_), (3, vI v2_)] → bk36 M v1_ v2_ = some res → W p l e (headSpec (wsM y_WF_stay b_WF_stay 4 (some .int)) (rmD 7)).room s m ([.ref (b + 0), vI x1] : List Value).toArray below meth c H locs 0 0 (MQ below (QI b C n res.1 res.2) ([.ref (b + 0), vI x1] : List Value).toArray s 0 0 (frb b)) (F0 m 36 ls [])) (M : Mem) (v1_ : Int) (hv1_ : InR v1_) (v2_ : Int) (hv2_ : InR v2_) (H : Heap) (locs : List Loc) (ls : Array Slot) (hS : St b C n M s H locs) (hl : lv_has ls 4 [(0, .ref (b + 0)), (2, vI v1_), (3, vI v2_)]) (hT : t_WF_stay_L67 x1 bk36 M v1_ v2_ = some res) : W p l e (headSpec (wsM y_WF_stay b_WF_stay 4 (some .int)) (rmD 7)).room s m ([.ref (b + 0), vI x1] : List Value).toArray below meth c H locs 0 0 (MQ below (QI b C n res.1 res.2) ([.ref (b + 0), vI x1] : List Value).toArray s 0 0 (frb b)) (F0 m 67 ls []) := by
  unfold t_WF_stay_L67 at hT
  refine lv_iinc (v := Int32.ofInt (w32 (v2_ + 1))) (lv' := [(3, vI (w32 (v2_ + 1))), (0, .ref (b + 0)), (2, vI v1_)]) F.hx F.hb d_WF_stay_67 hl (k := 2) rfl (q_of_add _ _) (Nat.le_of_ble_eq_true rfl) rfl (fun ls hl => ?_)
  refine lv_goto (tgt := 36) F.hx F.hb d_WF_stay_70 (by decide) ?_
  exact hbk36 M v1_ hv1_ (w32 (v2_ + 1)) (inr_w32 _) _ _ _ hS (lv_sub hl [1, 2, 0] rfl) hT
set_option maxHeartbeats 4000000 in
set_option maxRecDepth 100000 in
theorem k_WF_stay_L36 (l : Launch) {p : Program} {e : Env} {s : State} {m : MethodId} {below : List Frame} {meth : Method} {c : Code} {b n : Nat} {C : CT} (hlo : 191 ≤ n) (x1 : Int) (hx1 : InR x1) (F : Cx b p m c b_WF_stay 4 s ([.ref (b + 0), vI x1] : List Value).toArray "WardFalls" C n 191) (hlk : meth.locks = false) (hr : meth.sig.returnType = some .int) {res : Mem × Int} : ∀ (fu : Nat) (M : Mem) (v1_ : Int) (hv1_ : InR v1_) (v2_ : Int) (hv2_ : InR v2_) (H : Heap) (locs : List Loc) (ls : Array Slot), St b C n M s H locs → lv_has ls 4 [(0, .ref (b + 0)), (2, vI v1_), (3, vI v2_)] → t_WF_stay_L36 x1 fu M v1_ v2_ = some res → W p l e (headSpec (wsM y_WF_stay b_WF_stay 4 (some .int)) (rmD 7)).room s m ([.ref (b + 0), vI x1] : List Value).toArray below meth c H locs 0 0 (MQ below (QI b C n res.1 res.2) ([.ref (b + 0), vI x1] : List Value).toArray s 0 0 (frb b)) (F0 m 36 ls []) := by
  intro fu
  induction fu with
  | zero => intro M v1_ hv1_ v2_ hv2_ H locs ls hS hl hT; exact absurd hT (by simp [t_WF_stay_L36])
  | succ fu ih =>
    intro M v1_ hv1_ v2_ hv2_ H locs ls hS hl hT
    rw [t_WF_stay_L36] at hT
    refine lv_iload_n F.hx F.hb d_WF_stay_36 rfl (lv_at hl 2 rfl) ?_
    refine lv_aload_n F.hx F.hb d_WF_stay_37 rfl (lv_at hl 0 rfl) ?_
    refine r_get (v := .ref (b + 177)) (N := 19) (T := T0) (j := 16) F hS (show 0 < 191 by decide) (show shK 0 = 4 from rfl) (show shN 0 = 19 from rfl) rfl (Nat.le_of_ble_eq_true rfl) ing0 mw_566 (fv_sg rfl rfl rfl) d_WF_stay_38 ?_
    refine r_get (v := vI (M.1 177 7)) (N := 9) (T := T4) (j := 7) F hS (show 177 < 191 by decide) (show shK 177 = 8 from rfl) (show shN 177 = 9 from rfl) rfl (Nat.le_of_ble_eq_true rfl) ing4 mw_446 (fv_int rfl) d_WF_stay_41 ?_
    have i6 := hS.rng 177 7
    refine r_icmp_ge (tgt := 73) F.hx F.hb hv2_ i6 d_WF_stay_44 (by decide) (fun c7 => ?_) (fun c7 => ?_)
    · replace hT := (if_pos c7).symm.trans hT
      refine r_bipush F.hx F.hb d_WF_stay_73 rfl ?_
      cases hT
      exact r_iret F hlk hr rfl hS (inr_c rfl) d_WF_stay_75
    · replace hT := (if_neg c7).symm.trans hT
      refine lv_aload_n F.hx F.hb d_WF_stay_47 rfl (lv_at hl 0 rfl) ?_
      refine r_get (v := .ref (b + 177)) (N := 19) (T := T0) (j := 16) F hS (show 0 < 191 by decide) (show shK 0 = 4 from rfl) (show shN 0 = 19 from rfl) rfl (Nat.le_of_ble_eq_true rfl) ing0 mw_566 (fv_sg rfl rfl rfl) d_WF_stay_48 ?_
      refine lv_iload_n F.hx F.hb d_WF_stay_51 rfl (lv_at hl 2 rfl) ?_
      obtain ⟨q8, hq8, hT⟩ := q_obind hT
      refine r_backZ F hS (r_runV (k := 177) (N := 9) (T := T4) (As := [vI v2_]) F hS (show 177 < 191 by decide) (show shK 177 = 8 from rfl) rfl (c_Laws_isStay l F.2.2.1 M v2_ hv2_ _ hq8) gs_WF_362 hd_Laws_isStay ⟨Nat.le_of_ble_eq_true rfl, Nat.le_of_ble_eq_true rfl⟩ rfl hl.1 (Nat.le_of_ble_eq_true rfl) ⟨Nat.zero_le _, Nat.zero_le _⟩ rfl d_WF_stay_52) (fun H locs hS h9 => ?_)
      refine r_if_eq (tgt := 67) F.hx F.hb (inr_z h9) d_WF_stay_55 (by decide) (fun c10 => ?_) (fun c10 => ?_)
      · replace hT := (if_pos c10).symm.trans hT
        exact k_WF_stay_L67 l hlo x1 hx1 F hlk hr (fun a0_ a1_ a2_ => t_WF_stay_L36 x1 fu a0_ a1_ a2_) ih M v1_ hv1_ v2_ hv2_ _ _ _ hS (lv_sub hl [0, 1, 2] rfl) hT
      · replace hT := (if_neg c10).symm.trans hT
        refine lv_iload_n F.hx F.hb d_WF_stay_58 rfl (lv_at hl 1 rfl) ?_
        refine r_if_ne (tgt := 64) F.hx F.hb hv1_ d_WF_stay_59 (by decide) (fun c11 => ?_) (fun c11 => ?_)
        · replace hT := (if_neg c11).symm.trans hT
          refine lv_iinc (v := Int32.ofInt (w32 (v1_ + (-1)))) (lv' := [(2, vI (w32 (v1_ + (-1)))), (0, .ref (b + 0)), (3, vI v2_)]) F.hx F.hb d_WF_stay_64 hl (k := 1) rfl (q_of_add _ _) (Nat.le_of_ble_eq_true rfl) rfl (fun ls hl => ?_)
          exact k_WF_stay_L67 l hlo x1 hx1 F hlk hr (fun a0_ a1_ a2_ => t_WF_stay_L36 x1 fu a0_ a1_ a2_) ih M (w32 (v1_ + (-1))) (inr_w32 _) v2_ hv2_ _ _ _ hS (lv_sub hl [1, 0, 2] rfl) hT
        · replace hT := (if_pos c11).symm.trans hT
          refine lv_iload_n F.hx F.hb d_WF_stay_62 rfl (lv_at hl 2 rfl) ?_
          cases hT
          exact r_iret F hlk hr rfl hS hv2_ d_WF_stay_63
set_option maxHeartbeats 4000000 in
set_option maxRecDepth 100000 in
theorem c_WF_stay (l : Launch) {b n : Nat} {C : CT} (hlo : 191 ≤ n) (M : Mem) (x1 : Int) (hx1 : InR x1) (res : Mem × Int) (hT : t_WF_stay M x1 = some res) : CM l b C n 7 y_WF_stay b_WF_stay 4 (some .int) [.ref (b + 0), vI x1] M (QI b C n res.1 res.2) := by
  refine CM.of (lo := 191) (ow := "WardFalls") (by decide) rfl (Nat.le_of_ble_eq_true rfl) hlo (fun p e s m below meth c F hlk hr hS ls hl => ?_)
  have hl : lv_has ls 4 [(0, .ref (b + 0)), (1, vI x1)] := hl
  unfold t_WF_stay at hT
  refine lv_iload_n F.hx F.hb d_WF_stay_0 rfl (lv_at hl 1 rfl) ?_
  refine r_if_ge (tgt := 6) F.hx F.hb hx1 d_WF_stay_1 (by decide) (fun c1 => ?_) (fun c1 => ?_)
  · replace hT := (if_pos c1).symm.trans hT
    refine lv_aload_n F.hx F.hb d_WF_stay_6 rfl (lv_at hl 0 rfl) ?_
    refine r_get (v := .ref (b + 177)) (N := 19) (T := T0) (j := 16) F hS (show 0 < 191 by decide) (show shK 0 = 4 from rfl) (show shN 0 = 19 from rfl) rfl (Nat.le_of_ble_eq_true rfl) ing0 mw_566 (fv_sg rfl rfl rfl) d_WF_stay_7 ?_
    refine lv_aload_n F.hx F.hb d_WF_stay_10 rfl (lv_at hl 0 rfl) ?_
    have h2 := St_town hS
    refine r_get (v := .ref (b + ((M.1 0 4).toNat))) (N := 19) (T := T0) (j := 4) F hS (show 0 < 191 by decide) (show shK 0 = 4 from rfl) (show shN 0 = 19 from rfl) rfl (Nat.le_of_ble_eq_true rfl) ing0 mw_554 (fv_town hS) d_WF_stay_11 ?_
    refine lv_aload_n F.hx F.hb d_WF_stay_14 rfl (lv_at hl 0 rfl) ?_
    refine r_get (v := .ref (b + 47)) (N := 19) (T := T0) (j := 8) F hS (show 0 < 191 by decide) (show shK 0 = 4 from rfl) (show shN 0 = 19 from rfl) rfl (Nat.le_of_ble_eq_true rfl) ing0 mw_558 (fv_sg rfl rfl rfl) d_WF_stay_15 ?_
    refine lv_aload_n F.hx F.hb d_WF_stay_18 rfl (lv_at hl 0 rfl) ?_
    refine r_get (v := .ref (b + 52)) (N := 19) (T := T0) (j := 9) F hS (show 0 < 191 by decide) (show shK 0 = 4 from rfl) (show shN 0 = 19 from rfl) rfl (Nat.le_of_ble_eq_true rfl) ing0 mw_559 (fv_sg rfl rfl rfl) d_WF_stay_19 ?_
    refine lv_aload_n F.hx F.hb d_WF_stay_22 rfl (lv_at hl 0 rfl) ?_
    refine r_get (v := .ref (b + 62)) (N := 19) (T := T0) (j := 11) F hS (show 0 < 191 by decide) (show shK 0 = 4 from rfl) (show shN 0 = 19 from rfl) rfl (Nat.le_of_ble_eq_true rfl) ing0 mw_561 (fv_sg rfl rfl rfl) d_WF_stay_23 ?_
    refine r_get (v := vI (M.1 62 3)) (N := 6) (T := T2) (j := 3) F hS (show 62 < 191 by decide) (show shK 62 = 6 from rfl) (show shN 62 = 6 from rfl) rfl (Nat.le_of_ble_eq_true rfl) ing2 mw_321 (fv_int rfl) d_WF_stay_26 ?_
    have i3 := hS.rng 62 3
    obtain ⟨q4, hq4, hT⟩ := q_obind hT
    refine r_backV F hS (r_runV (k := 177) (N := 9) (T := T4) (As := [.ref (b + ((M.1 0 4).toNat)), .ref (b + 47), .ref (b + 52), vI (M.1 62 3)]) F hS (show 177 < 191 by decide) (show shK 177 = 8 from rfl) rfl (c_Laws_tryVotes l F.2.2.1 M ((M.1 0 4).toNat) 47 52 (M.1 62 3) h2 (by decide : isScene 47) (by decide : isScene 52) i3 _ hq4) gs_WF_355 hd_Laws_tryVotes ⟨Nat.le_of_ble_eq_true rfl, Nat.le_of_ble_eq_true rfl⟩ rfl hl.1 (Nat.le_of_ble_eq_true rfl) ⟨Nat.zero_le _, Nat.zero_le _⟩ rfl d_WF_stay_29) (fun H locs hS => ?_)
    refine lv_iload_n F.hx F.hb d_WF_stay_32 rfl (lv_at hl 1 rfl) ?_
    refine lv_istore_n (lv' := [(2, vI x1), (0, .ref (b + 0)), (1, vI x1)]) F.hx F.hb d_WF_stay_33 rfl hl (Nat.le_of_ble_eq_true rfl) rfl (fun ls hl => ?_)
    refine r_iconst F.hx F.hb d_WF_stay_34 ?_
    refine lv_istore_n (lv' := [(3, vI 0), (2, vI x1), (0, .ref (b + 0)), (1, vI x1)]) F.hx F.hb d_WF_stay_35 rfl hl (Nat.le_of_ble_eq_true rfl) rfl (fun ls hl => ?_)
    exact k_WF_stay_L36 l hlo x1 hx1 F hlk hr FU q4 x1 hx1 0 (inr_c rfl) _ _ _ hS (lv_sub hl [2, 1, 0] rfl) hT
  · replace hT := (if_neg c1).symm.trans hT
    refine r_iconst F.hx F.hb d_WF_stay_4 ?_
    cases hT
    exact r_iret F hlk hr rfl hS (inr_c rfl) d_WF_stay_5
theorem d_WF_treatySum_0 : decode b_WF_treatySum 0 = .ok (.iconst 0, 1) := dc_3 (by decide +kernel)
theorem d_WF_treatySum_1 : decode b_WF_treatySum 1 = .ok (.istore_n 2, 1) := dc_61 (by decide +kernel)
theorem d_WF_treatySum_2 : decode b_WF_treatySum 2 = .ok (.iconst 0, 1) := dc_3 (by decide +kernel)
theorem d_WF_treatySum_3 : decode b_WF_treatySum 3 = .ok (.istore_n 3, 1) := dc_62 (by decide +kernel)
theorem d_WF_treatySum_4 : decode b_WF_treatySum 4 = .ok (.iload_n 3, 1) := dc_29 (by decide +kernel)
theorem d_WF_treatySum_5 : decode b_WF_treatySum 5 = .ok (.aload_n 0, 1) := dc_42 (by decide +kernel)
theorem d_WF_treatySum_6 : decode b_WF_treatySum 6 = .ok (.getfield 22, 3) := dc_180 (by decide +kernel)
theorem d_WF_treatySum_9 : decode b_WF_treatySum 9 = .ok (.getfield 137, 3) := dc_180 (by decide +kernel)
theorem d_WF_treatySum_12 : decode b_WF_treatySum 12 = .ok (.if_icmp .ge 52, 3) := dc_162 (by decide +kernel)
theorem d_WF_treatySum_15 : decode b_WF_treatySum 15 = .ok (.aload_n 0, 1) := dc_42 (by decide +kernel)
theorem d_WF_treatySum_16 : decode b_WF_treatySum 16 = .ok (.getfield 83, 3) := dc_180 (by decide +kernel)
theorem d_WF_treatySum_19 : decode b_WF_treatySum 19 = .ok (.iload_n 3, 1) := dc_29 (by decide +kernel)
theorem d_WF_treatySum_20 : decode b_WF_treatySum 20 = .ok (.iload_n 1, 1) := dc_27 (by decide +kernel)
theorem d_WF_treatySum_21 : decode b_WF_treatySum 21 = .ok (.invokevirtual 445, 3) := dc_182 (by decide +kernel)
theorem d_WF_treatySum_24 : decode b_WF_treatySum 24 = .ok (.istore 4, 2) := dc_54 (by decide +kernel)
theorem d_WF_treatySum_26 : decode b_WF_treatySum 26 = .ok (.iload 4, 2) := dc_21 (by decide +kernel)
theorem d_WF_treatySum_28 : decode b_WF_treatySum 28 = .ok (.aload_n 0, 1) := dc_42 (by decide +kernel)
theorem d_WF_treatySum_29 : decode b_WF_treatySum 29 = .ok (.getfield 83, 3) := dc_180 (by decide +kernel)
theorem d_WF_treatySum_32 : decode b_WF_treatySum 32 = .ok (.aload_n 0, 1) := dc_42 (by decide +kernel)
theorem d_WF_treatySum_33 : decode b_WF_treatySum 33 = .ok (.getfield 22, 3) := dc_180 (by decide +kernel)
theorem d_WF_treatySum_36 : decode b_WF_treatySum 36 = .ok (.iload_n 3, 1) := dc_29 (by decide +kernel)
theorem d_WF_treatySum_37 : decode b_WF_treatySum 37 = .ok (.aload_n 0, 1) := dc_42 (by decide +kernel)
theorem d_WF_treatySum_38 : decode b_WF_treatySum 38 = .ok (.getfield 59, 3) := dc_180 (by decide +kernel)
theorem d_WF_treatySum_41 : decode b_WF_treatySum 41 = .ok (.getfield 218, 3) := dc_180 (by decide +kernel)
theorem d_WF_treatySum_44 : decode b_WF_treatySum 44 = .ok (.invokevirtual 221, 3) := dc_182 (by decide +kernel)
theorem d_WF_treatySum_47 : decode b_WF_treatySum 47 = .ok (.if_icmp .ge 6, 3) := dc_162 (by decide +kernel)
theorem d_WF_treatySum_50 : decode b_WF_treatySum 50 = .ok (.bipush (-2), 2) := dc_16 (by decide +kernel)
theorem d_WF_treatySum_52 : decode b_WF_treatySum 52 = .ok (.ireturn, 1) := dc_172 (by decide +kernel)
theorem d_WF_treatySum_53 : decode b_WF_treatySum 53 = .ok (.iload_n 2, 1) := dc_28 (by decide +kernel)
theorem d_WF_treatySum_54 : decode b_WF_treatySum 54 = .ok (.iload 4, 2) := dc_21 (by decide +kernel)
theorem d_WF_treatySum_56 : decode b_WF_treatySum 56 = .ok (.iadd, 1) := dc_96 (by decide +kernel)
theorem d_WF_treatySum_57 : decode b_WF_treatySum 57 = .ok (.istore_n 2, 1) := dc_61 (by decide +kernel)
theorem d_WF_treatySum_58 : decode b_WF_treatySum 58 = .ok (.iinc 3 1, 3) := dc_132 (by decide +kernel)
theorem d_WF_treatySum_61 : decode b_WF_treatySum 61 = .ok (.goto (-57), 3) := dc_167 (by decide +kernel)
theorem d_WF_treatySum_64 : decode b_WF_treatySum 64 = .ok (.iload_n 2, 1) := dc_28 (by decide +kernel)
theorem d_WF_treatySum_65 : decode b_WF_treatySum 65 = .ok (.ireturn, 1) := dc_172 (by decide +kernel)
def t_WF_treatySum_L4 (x1 : Int)  : Nat → Mem → Int → Int → Option (Mem × Int)
  | 0, _, _, _ => none
  | fu + 1, M, v2_, v3_ => (if (M.1 ((M.1 0 4).toNat) 14) ≤ v3_ then (some (M, v2_)) else (qlet (t_Laws_joyBy M v3_ x1) fun q4 => (obind (t_Laws_joyOf M ((M.1 0 4).toNat) v3_ (M.1 62 3)) fun q8 => (if (q8.2) ≤ q4 then (t_WF_treatySum_L4 x1 fu (q8.1) (w32 (v2_ + q4)) (w32 (v3_ + 1))) else (some ((q8.1), (-2)))))))
def t_WF_treatySum (M : Mem) (x1 : Int) : Option (Mem × Int) := (t_WF_treatySum_L4 x1 FU M 0 0)
set_option maxHeartbeats 4000000 in
set_option maxRecDepth 100000 in
theorem k_WF_treatySum_L4 (l : Launch) {p : Program} {e : Env} {s : State} {m : MethodId} {below : List Frame} {meth : Method} {c : Code} {b n : Nat} {C : CT} (hlo : 191 ≤ n) (x1 : Int) (hx1 : InR x1) (F : Cx b p m c b_WF_treatySum 5 s ([.ref (b + 0), vI x1] : List Value).toArray "WardFalls" C n 191) (hlk : meth.locks = false) (hr : meth.sig.returnType = some .int) {res : Mem × Int} : ∀ (fu : Nat) (M : Mem) (v2_ : Int) (hv2_ : InR v2_) (v3_ : Int) (hv3_ : InR v3_) (H : Heap) (locs : List Loc) (ls : Array Slot), St b C n M s H locs → lv_has ls 5 [(0, .ref (b + 0)), (1, vI x1), (2, vI v2_), (3, vI v3_)] → t_WF_treatySum_L4 x1 fu M v2_ v3_ = some res → W p l e (headSpec (wsM y_WF_treatySum b_WF_treatySum 5 (some .int)) (rmD 6)).room s m ([.ref (b + 0), vI x1] : List Value).toArray below meth c H locs 0 0 (MQ below (QI b C n res.1 res.2) ([.ref (b + 0), vI x1] : List Value).toArray s 0 0 (frb b)) (F0 m 4 ls []) := by
  intro fu
  induction fu with
  | zero => intro M v2_ hv2_ v3_ hv3_ H locs ls hS hl hT; exact absurd hT (by simp [t_WF_treatySum_L4])
  | succ fu ih =>
    intro M v2_ hv2_ v3_ hv3_ H locs ls hS hl hT
    rw [t_WF_treatySum_L4] at hT
    refine lv_iload_n F.hx F.hb d_WF_treatySum_4 rfl (lv_at hl 3 rfl) ?_
    refine lv_aload_n F.hx F.hb d_WF_treatySum_5 rfl (lv_at hl 0 rfl) ?_
    have h1 := St_town hS
    refine r_get (v := .ref (b + ((M.1 0 4).toNat))) (N := 19) (T := T0) (j := 4) F hS (show 0 < 191 by decide) (show shK 0 = 4 from rfl) (show shN 0 = 19 from rfl) rfl (Nat.le_of_ble_eq_true rfl) ing0 mw_554 (fv_town hS) d_WF_treatySum_6 ?_
    refine r_get (v := vI (M.1 ((M.1 0 4).toNat) 14)) (N := 20) (T := T11) (j := 14) F hS (Town_lt h1) (Town_sh h1) (Town_N h1) rfl (Nat.le_of_ble_eq_true rfl) ing11 mw_137 (fv_int rfl) d_WF_treatySum_9 ?_
    have i2 := hS.rng ((M.1 0 4).toNat) 14
    refine r_icmp_ge (tgt := 64) F.hx F.hb hv3_ i2 d_WF_treatySum_12 (by decide) (fun c3 => ?_) (fun c3 => ?_)
    · replace hT := (if_pos c3).symm.trans hT
      refine lv_iload_n F.hx F.hb d_WF_treatySum_64 rfl (lv_at hl 2 rfl) ?_
      cases hT
      exact r_iret F hlk hr rfl hS hv2_ d_WF_treatySum_65
    · replace hT := (if_neg c3).symm.trans hT
      refine lv_aload_n F.hx F.hb d_WF_treatySum_15 rfl (lv_at hl 0 rfl) ?_
      refine r_get (v := .ref (b + 177)) (N := 19) (T := T0) (j := 16) F hS (show 0 < 191 by decide) (show shK 0 = 4 from rfl) (show shN 0 = 19 from rfl) rfl (Nat.le_of_ble_eq_true rfl) ing0 mw_566 (fv_sg rfl rfl rfl) d_WF_treatySum_16 ?_
      refine lv_iload_n F.hx F.hb d_WF_treatySum_19 rfl (lv_at hl 3 rfl) ?_
      refine lv_iload_n F.hx F.hb d_WF_treatySum_20 rfl (lv_at hl 1 rfl) ?_
      obtain ⟨q4, hq4⟩ : ∃ q, q = (t_Laws_joyBy M v3_ x1) := ⟨_, rfl⟩
      replace hT := qlet_eq hT hq4
      refine r_backI F hS (r_runV (k := 177) (N := 9) (T := T4) (As := [vI v3_, vI x1]) F hS (show 177 < 191 by decide) (show shK 177 = 8 from rfl) rfl (c_Laws_joyBy l F.2.2.1 M v3_ x1 hv3_ hx1 _ hq4.symm) gs_WF_445 hd_Laws_joyBy ⟨Nat.le_of_ble_eq_true rfl, Nat.le_of_ble_eq_true rfl⟩ rfl hl.1 (Nat.le_of_ble_eq_true rfl) ⟨Nat.zero_le _, Nat.zero_le _⟩ rfl d_WF_treatySum_21) (fun H locs hS h5 => ?_)
      refine lv_istore (lv' := [(4, vI q4), (0, .ref (b + 0)), (1, vI x1), (2, vI v2_), (3, vI v3_)]) F.hx F.hb d_WF_treatySum_24 hl (Nat.le_of_ble_eq_true rfl) rfl (fun ls hl => ?_)
      refine lv_iload F.hx F.hb d_WF_treatySum_26 (lv_at hl 0 rfl) ?_
      refine lv_aload_n F.hx F.hb d_WF_treatySum_28 rfl (lv_at hl 1 rfl) ?_
      refine r_get (v := .ref (b + 177)) (N := 19) (T := T0) (j := 16) F hS (show 0 < 191 by decide) (show shK 0 = 4 from rfl) (show shN 0 = 19 from rfl) rfl (Nat.le_of_ble_eq_true rfl) ing0 mw_566 (fv_sg rfl rfl rfl) d_WF_treatySum_29 ?_
      refine lv_aload_n F.hx F.hb d_WF_treatySum_32 rfl (lv_at hl 1 rfl) ?_
      have h6 := St_town hS
      refine r_get (v := .ref (b + ((M.1 0 4).toNat))) (N := 19) (T := T0) (j := 4) F hS (show 0 < 191 by decide) (show shK 0 = 4 from rfl) (show shN 0 = 19 from rfl) rfl (Nat.le_of_ble_eq_true rfl) ing0 mw_554 (fv_town hS) d_WF_treatySum_33 ?_
      refine lv_iload_n F.hx F.hb d_WF_treatySum_36 rfl (lv_at hl 4 rfl) ?_
      refine lv_aload_n F.hx F.hb d_WF_treatySum_37 rfl (lv_at hl 1 rfl) ?_
      refine r_get (v := .ref (b + 62)) (N := 19) (T := T0) (j := 11) F hS (show 0 < 191 by decide) (show shK 0 = 4 from rfl) (show shN 0 = 19 from rfl) rfl (Nat.le_of_ble_eq_true rfl) ing0 mw_561 (fv_sg rfl rfl rfl) d_WF_treatySum_38 ?_
      refine r_get (v := vI (M.1 62 3)) (N := 6) (T := T2) (j := 3) F hS (show 62 < 191 by decide) (show shK 62 = 6 from rfl) (show shN 62 = 6 from rfl) rfl (Nat.le_of_ble_eq_true rfl) ing2 mw_321 (fv_int rfl) d_WF_treatySum_41 ?_
      have i7 := hS.rng 62 3
      obtain ⟨q8, hq8, hT⟩ := q_obind hT
      refine r_backI F hS (r_runV (k := 177) (N := 9) (T := T4) (As := [.ref (b + ((M.1 0 4).toNat)), vI v3_, vI (M.1 62 3)]) F hS (show 177 < 191 by decide) (show shK 177 = 8 from rfl) rfl (c_Laws_joyOf l F.2.2.1 M ((M.1 0 4).toNat) v3_ (M.1 62 3) h6 hv3_ i7 _ hq8) gs_WF_221 hd_Laws_joyOf ⟨Nat.le_of_ble_eq_true rfl, Nat.le_of_ble_eq_true rfl⟩ rfl hl.1 (Nat.le_of_ble_eq_true rfl) ⟨Nat.zero_le _, Nat.zero_le _⟩ rfl d_WF_treatySum_44) (fun H locs hS h9 => ?_)
      refine r_icmp_ge (tgt := 53) F.hx F.hb h5 h9 d_WF_treatySum_47 (by decide) (fun c10 => ?_) (fun c10 => ?_)
      · replace hT := (if_pos c10).symm.trans hT
        refine lv_iload_n F.hx F.hb d_WF_treatySum_53 rfl (lv_at hl 3 rfl) ?_
        refine lv_iload F.hx F.hb d_WF_treatySum_54 (lv_at hl 0 rfl) ?_
        refine r_iadd F.hx F.hb d_WF_treatySum_56 ?_
        refine lv_istore_n (lv' := [(2, vI (w32 (v2_ + q4))), (4, vI q4), (0, .ref (b + 0)), (1, vI x1), (3, vI v3_)]) F.hx F.hb d_WF_treatySum_57 rfl hl (Nat.le_of_ble_eq_true rfl) rfl (fun ls hl => ?_)
        refine lv_iinc (v := Int32.ofInt (w32 (v3_ + 1))) (lv' := [(3, vI (w32 (v3_ + 1))), (2, vI (w32 (v2_ + q4))), (4, vI q4), (0, .ref (b + 0)), (1, vI x1)]) F.hx F.hb d_WF_treatySum_58 hl (k := 4) rfl (q_of_add _ _) (Nat.le_of_ble_eq_true rfl) rfl (fun ls hl => ?_)
        refine lv_goto (tgt := 4) F.hx F.hb d_WF_treatySum_61 (by decide) ?_
        exact ih (q8.1) (w32 (v2_ + q4)) (inr_w32 _) (w32 (v3_ + 1)) (inr_w32 _) _ _ _ hS (lv_sub hl [3, 4, 1, 0] rfl) hT
      · replace hT := (if_neg c10).symm.trans hT
        refine r_bipush F.hx F.hb d_WF_treatySum_50 rfl ?_
        cases hT
        exact r_iret F hlk hr rfl hS (inr_c rfl) d_WF_treatySum_52
set_option maxHeartbeats 4000000 in
set_option maxRecDepth 100000 in
theorem c_WF_treatySum (l : Launch) {b n : Nat} {C : CT} (hlo : 191 ≤ n) (M : Mem) (x1 : Int) (hx1 : InR x1) (res : Mem × Int) (hT : t_WF_treatySum M x1 = some res) : CM l b C n 6 y_WF_treatySum b_WF_treatySum 5 (some .int) [.ref (b + 0), vI x1] M (QI b C n res.1 res.2) := by
  refine CM.of (lo := 191) (ow := "WardFalls") (by decide) rfl (Nat.le_of_ble_eq_true rfl) hlo (fun p e s m below meth c F hlk hr hS ls hl => ?_)
  have hl : lv_has ls 5 [(0, .ref (b + 0)), (1, vI x1)] := hl
  unfold t_WF_treatySum at hT
  refine r_iconst F.hx F.hb d_WF_treatySum_0 ?_
  refine lv_istore_n (lv' := [(2, vI 0), (0, .ref (b + 0)), (1, vI x1)]) F.hx F.hb d_WF_treatySum_1 rfl hl (Nat.le_of_ble_eq_true rfl) rfl (fun ls hl => ?_)
  refine r_iconst F.hx F.hb d_WF_treatySum_2 ?_
  refine lv_istore_n (lv' := [(3, vI 0), (2, vI 0), (0, .ref (b + 0)), (1, vI x1)]) F.hx F.hb d_WF_treatySum_3 rfl hl (Nat.le_of_ble_eq_true rfl) rfl (fun ls hl => ?_)
  exact k_WF_treatySum_L4 l hlo x1 hx1 F hlk hr FU M 0 (inr_c rfl) 0 (inr_c rfl) _ _ _ hS (lv_sub hl [2, 3, 1, 0] rfl) hT
theorem d_WF_treaty_0 : decode b_WF_treaty 0 = .ok (.iload_n 1, 1) := dc_27 (by decide +kernel)
theorem d_WF_treaty_1 : decode b_WF_treaty 1 = .ok (.ifCond .lt 8, 3) := dc_155 (by decide +kernel)
theorem d_WF_treaty_4 : decode b_WF_treaty 4 = .ok (.iload_n 1, 1) := dc_27 (by decide +kernel)
theorem d_WF_treaty_5 : decode b_WF_treaty 5 = .ok (.iconst 1, 1) := dc_4 (by decide +kernel)
theorem d_WF_treaty_6 : decode b_WF_treaty 6 = .ok (.if_icmp .le 5, 3) := dc_164 (by decide +kernel)
theorem d_WF_treaty_9 : decode b_WF_treaty 9 = .ok (.iconst (-1), 1) := dc_2 (by decide +kernel)
theorem d_WF_treaty_10 : decode b_WF_treaty 10 = .ok (.ireturn, 1) := dc_172 (by decide +kernel)
theorem d_WF_treaty_11 : decode b_WF_treaty 11 = .ok (.aload_n 0, 1) := dc_42 (by decide +kernel)
theorem d_WF_treaty_12 : decode b_WF_treaty 12 = .ok (.getfield 83, 3) := dc_180 (by decide +kernel)
theorem d_WF_treaty_15 : decode b_WF_treaty 15 = .ok (.aload_n 0, 1) := dc_42 (by decide +kernel)
theorem d_WF_treaty_16 : decode b_WF_treaty 16 = .ok (.getfield 22, 3) := dc_180 (by decide +kernel)
theorem d_WF_treaty_19 : decode b_WF_treaty 19 = .ok (.aload_n 0, 1) := dc_42 (by decide +kernel)
theorem d_WF_treaty_20 : decode b_WF_treaty 20 = .ok (.getfield 46, 3) := dc_180 (by decide +kernel)
theorem d_WF_treaty_23 : decode b_WF_treaty 23 = .ok (.aload_n 0, 1) := dc_42 (by decide +kernel)
theorem d_WF_treaty_24 : decode b_WF_treaty 24 = .ok (.getfield 50, 3) := dc_180 (by decide +kernel)
theorem d_WF_treaty_27 : decode b_WF_treaty 27 = .ok (.aload_n 0, 1) := dc_42 (by decide +kernel)
theorem d_WF_treaty_28 : decode b_WF_treaty 28 = .ok (.getfield 59, 3) := dc_180 (by decide +kernel)
theorem d_WF_treaty_31 : decode b_WF_treaty 31 = .ok (.getfield 218, 3) := dc_180 (by decide +kernel)
theorem d_WF_treaty_34 : decode b_WF_treaty 34 = .ok (.invokevirtual 355, 3) := dc_182 (by decide +kernel)
theorem d_WF_treaty_37 : decode b_WF_treaty 37 = .ok (.aload_n 0, 1) := dc_42 (by decide +kernel)
theorem d_WF_treaty_38 : decode b_WF_treaty 38 = .ok (.getfield 83, 3) := dc_180 (by decide +kernel)
theorem d_WF_treaty_41 : decode b_WF_treaty 41 = .ok (.aload_n 0, 1) := dc_42 (by decide +kernel)
theorem d_WF_treaty_42 : decode b_WF_treaty 42 = .ok (.getfield 22, 3) := dc_180 (by decide +kernel)
theorem d_WF_treaty_45 : decode b_WF_treaty 45 = .ok (.aload_n 0, 1) := dc_42 (by decide +kernel)
theorem d_WF_treaty_46 : decode b_WF_treaty 46 = .ok (.getfield 46, 3) := dc_180 (by decide +kernel)
theorem d_WF_treaty_49 : decode b_WF_treaty 49 = .ok (.invokevirtual 214, 3) := dc_182 (by decide +kernel)
theorem d_WF_treaty_52 : decode b_WF_treaty 52 = .ok (.bipush (-2), 2) := dc_16 (by decide +kernel)
theorem d_WF_treaty_54 : decode b_WF_treaty 54 = .ok (.istore_n 2, 1) := dc_61 (by decide +kernel)
theorem d_WF_treaty_55 : decode b_WF_treaty 55 = .ok (.bipush (-2), 2) := dc_16 (by decide +kernel)
theorem d_WF_treaty_57 : decode b_WF_treaty 57 = .ok (.istore_n 3, 1) := dc_62 (by decide +kernel)
theorem d_WF_treaty_58 : decode b_WF_treaty 58 = .ok (.iconst 0, 1) := dc_3 (by decide +kernel)
theorem d_WF_treaty_59 : decode b_WF_treaty 59 = .ok (.istore 4, 2) := dc_54 (by decide +kernel)
theorem d_WF_treaty_61 : decode b_WF_treaty 61 = .ok (.iload 4, 2) := dc_21 (by decide +kernel)
theorem d_WF_treaty_63 : decode b_WF_treaty 63 = .ok (.aload_n 0, 1) := dc_42 (by decide +kernel)
theorem d_WF_treaty_64 : decode b_WF_treaty 64 = .ok (.getfield 83, 3) := dc_180 (by decide +kernel)
theorem d_WF_treaty_67 : decode b_WF_treaty 67 = .ok (.getfield 359, 3) := dc_180 (by decide +kernel)
theorem d_WF_treaty_70 : decode b_WF_treaty 70 = .ok (.if_icmp .ge 46, 3) := dc_162 (by decide +kernel)
theorem d_WF_treaty_73 : decode b_WF_treaty 73 = .ok (.aload_n 0, 1) := dc_42 (by decide +kernel)
theorem d_WF_treaty_74 : decode b_WF_treaty 74 = .ok (.getfield 83, 3) := dc_180 (by decide +kernel)
theorem d_WF_treaty_77 : decode b_WF_treaty 77 = .ok (.iload 4, 2) := dc_21 (by decide +kernel)
theorem d_WF_treaty_79 : decode b_WF_treaty 79 = .ok (.invokevirtual 362, 3) := dc_182 (by decide +kernel)
theorem d_WF_treaty_82 : decode b_WF_treaty 82 = .ok (.ifCond .eq 12, 3) := dc_153 (by decide +kernel)
theorem d_WF_treaty_85 : decode b_WF_treaty 85 = .ok (.aload_n 0, 1) := dc_42 (by decide +kernel)
theorem d_WF_treaty_86 : decode b_WF_treaty 86 = .ok (.iload 4, 2) := dc_21 (by decide +kernel)
theorem d_WF_treaty_88 : decode b_WF_treaty 88 = .ok (.invokevirtual 365, 3) := dc_182 (by decide +kernel)
theorem d_WF_treaty_91 : decode b_WF_treaty 91 = .ok (.goto 5, 3) := dc_167 (by decide +kernel)
theorem d_WF_treaty_94 : decode b_WF_treaty 94 = .ok (.bipush (-2), 2) := dc_16 (by decide +kernel)
theorem d_WF_treaty_96 : decode b_WF_treaty 96 = .ok (.istore 5, 2) := dc_54 (by decide +kernel)
theorem d_WF_treaty_98 : decode b_WF_treaty 98 = .ok (.iload 5, 2) := dc_21 (by decide +kernel)
theorem d_WF_treaty_100 : decode b_WF_treaty 100 = .ok (.iload_n 3, 1) := dc_29 (by decide +kernel)
theorem d_WF_treaty_101 : decode b_WF_treaty 101 = .ok (.if_icmp .le 9, 3) := dc_164 (by decide +kernel)
theorem d_WF_treaty_104 : decode b_WF_treaty 104 = .ok (.iload 4, 2) := dc_21 (by decide +kernel)
theorem d_WF_treaty_106 : decode b_WF_treaty 106 = .ok (.istore_n 2, 1) := dc_61 (by decide +kernel)
theorem d_WF_treaty_107 : decode b_WF_treaty 107 = .ok (.iload 5, 2) := dc_21 (by decide +kernel)
theorem d_WF_treaty_109 : decode b_WF_treaty 109 = .ok (.istore_n 3, 1) := dc_62 (by decide +kernel)
theorem d_WF_treaty_110 : decode b_WF_treaty 110 = .ok (.iinc 4 1, 3) := dc_132 (by decide +kernel)
theorem d_WF_treaty_113 : decode b_WF_treaty 113 = .ok (.goto (-52), 3) := dc_167 (by decide +kernel)
theorem d_WF_treaty_116 : decode b_WF_treaty 116 = .ok (.iload_n 1, 1) := dc_27 (by decide +kernel)
theorem d_WF_treaty_117 : decode b_WF_treaty 117 = .ok (.ifCond .ne 7, 3) := dc_154 (by decide +kernel)
theorem d_WF_treaty_120 : decode b_WF_treaty 120 = .ok (.iload_n 3, 1) := dc_29 (by decide +kernel)
theorem d_WF_treaty_121 : decode b_WF_treaty 121 = .ok (.goto 4, 3) := dc_167 (by decide +kernel)
theorem d_WF_treaty_124 : decode b_WF_treaty 124 = .ok (.iload_n 2, 1) := dc_28 (by decide +kernel)
theorem d_WF_treaty_125 : decode b_WF_treaty 125 = .ok (.ireturn, 1) := dc_172 (by decide +kernel)
def t_WF_treaty_L110 (x1 : Int) (bk61 : Mem → Int → Int → Int → Option (Mem × Int)) (M : Mem) (v2_ : Int) (v3_ : Int) (v4_ : Int) : Option (Mem × Int) := (bk61 M v2_ v3_ (w32 (v4_ + 1)))
def t_WF_treaty_L96 (x1 : Int) (bk61 : Mem → Int → Int → Int → Option (Mem × Int)) (M : Mem) (v2_ : Int) (v3_ : Int) (v4_ : Int) (v5_ : Int) : Option (Mem × Int) := (if v5_ ≤ v3_ then (t_WF_treaty_L110 x1 bk61 M v2_ v3_ v4_) else (t_WF_treaty_L110 x1 bk61 M v4_ v5_ v4_))
def t_WF_treaty_L61 (x1 : Int)  : Nat → Mem → Int → Int → Int → Option (Mem × Int)
  | 0, _, _, _, _ => none
  | fu + 1, M, v2_, v3_, v4_ => (if (M.1 177 7) ≤ v4_ then (if x1 = 0 then (some (M, v3_)) else (some (M, v2_))) else (obind (t_Laws_isStay M v4_) fun q13 => (if q13 = 0 then (t_WF_treaty_L96 x1 (fun a0_ a1_ a2_ a3_ => t_WF_treaty_L61 x1 fu a0_ a1_ a2_ a3_) M v2_ v3_ v4_ (-2)) else (obind (t_WF_treatySum M v4_) fun q16 => (t_WF_treaty_L96 x1 (fun a0_ a1_ a2_ a3_ => t_WF_treaty_L61 x1 fu a0_ a1_ a2_ a3_) (q16.1) v2_ v3_ v4_ (q16.2))))))
def t_WF_treaty (M : Mem) (x1 : Int) : Option (Mem × Int) := (if x1 < 0 then (some (M, (-1))) else (if x1 ≤ 1 then (obind (t_Laws_tryVotes M ((M.1 0 4).toNat) 47 52 (M.1 62 3)) fun q5 => (obind (t_Laws_measure q5 ((q5.1 0 4).toNat) 47) fun q8 => (t_WF_treaty_L61 x1 FU q8 (-2) (-2) 0))) else (some (M, (-1)))))
set_option maxHeartbeats 4000000 in
set_option maxRecDepth 100000 in
theorem k_WF_treaty_L110 (l : Launch) {p : Program} {e : Env} {s : State} {m : MethodId} {below : List Frame} {meth : Method} {c : Code} {b n : Nat} {C : CT} (hlo : 191 ≤ n) (x1 : Int) (hx1 : InR x1) (F : Cx b p m c b_WF_treaty 6 s ([.ref (b + 0), vI x1] : List Value).toArray "WardFalls" C n 191) (hlk : meth.locks = false) (hr : meth.sig.returnType = some .int) {res : Mem × Int} (bk61 : Mem → Int → Int → Int → Option (Mem × Int)) (hbk61 : ∀ (M : Mem) (v2_ : Int) (hv2_ : InR v2_) (v3_ : Int) (hv3_ : InR v3_) (v4_ : Int) (hv4_ : InR v4_) (H : Heap) (locs : List Loc) (ls : Array Slot), St b C n M s H locs → lv_has ls 6 [(0, .ref (b + 0)), (1, vI x1), (2, vI v2_), (3, vI v3_), (4, vI v4_)] → bk61 M v2_ v3_ v4_ = some res → W p l e (headSpec (wsM y_WF_treaty b_WF_treaty 6 (some .int)) (rmD 7)).room s m ([.ref (b + 0), vI x1] : List Value).toArray below meth c H locs 0 0 (MQ below (QI b C n res.1 res.2) ([.ref (b + 0), vI x1] : List Value).toArray s 0 0 (frb b)) (F0 m 61 ls [])) (M : Mem) (v2_ : Int) (hv2_ : InR v2_) (v3_ : Int) (hv3_ : InR v3_) (v4_ : Int) (hv4_ : InR v4_) (H : Heap) (locs : List Loc) (ls : Array Slot) (hS : St b C n M s H locs) (hl : lv_has ls 6 [(0, .ref (b + 0)), (1, vI x1), (2, vI v2_), (3, vI v3_), (4, vI v4_)]) (hT : t_WF_treaty_L110 x1 bk61 M v2_ v3_ v4_ = some res) : W p l e (headSpec (wsM y_WF_treaty b_WF_treaty 6 (some .int)) (rmD 7)).room s m ([.ref (b + 0), vI x1] : List Value).toArray below meth c H locs 0 0 (MQ below (QI b C n res.1 res.2) ([.ref (b + 0), vI x1] : List Value).toArray s 0 0 (frb b)) (F0 m 110 ls []) := by
  unfold t_WF_treaty_L110 at hT
  refine lv_iinc (v := Int32.ofInt (w32 (v4_ + 1))) (lv' := [(4, vI (w32 (v4_ + 1))), (0, .ref (b + 0)), (1, vI x1), (2, vI v2_), (3, vI v3_)]) F.hx F.hb d_WF_treaty_110 hl (k := 4) rfl (q_of_add _ _) (Nat.le_of_ble_eq_true rfl) rfl (fun ls hl => ?_)
  refine lv_goto (tgt := 61) F.hx F.hb d_WF_treaty_113 (by decide) ?_
  exact hbk61 M v2_ hv2_ v3_ hv3_ (w32 (v4_ + 1)) (inr_w32 _) _ _ _ hS (lv_sub hl [1, 2, 3, 4, 0] rfl) hT
set_option maxHeartbeats 4000000 in
set_option maxRecDepth 100000 in
theorem k_WF_treaty_L96 (l : Launch) {p : Program} {e : Env} {s : State} {m : MethodId} {below : List Frame} {meth : Method} {c : Code} {b n : Nat} {C : CT} (hlo : 191 ≤ n) (x1 : Int) (hx1 : InR x1) (F : Cx b p m c b_WF_treaty 6 s ([.ref (b + 0), vI x1] : List Value).toArray "WardFalls" C n 191) (hlk : meth.locks = false) (hr : meth.sig.returnType = some .int) {res : Mem × Int} (bk61 : Mem → Int → Int → Int → Option (Mem × Int)) (hbk61 : ∀ (M : Mem) (v2_ : Int) (hv2_ : InR v2_) (v3_ : Int) (hv3_ : InR v3_) (v4_ : Int) (hv4_ : InR v4_) (H : Heap) (locs : List Loc) (ls : Array Slot), St b C n M s H locs → lv_has ls 6 [(0, .ref (b + 0)), (1, vI x1), (2, vI v2_), (3, vI v3_), (4, vI v4_)] → bk61 M v2_ v3_ v4_ = some res → W p l e (headSpec (wsM y_WF_treaty b_WF_treaty 6 (some .int)) (rmD 7)).room s m ([.ref (b + 0), vI x1] : List Value).toArray below meth c H locs 0 0 (MQ below (QI b C n res.1 res.2) ([.ref (b + 0), vI x1] : List Value).toArray s 0 0 (frb b)) (F0 m 61 ls [])) (M : Mem) (v2_ : Int) (hv2_ : InR v2_) (v3_ : Int) (hv3_ : InR v3_) (v4_ : Int) (hv4_ : InR v4_) (v5_ : Int) (hv5_ : InR v5_) (H : Heap) (locs : List Loc) (ls : Array Slot) (hS : St b C n M s H locs) (hl : lv_has ls 6 [(0, .ref (b + 0)), (1, vI x1), (2, vI v2_), (3, vI v3_), (4, vI v4_)]) (hT : t_WF_treaty_L96 x1 bk61 M v2_ v3_ v4_ v5_ = some res) : W p l e (headSpec (wsM y_WF_treaty b_WF_treaty 6 (some .int)) (rmD 7)).room s m ([.ref (b + 0), vI x1] : List Value).toArray below meth c H locs 0 0 (MQ below (QI b C n res.1 res.2) ([.ref (b + 0), vI x1] : List Value).toArray s 0 0 (frb b)) (F0 m 96 ls [vI v5_]) := by
  unfold t_WF_treaty_L96 at hT
  refine lv_istore (lv' := [(5, vI v5_), (0, .ref (b + 0)), (1, vI x1), (2, vI v2_), (3, vI v3_), (4, vI v4_)]) F.hx F.hb d_WF_treaty_96 hl (Nat.le_of_ble_eq_true rfl) rfl (fun ls hl => ?_)
  refine lv_iload F.hx F.hb d_WF_treaty_98 (lv_at hl 0 rfl) ?_
  refine lv_iload_n F.hx F.hb d_WF_treaty_100 rfl (lv_at hl 4 rfl) ?_
  refine r_icmp_le (tgt := 110) F.hx F.hb hv5_ hv3_ d_WF_treaty_101 (by decide) (fun c18 => ?_) (fun c18 => ?_)
  · replace hT := (if_pos c18).symm.trans hT
    exact k_WF_treaty_L110 l hlo x1 hx1 F hlk hr bk61 hbk61 M v2_ hv2_ v3_ hv3_ v4_ hv4_ _ _ _ hS (lv_sub hl [1, 2, 3, 4, 5] rfl) hT
  · replace hT := (if_neg c18).symm.trans hT
    refine lv_iload F.hx F.hb d_WF_treaty_104 (lv_at hl 5 rfl) ?_
    refine lv_istore_n (lv' := [(2, vI v4_), (5, vI v5_), (0, .ref (b + 0)), (1, vI x1), (3, vI v3_), (4, vI v4_)]) F.hx F.hb d_WF_treaty_106 rfl hl (Nat.le_of_ble_eq_true rfl) rfl (fun ls hl => ?_)
    refine lv_iload F.hx F.hb d_WF_treaty_107 (lv_at hl 1 rfl) ?_
    refine lv_istore_n (lv' := [(3, vI v5_), (2, vI v4_), (5, vI v5_), (0, .ref (b + 0)), (1, vI x1), (4, vI v4_)]) F.hx F.hb d_WF_treaty_109 rfl hl (Nat.le_of_ble_eq_true rfl) rfl (fun ls hl => ?_)
    exact k_WF_treaty_L110 l hlo x1 hx1 F hlk hr bk61 hbk61 M v4_ hv4_ v5_ hv5_ v4_ hv4_ _ _ _ hS (lv_sub hl [3, 4, 1, 0, 5] rfl) hT
set_option maxHeartbeats 4000000 in
set_option maxRecDepth 100000 in
theorem k_WF_treaty_L61 (l : Launch) {p : Program} {e : Env} {s : State} {m : MethodId} {below : List Frame} {meth : Method} {c : Code} {b n : Nat} {C : CT} (hlo : 191 ≤ n) (x1 : Int) (hx1 : InR x1) (F : Cx b p m c b_WF_treaty 6 s ([.ref (b + 0), vI x1] : List Value).toArray "WardFalls" C n 191) (hlk : meth.locks = false) (hr : meth.sig.returnType = some .int) {res : Mem × Int} : ∀ (fu : Nat) (M : Mem) (v2_ : Int) (hv2_ : InR v2_) (v3_ : Int) (hv3_ : InR v3_) (v4_ : Int) (hv4_ : InR v4_) (H : Heap) (locs : List Loc) (ls : Array Slot), St b C n M s H locs → lv_has ls 6 [(0, .ref (b + 0)), (1, vI x1), (2, vI v2_), (3, vI v3_), (4, vI v4_)] → t_WF_treaty_L61 x1 fu M v2_ v3_ v4_ = some res → W p l e (headSpec (wsM y_WF_treaty b_WF_treaty 6 (some .int)) (rmD 7)).room s m ([.ref (b + 0), vI x1] : List Value).toArray below meth c H locs 0 0 (MQ below (QI b C n res.1 res.2) ([.ref (b + 0), vI x1] : List Value).toArray s 0 0 (frb b)) (F0 m 61 ls []) := by
  intro fu
  induction fu with
  | zero => intro M v2_ hv2_ v3_ hv3_ v4_ hv4_ H locs ls hS hl hT; exact absurd hT (by simp [t_WF_treaty_L61])
  | succ fu ih =>
    intro M v2_ hv2_ v3_ hv3_ v4_ hv4_ H locs ls hS hl hT
    rw [t_WF_treaty_L61] at hT
    refine lv_iload F.hx F.hb d_WF_treaty_61 (lv_at hl 4 rfl) ?_
    refine lv_aload_n F.hx F.hb d_WF_treaty_63 rfl (lv_at hl 0 rfl) ?_
    refine r_get (v := .ref (b + 177)) (N := 19) (T := T0) (j := 16) F hS (show 0 < 191 by decide) (show shK 0 = 4 from rfl) (show shN 0 = 19 from rfl) rfl (Nat.le_of_ble_eq_true rfl) ing0 mw_566 (fv_sg rfl rfl rfl) d_WF_treaty_64 ?_
    refine r_get (v := vI (M.1 177 7)) (N := 9) (T := T4) (j := 7) F hS (show 177 < 191 by decide) (show shK 177 = 8 from rfl) (show shN 177 = 9 from rfl) rfl (Nat.le_of_ble_eq_true rfl) ing4 mw_446 (fv_int rfl) d_WF_treaty_67 ?_
    have i10 := hS.rng 177 7
    refine r_icmp_ge (tgt := 116) F.hx F.hb hv4_ i10 d_WF_treaty_70 (by decide) (fun c11 => ?_) (fun c11 => ?_)
    · replace hT := (if_pos c11).symm.trans hT
      refine lv_iload_n F.hx F.hb d_WF_treaty_116 rfl (lv_at hl 1 rfl) ?_
      refine r_if_ne (tgt := 124) F.hx F.hb hx1 d_WF_treaty_117 (by decide) (fun c12 => ?_) (fun c12 => ?_)
      · replace hT := (if_neg c12).symm.trans hT
        refine lv_iload_n F.hx F.hb d_WF_treaty_124 rfl (lv_at hl 2 rfl) ?_
        cases hT
        exact r_iret F hlk hr rfl hS hv2_ d_WF_treaty_125
      · replace hT := (if_pos c12).symm.trans hT
        refine lv_iload_n F.hx F.hb d_WF_treaty_120 rfl (lv_at hl 3 rfl) ?_
        refine lv_goto (tgt := 125) F.hx F.hb d_WF_treaty_121 (by decide) ?_
        cases hT
        exact r_iret F hlk hr rfl hS hv3_ d_WF_treaty_125
    · replace hT := (if_neg c11).symm.trans hT
      refine lv_aload_n F.hx F.hb d_WF_treaty_73 rfl (lv_at hl 0 rfl) ?_
      refine r_get (v := .ref (b + 177)) (N := 19) (T := T0) (j := 16) F hS (show 0 < 191 by decide) (show shK 0 = 4 from rfl) (show shN 0 = 19 from rfl) rfl (Nat.le_of_ble_eq_true rfl) ing0 mw_566 (fv_sg rfl rfl rfl) d_WF_treaty_74 ?_
      refine lv_iload F.hx F.hb d_WF_treaty_77 (lv_at hl 4 rfl) ?_
      obtain ⟨q13, hq13, hT⟩ := q_obind hT
      refine r_backZ F hS (r_runV (k := 177) (N := 9) (T := T4) (As := [vI v4_]) F hS (show 177 < 191 by decide) (show shK 177 = 8 from rfl) rfl (c_Laws_isStay l F.2.2.1 M v4_ hv4_ _ hq13) gs_WF_362 hd_Laws_isStay ⟨Nat.le_of_ble_eq_true rfl, Nat.le_of_ble_eq_true rfl⟩ rfl hl.1 (Nat.le_of_ble_eq_true rfl) ⟨Nat.zero_le _, Nat.zero_le _⟩ rfl d_WF_treaty_79) (fun H locs hS h14 => ?_)
      refine r_if_eq (tgt := 94) F.hx F.hb (inr_z h14) d_WF_treaty_82 (by decide) (fun c15 => ?_) (fun c15 => ?_)
      · replace hT := (if_pos c15).symm.trans hT
        refine r_bipush F.hx F.hb d_WF_treaty_94 rfl ?_
        exact k_WF_treaty_L96 l hlo x1 hx1 F hlk hr (fun a0_ a1_ a2_ a3_ => t_WF_treaty_L61 x1 fu a0_ a1_ a2_ a3_) ih M v2_ hv2_ v3_ hv3_ v4_ hv4_ (-2) (inr_c rfl) _ _ _ hS (lv_sub hl [0, 1, 2, 3, 4] rfl) hT
      · replace hT := (if_neg c15).symm.trans hT
        refine lv_aload_n F.hx F.hb d_WF_treaty_85 rfl (lv_at hl 0 rfl) ?_
        refine lv_iload F.hx F.hb d_WF_treaty_86 (lv_at hl 4 rfl) ?_
        obtain ⟨q16, hq16, hT⟩ := q_obind hT
        refine r_backI F hS (r_runV (k := 0) (N := 19) (T := T0) (As := [vI v4_]) F hS (show 0 < 191 by decide) (show shK 0 = 4 from rfl) rfl (c_WF_treatySum l F.2.2.1 M v4_ hv4_ _ hq16) gs_WF_365 hd_WF_treatySum ⟨Nat.le_of_ble_eq_true rfl, Nat.le_of_ble_eq_true rfl⟩ rfl hl.1 (Nat.le_of_ble_eq_true rfl) ⟨Nat.zero_le _, Nat.zero_le _⟩ rfl d_WF_treaty_88) (fun H locs hS h17 => ?_)
        refine lv_goto (tgt := 96) F.hx F.hb d_WF_treaty_91 (by decide) ?_
        exact k_WF_treaty_L96 l hlo x1 hx1 F hlk hr (fun a0_ a1_ a2_ a3_ => t_WF_treaty_L61 x1 fu a0_ a1_ a2_ a3_) ih (q16.1) v2_ hv2_ v3_ hv3_ v4_ hv4_ (q16.2) h17 _ _ _ hS (lv_sub hl [0, 1, 2, 3, 4] rfl) hT
set_option maxHeartbeats 4000000 in
set_option maxRecDepth 100000 in
theorem c_WF_treaty (l : Launch) {b n : Nat} {C : CT} (hlo : 191 ≤ n) (M : Mem) (x1 : Int) (hx1 : InR x1) (res : Mem × Int) (hT : t_WF_treaty M x1 = some res) : CM l b C n 7 y_WF_treaty b_WF_treaty 6 (some .int) [.ref (b + 0), vI x1] M (QI b C n res.1 res.2) := by
  refine CM.of (lo := 191) (ow := "WardFalls") (by decide) rfl (Nat.le_of_ble_eq_true rfl) hlo (fun p e s m below meth c F hlk hr hS ls hl => ?_)
  have hl : lv_has ls 6 [(0, .ref (b + 0)), (1, vI x1)] := hl
  unfold t_WF_treaty at hT
  refine lv_iload_n F.hx F.hb d_WF_treaty_0 rfl (lv_at hl 1 rfl) ?_
  refine r_if_lt (tgt := 9) F.hx F.hb hx1 d_WF_treaty_1 (by decide) (fun c1 => ?_) (fun c1 => ?_)
  · replace hT := (if_pos c1).symm.trans hT
    refine r_iconst F.hx F.hb d_WF_treaty_9 ?_
    cases hT
    exact r_iret F hlk hr rfl hS (inr_c rfl) d_WF_treaty_10
  · replace hT := (if_neg c1).symm.trans hT
    refine lv_iload_n F.hx F.hb d_WF_treaty_4 rfl (lv_at hl 1 rfl) ?_
    refine r_iconst F.hx F.hb d_WF_treaty_5 ?_
    refine r_icmp_le (tgt := 11) F.hx F.hb hx1 (inr_c rfl) d_WF_treaty_6 (by decide) (fun c2 => ?_) (fun c2 => ?_)
    · replace hT := (if_pos c2).symm.trans hT
      refine lv_aload_n F.hx F.hb d_WF_treaty_11 rfl (lv_at hl 0 rfl) ?_
      refine r_get (v := .ref (b + 177)) (N := 19) (T := T0) (j := 16) F hS (show 0 < 191 by decide) (show shK 0 = 4 from rfl) (show shN 0 = 19 from rfl) rfl (Nat.le_of_ble_eq_true rfl) ing0 mw_566 (fv_sg rfl rfl rfl) d_WF_treaty_12 ?_
      refine lv_aload_n F.hx F.hb d_WF_treaty_15 rfl (lv_at hl 0 rfl) ?_
      have h3 := St_town hS
      refine r_get (v := .ref (b + ((M.1 0 4).toNat))) (N := 19) (T := T0) (j := 4) F hS (show 0 < 191 by decide) (show shK 0 = 4 from rfl) (show shN 0 = 19 from rfl) rfl (Nat.le_of_ble_eq_true rfl) ing0 mw_554 (fv_town hS) d_WF_treaty_16 ?_
      refine lv_aload_n F.hx F.hb d_WF_treaty_19 rfl (lv_at hl 0 rfl) ?_
      refine r_get (v := .ref (b + 47)) (N := 19) (T := T0) (j := 8) F hS (show 0 < 191 by decide) (show shK 0 = 4 from rfl) (show shN 0 = 19 from rfl) rfl (Nat.le_of_ble_eq_true rfl) ing0 mw_558 (fv_sg rfl rfl rfl) d_WF_treaty_20 ?_
      refine lv_aload_n F.hx F.hb d_WF_treaty_23 rfl (lv_at hl 0 rfl) ?_
      refine r_get (v := .ref (b + 52)) (N := 19) (T := T0) (j := 9) F hS (show 0 < 191 by decide) (show shK 0 = 4 from rfl) (show shN 0 = 19 from rfl) rfl (Nat.le_of_ble_eq_true rfl) ing0 mw_559 (fv_sg rfl rfl rfl) d_WF_treaty_24 ?_
      refine lv_aload_n F.hx F.hb d_WF_treaty_27 rfl (lv_at hl 0 rfl) ?_
      refine r_get (v := .ref (b + 62)) (N := 19) (T := T0) (j := 11) F hS (show 0 < 191 by decide) (show shK 0 = 4 from rfl) (show shN 0 = 19 from rfl) rfl (Nat.le_of_ble_eq_true rfl) ing0 mw_561 (fv_sg rfl rfl rfl) d_WF_treaty_28 ?_
      refine r_get (v := vI (M.1 62 3)) (N := 6) (T := T2) (j := 3) F hS (show 62 < 191 by decide) (show shK 62 = 6 from rfl) (show shN 62 = 6 from rfl) rfl (Nat.le_of_ble_eq_true rfl) ing2 mw_321 (fv_int rfl) d_WF_treaty_31 ?_
      have i4 := hS.rng 62 3
      obtain ⟨q5, hq5, hT⟩ := q_obind hT
      refine r_backV F hS (r_runV (k := 177) (N := 9) (T := T4) (As := [.ref (b + ((M.1 0 4).toNat)), .ref (b + 47), .ref (b + 52), vI (M.1 62 3)]) F hS (show 177 < 191 by decide) (show shK 177 = 8 from rfl) rfl (c_Laws_tryVotes l F.2.2.1 M ((M.1 0 4).toNat) 47 52 (M.1 62 3) h3 (by decide : isScene 47) (by decide : isScene 52) i4 _ hq5) gs_WF_355 hd_Laws_tryVotes ⟨Nat.le_of_ble_eq_true rfl, Nat.le_of_ble_eq_true rfl⟩ rfl hl.1 (Nat.le_of_ble_eq_true rfl) ⟨Nat.zero_le _, Nat.zero_le _⟩ rfl d_WF_treaty_34) (fun H locs hS => ?_)
      refine lv_aload_n F.hx F.hb d_WF_treaty_37 rfl (lv_at hl 0 rfl) ?_
      refine r_get (v := .ref (b + 177)) (N := 19) (T := T0) (j := 16) F hS (show 0 < 191 by decide) (show shK 0 = 4 from rfl) (show shN 0 = 19 from rfl) rfl (Nat.le_of_ble_eq_true rfl) ing0 mw_566 (fv_sg rfl rfl rfl) d_WF_treaty_38 ?_
      refine lv_aload_n F.hx F.hb d_WF_treaty_41 rfl (lv_at hl 0 rfl) ?_
      have h7 := St_town hS
      refine r_get (v := .ref (b + ((q5.1 0 4).toNat))) (N := 19) (T := T0) (j := 4) F hS (show 0 < 191 by decide) (show shK 0 = 4 from rfl) (show shN 0 = 19 from rfl) rfl (Nat.le_of_ble_eq_true rfl) ing0 mw_554 (fv_town hS) d_WF_treaty_42 ?_
      refine lv_aload_n F.hx F.hb d_WF_treaty_45 rfl (lv_at hl 0 rfl) ?_
      refine r_get (v := .ref (b + 47)) (N := 19) (T := T0) (j := 8) F hS (show 0 < 191 by decide) (show shK 0 = 4 from rfl) (show shN 0 = 19 from rfl) rfl (Nat.le_of_ble_eq_true rfl) ing0 mw_558 (fv_sg rfl rfl rfl) d_WF_treaty_46 ?_
      obtain ⟨q8, hq8, hT⟩ := q_obind hT
      refine r_backV F hS (r_runV (k := 177) (N := 9) (T := T4) (As := [.ref (b + ((q5.1 0 4).toNat)), .ref (b + 47)]) F hS (show 177 < 191 by decide) (show shK 177 = 8 from rfl) rfl (c_Laws_measure l F.2.2.1 q5 ((q5.1 0 4).toNat) 47 h7 (by decide : isScene 47) _ hq8) gs_WF_214 hd_Laws_measure ⟨Nat.le_of_ble_eq_true rfl, Nat.le_of_ble_eq_true rfl⟩ rfl hl.1 (Nat.le_of_ble_eq_true rfl) ⟨Nat.zero_le _, Nat.zero_le _⟩ rfl d_WF_treaty_49) (fun H locs hS => ?_)
      refine r_bipush F.hx F.hb d_WF_treaty_52 rfl ?_
      refine lv_istore_n (lv' := [(2, vI (-2)), (0, .ref (b + 0)), (1, vI x1)]) F.hx F.hb d_WF_treaty_54 rfl hl (Nat.le_of_ble_eq_true rfl) rfl (fun ls hl => ?_)
      refine r_bipush F.hx F.hb d_WF_treaty_55 rfl ?_
      refine lv_istore_n (lv' := [(3, vI (-2)), (2, vI (-2)), (0, .ref (b + 0)), (1, vI x1)]) F.hx F.hb d_WF_treaty_57 rfl hl (Nat.le_of_ble_eq_true rfl) rfl (fun ls hl => ?_)
      refine r_iconst F.hx F.hb d_WF_treaty_58 ?_
      refine lv_istore (lv' := [(4, vI 0), (3, vI (-2)), (2, vI (-2)), (0, .ref (b + 0)), (1, vI x1)]) F.hx F.hb d_WF_treaty_59 hl (Nat.le_of_ble_eq_true rfl) rfl (fun ls hl => ?_)
      exact k_WF_treaty_L61 l hlo x1 hx1 F hlk hr FU q8 (-2) (inr_c rfl) (-2) (inr_c rfl) 0 (inr_c rfl) _ _ _ hS (lv_sub hl [3, 4, 2, 1, 0] rfl) hT
    · replace hT := (if_neg c2).symm.trans hT
      refine r_iconst F.hx F.hb d_WF_treaty_9 ?_
      cases hT
      exact r_iret F hlk hr rfl hS (inr_c rfl) d_WF_treaty_10
theorem d_WF_moves_0 : decode b_WF_moves 0 = .ok (.iload_n 1, 1) := dc_27 (by decide +kernel)
theorem d_WF_moves_1 : decode b_WF_moves 1 = .ok (.ifCond .lt 27, 3) := dc_155 (by decide +kernel)
theorem d_WF_moves_4 : decode b_WF_moves 4 = .ok (.iload_n 1, 1) := dc_27 (by decide +kernel)
theorem d_WF_moves_5 : decode b_WF_moves 5 = .ok (.iconst 1, 1) := dc_4 (by decide +kernel)
theorem d_WF_moves_6 : decode b_WF_moves 6 = .ok (.iconst 2, 1) := dc_5 (by decide +kernel)
theorem d_WF_moves_7 : decode b_WF_moves 7 = .ok (.aload_n 0, 1) := dc_42 (by decide +kernel)
theorem d_WF_moves_8 : decode b_WF_moves 8 = .ok (.getfield 22, 3) := dc_180 (by decide +kernel)
theorem d_WF_moves_11 : decode b_WF_moves 11 = .ok (.getfield 137, 3) := dc_180 (by decide +kernel)
theorem d_WF_moves_14 : decode b_WF_moves 14 = .ok (.imul, 1) := dc_104 (by decide +kernel)
theorem d_WF_moves_15 : decode b_WF_moves 15 = .ok (.ishl, 1) := dc_120 (by decide +kernel)
theorem d_WF_moves_16 : decode b_WF_moves 16 = .ok (.if_icmp .ge 12, 3) := dc_162 (by decide +kernel)
theorem d_WF_moves_19 : decode b_WF_moves 19 = .ok (.iload_n 2, 1) := dc_28 (by decide +kernel)
theorem d_WF_moves_20 : decode b_WF_moves 20 = .ok (.ifCond .lt 8, 3) := dc_155 (by decide +kernel)
theorem d_WF_moves_23 : decode b_WF_moves 23 = .ok (.iload_n 2, 1) := dc_28 (by decide +kernel)
theorem d_WF_moves_24 : decode b_WF_moves 24 = .ok (.iconst 1, 1) := dc_4 (by decide +kernel)
theorem d_WF_moves_25 : decode b_WF_moves 25 = .ok (.if_icmp .le 5, 3) := dc_164 (by decide +kernel)
theorem d_WF_moves_28 : decode b_WF_moves 28 = .ok (.iconst (-1), 1) := dc_2 (by decide +kernel)
theorem d_WF_moves_29 : decode b_WF_moves 29 = .ok (.ireturn, 1) := dc_172 (by decide +kernel)
theorem d_WF_moves_30 : decode b_WF_moves 30 = .ok (.aload_n 0, 1) := dc_42 (by decide +kernel)
theorem d_WF_moves_31 : decode b_WF_moves 31 = .ok (.getfield 83, 3) := dc_180 (by decide +kernel)
theorem d_WF_moves_34 : decode b_WF_moves 34 = .ok (.aload_n 0, 1) := dc_42 (by decide +kernel)
theorem d_WF_moves_35 : decode b_WF_moves 35 = .ok (.getfield 22, 3) := dc_180 (by decide +kernel)
theorem d_WF_moves_38 : decode b_WF_moves 38 = .ok (.aload_n 0, 1) := dc_42 (by decide +kernel)
theorem d_WF_moves_39 : decode b_WF_moves 39 = .ok (.getfield 46, 3) := dc_180 (by decide +kernel)
theorem d_WF_moves_42 : decode b_WF_moves 42 = .ok (.aload_n 0, 1) := dc_42 (by decide +kernel)
theorem d_WF_moves_43 : decode b_WF_moves 43 = .ok (.getfield 50, 3) := dc_180 (by decide +kernel)
theorem d_WF_moves_46 : decode b_WF_moves 46 = .ok (.aload_n 0, 1) := dc_42 (by decide +kernel)
theorem d_WF_moves_47 : decode b_WF_moves 47 = .ok (.getfield 59, 3) := dc_180 (by decide +kernel)
theorem d_WF_moves_50 : decode b_WF_moves 50 = .ok (.getfield 218, 3) := dc_180 (by decide +kernel)
theorem d_WF_moves_53 : decode b_WF_moves 53 = .ok (.invokevirtual 355, 3) := dc_182 (by decide +kernel)
theorem d_WF_moves_56 : decode b_WF_moves 56 = .ok (.iload_n 1, 1) := dc_27 (by decide +kernel)
theorem d_WF_moves_57 : decode b_WF_moves 57 = .ok (.istore_n 3, 1) := dc_62 (by decide +kernel)
theorem d_WF_moves_58 : decode b_WF_moves 58 = .ok (.iconst 0, 1) := dc_3 (by decide +kernel)
theorem d_WF_moves_59 : decode b_WF_moves 59 = .ok (.istore 4, 2) := dc_54 (by decide +kernel)
theorem d_WF_moves_61 : decode b_WF_moves 61 = .ok (.iload 4, 2) := dc_21 (by decide +kernel)
theorem d_WF_moves_63 : decode b_WF_moves 63 = .ok (.bipush 40, 2) := dc_16 (by decide +kernel)
theorem d_WF_moves_65 : decode b_WF_moves 65 = .ok (.if_icmp .gt 39, 3) := dc_163 (by decide +kernel)
theorem d_WF_moves_68 : decode b_WF_moves 68 = .ok (.aload_n 0, 1) := dc_42 (by decide +kernel)
theorem d_WF_moves_69 : decode b_WF_moves 69 = .ok (.getfield 83, 3) := dc_180 (by decide +kernel)
theorem d_WF_moves_72 : decode b_WF_moves 72 = .ok (.iload_n 3, 1) := dc_29 (by decide +kernel)
theorem d_WF_moves_73 : decode b_WF_moves 73 = .ok (.invokevirtual 368, 3) := dc_182 (by decide +kernel)
theorem d_WF_moves_76 : decode b_WF_moves 76 = .ok (.istore 5, 2) := dc_54 (by decide +kernel)
theorem d_WF_moves_78 : decode b_WF_moves 78 = .ok (.iload 5, 2) := dc_21 (by decide +kernel)
theorem d_WF_moves_80 : decode b_WF_moves 80 = .ok (.iload_n 3, 1) := dc_29 (by decide +kernel)
theorem d_WF_moves_81 : decode b_WF_moves 81 = .ok (.if_icmp .ne 14, 3) := dc_160 (by decide +kernel)
theorem d_WF_moves_84 : decode b_WF_moves 84 = .ok (.iload_n 2, 1) := dc_28 (by decide +kernel)
theorem d_WF_moves_85 : decode b_WF_moves 85 = .ok (.ifCond .ne 8, 3) := dc_154 (by decide +kernel)
theorem d_WF_moves_88 : decode b_WF_moves 88 = .ok (.iload 4, 2) := dc_21 (by decide +kernel)
theorem d_WF_moves_90 : decode b_WF_moves 90 = .ok (.goto 4, 3) := dc_167 (by decide +kernel)
theorem d_WF_moves_93 : decode b_WF_moves 93 = .ok (.iload_n 3, 1) := dc_29 (by decide +kernel)
theorem d_WF_moves_94 : decode b_WF_moves 94 = .ok (.ireturn, 1) := dc_172 (by decide +kernel)
theorem d_WF_moves_95 : decode b_WF_moves 95 = .ok (.iload 5, 2) := dc_21 (by decide +kernel)
theorem d_WF_moves_97 : decode b_WF_moves 97 = .ok (.istore_n 3, 1) := dc_62 (by decide +kernel)
theorem d_WF_moves_98 : decode b_WF_moves 98 = .ok (.iinc 4 1, 3) := dc_132 (by decide +kernel)
theorem d_WF_moves_101 : decode b_WF_moves 101 = .ok (.goto (-40), 3) := dc_167 (by decide +kernel)
theorem d_WF_moves_104 : decode b_WF_moves 104 = .ok (.bipush (-2), 2) := dc_16 (by decide +kernel)
theorem d_WF_moves_106 : decode b_WF_moves 106 = .ok (.ireturn, 1) := dc_172 (by decide +kernel)
def t_WF_moves_L61 (x1 : Int) (x2 : Int)  : Nat → Mem → Int → Int → Option (Mem × Int)
  | 0, _, _, _ => none
  | fu + 1, M, v2_, v3_ => (if 40 < v3_ then (some (M, (-2))) else (obind (t_Laws_moved M v2_) fun q12 => (if q12 = v2_ then (if x2 = 0 then (some (M, v3_)) else (some (M, v2_))) else (t_WF_moves_L61 x1 x2 fu M q12 (w32 (v3_ + 1))))))
def t_WF_moves (M : Mem) (x1 : Int) (x2 : Int) : Option (Mem × Int) := (if x1 < 0 then (some (M, (-1))) else (if (q_shl 1 (w32 (2 * (M.1 ((M.1 0 4).toNat) 14)))) ≤ x1 then (some (M, (-1))) else (if x2 < 0 then (some (M, (-1))) else (if x2 ≤ 1 then (obind (t_Laws_tryVotes M ((M.1 0 4).toNat) 47 52 (M.1 62 3)) fun q9 => (t_WF_moves_L61 x1 x2 FU q9 x1 0)) else (some (M, (-1)))))))
set_option maxHeartbeats 4000000 in
set_option maxRecDepth 100000 in
theorem k_WF_moves_L61 (l : Launch) {p : Program} {e : Env} {s : State} {m : MethodId} {below : List Frame} {meth : Method} {c : Code} {b n : Nat} {C : CT} (hlo : 191 ≤ n) (x1 : Int) (x2 : Int) (hx1 : InR x1) (hx2 : InR x2) (F : Cx b p m c b_WF_moves 6 s ([.ref (b + 0), vI x1, vI x2] : List Value).toArray "WardFalls" C n 191) (hlk : meth.locks = false) (hr : meth.sig.returnType = some .int) {res : Mem × Int} : ∀ (fu : Nat) (M : Mem) (v2_ : Int) (hv2_ : InR v2_) (v3_ : Int) (hv3_ : InR v3_) (H : Heap) (locs : List Loc) (ls : Array Slot), St b C n M s H locs → lv_has ls 6 [(0, .ref (b + 0)), (2, vI x2), (3, vI v2_), (4, vI v3_)] → t_WF_moves_L61 x1 x2 fu M v2_ v3_ = some res → W p l e (headSpec (wsM y_WF_moves b_WF_moves 6 (some .int)) (rmD 7)).room s m ([.ref (b + 0), vI x1, vI x2] : List Value).toArray below meth c H locs 0 0 (MQ below (QI b C n res.1 res.2) ([.ref (b + 0), vI x1, vI x2] : List Value).toArray s 0 0 (frb b)) (F0 m 61 ls []) := by
  intro fu
  induction fu with
  | zero => intro M v2_ hv2_ v3_ hv3_ H locs ls hS hl hT; exact absurd hT (by simp [t_WF_moves_L61])
  | succ fu ih =>
    intro M v2_ hv2_ v3_ hv3_ H locs ls hS hl hT
    rw [t_WF_moves_L61] at hT
    refine lv_iload F.hx F.hb d_WF_moves_61 (lv_at hl 3 rfl) ?_
    refine r_bipush F.hx F.hb d_WF_moves_63 rfl ?_
    refine r_icmp_gt (tgt := 104) F.hx F.hb hv3_ (inr_c rfl) d_WF_moves_65 (by decide) (fun c11 => ?_) (fun c11 => ?_)
    · replace hT := (if_pos c11).symm.trans hT
      refine r_bipush F.hx F.hb d_WF_moves_104 rfl ?_
      cases hT
      exact r_iret F hlk hr rfl hS (inr_c rfl) d_WF_moves_106
    · replace hT := (if_neg c11).symm.trans hT
      refine lv_aload_n F.hx F.hb d_WF_moves_68 rfl (lv_at hl 0 rfl) ?_
      refine r_get (v := .ref (b + 177)) (N := 19) (T := T0) (j := 16) F hS (show 0 < 191 by decide) (show shK 0 = 4 from rfl) (show shN 0 = 19 from rfl) rfl (Nat.le_of_ble_eq_true rfl) ing0 mw_566 (fv_sg rfl rfl rfl) d_WF_moves_69 ?_
      refine lv_iload_n F.hx F.hb d_WF_moves_72 rfl (lv_at hl 2 rfl) ?_
      obtain ⟨q12, hq12, hT⟩ := q_obind hT
      refine r_backI F hS (r_runV (k := 177) (N := 9) (T := T4) (As := [vI v2_]) F hS (show 177 < 191 by decide) (show shK 177 = 8 from rfl) rfl (c_Laws_moved l F.2.2.1 M v2_ hv2_ _ hq12) gs_WF_368 hd_Laws_moved ⟨Nat.le_of_ble_eq_true rfl, Nat.le_of_ble_eq_true rfl⟩ rfl hl.1 (Nat.le_of_ble_eq_true rfl) ⟨Nat.zero_le _, Nat.zero_le _⟩ rfl d_WF_moves_73) (fun H locs hS h13 => ?_)
      refine lv_istore (lv' := [(5, vI q12), (0, .ref (b + 0)), (2, vI x2), (3, vI v2_), (4, vI v3_)]) F.hx F.hb d_WF_moves_76 hl (Nat.le_of_ble_eq_true rfl) rfl (fun ls hl => ?_)
      refine lv_iload F.hx F.hb d_WF_moves_78 (lv_at hl 0 rfl) ?_
      refine lv_iload_n F.hx F.hb d_WF_moves_80 rfl (lv_at hl 3 rfl) ?_
      refine r_icmp_ne (tgt := 95) F.hx F.hb h13 hv2_ d_WF_moves_81 (by decide) (fun c14 => ?_) (fun c14 => ?_)
      · replace hT := (if_neg c14).symm.trans hT
        refine lv_iload F.hx F.hb d_WF_moves_95 (lv_at hl 0 rfl) ?_
        refine lv_istore_n (lv' := [(3, vI q12), (5, vI q12), (0, .ref (b + 0)), (2, vI x2), (4, vI v3_)]) F.hx F.hb d_WF_moves_97 rfl hl (Nat.le_of_ble_eq_true rfl) rfl (fun ls hl => ?_)
        refine lv_iinc (v := Int32.ofInt (w32 (v3_ + 1))) (lv' := [(4, vI (w32 (v3_ + 1))), (3, vI q12), (5, vI q12), (0, .ref (b + 0)), (2, vI x2)]) F.hx F.hb d_WF_moves_98 hl (k := 4) rfl (q_of_add _ _) (Nat.le_of_ble_eq_true rfl) rfl (fun ls hl => ?_)
        refine lv_goto (tgt := 61) F.hx F.hb d_WF_moves_101 (by decide) ?_
        exact ih M q12 h13 (w32 (v3_ + 1)) (inr_w32 _) _ _ _ hS (lv_sub hl [3, 4, 1, 0] rfl) hT
      · replace hT := (if_pos c14).symm.trans hT
        refine lv_iload_n F.hx F.hb d_WF_moves_84 rfl (lv_at hl 2 rfl) ?_
        refine r_if_ne (tgt := 93) F.hx F.hb hx2 d_WF_moves_85 (by decide) (fun c15 => ?_) (fun c15 => ?_)
        · replace hT := (if_neg c15).symm.trans hT
          refine lv_iload_n F.hx F.hb d_WF_moves_93 rfl (lv_at hl 3 rfl) ?_
          cases hT
          exact r_iret F hlk hr rfl hS hv2_ d_WF_moves_94
        · replace hT := (if_pos c15).symm.trans hT
          refine lv_iload F.hx F.hb d_WF_moves_88 (lv_at hl 4 rfl) ?_
          refine lv_goto (tgt := 94) F.hx F.hb d_WF_moves_90 (by decide) ?_
          cases hT
          exact r_iret F hlk hr rfl hS hv3_ d_WF_moves_94
set_option maxHeartbeats 4000000 in
set_option maxRecDepth 100000 in
theorem c_WF_moves (l : Launch) {b n : Nat} {C : CT} (hlo : 191 ≤ n) (M : Mem) (x1 : Int) (x2 : Int) (hx1 : InR x1) (hx2 : InR x2) (res : Mem × Int) (hT : t_WF_moves M x1 x2 = some res) : CM l b C n 7 y_WF_moves b_WF_moves 6 (some .int) [.ref (b + 0), vI x1, vI x2] M (QI b C n res.1 res.2) := by
  refine CM.of (lo := 191) (ow := "WardFalls") (by decide) rfl (Nat.le_of_ble_eq_true rfl) hlo (fun p e s m below meth c F hlk hr hS ls hl => ?_)
  have hl : lv_has ls 6 [(0, .ref (b + 0)), (1, vI x1), (2, vI x2)] := hl
  unfold t_WF_moves at hT
  refine lv_iload_n F.hx F.hb d_WF_moves_0 rfl (lv_at hl 1 rfl) ?_
  refine r_if_lt (tgt := 28) F.hx F.hb hx1 d_WF_moves_1 (by decide) (fun c1 => ?_) (fun c1 => ?_)
  · replace hT := (if_pos c1).symm.trans hT
    refine r_iconst F.hx F.hb d_WF_moves_28 ?_
    cases hT
    exact r_iret F hlk hr rfl hS (inr_c rfl) d_WF_moves_29
  · replace hT := (if_neg c1).symm.trans hT
    refine lv_iload_n F.hx F.hb d_WF_moves_4 rfl (lv_at hl 1 rfl) ?_
    refine r_iconst F.hx F.hb d_WF_moves_5 ?_
    refine r_iconst F.hx F.hb d_WF_moves_6 ?_
    refine lv_aload_n F.hx F.hb d_WF_moves_7 rfl (lv_at hl 0 rfl) ?_
    have h2 := St_town hS
    refine r_get (v := .ref (b + ((M.1 0 4).toNat))) (N := 19) (T := T0) (j := 4) F hS (show 0 < 191 by decide) (show shK 0 = 4 from rfl) (show shN 0 = 19 from rfl) rfl (Nat.le_of_ble_eq_true rfl) ing0 mw_554 (fv_town hS) d_WF_moves_8 ?_
    refine r_get (v := vI (M.1 ((M.1 0 4).toNat) 14)) (N := 20) (T := T11) (j := 14) F hS (Town_lt h2) (Town_sh h2) (Town_N h2) rfl (Nat.le_of_ble_eq_true rfl) ing11 mw_137 (fv_int rfl) d_WF_moves_11 ?_
    have i3 := hS.rng ((M.1 0 4).toNat) 14
    refine r_imul F.hx F.hb d_WF_moves_14 ?_
    refine r_ishl F.hx F.hb d_WF_moves_15 ?_
    refine r_icmp_ge (tgt := 28) F.hx F.hb hx1 (q_inr_toInt _) d_WF_moves_16 (by decide) (fun c4 => ?_) (fun c4 => ?_)
    · replace hT := (if_pos c4).symm.trans hT
      refine r_iconst F.hx F.hb d_WF_moves_28 ?_
      cases hT
      exact r_iret F hlk hr rfl hS (inr_c rfl) d_WF_moves_29
    · replace hT := (if_neg c4).symm.trans hT
      refine lv_iload_n F.hx F.hb d_WF_moves_19 rfl (lv_at hl 2 rfl) ?_
      refine r_if_lt (tgt := 28) F.hx F.hb hx2 d_WF_moves_20 (by decide) (fun c5 => ?_) (fun c5 => ?_)
      · replace hT := (if_pos c5).symm.trans hT
        refine r_iconst F.hx F.hb d_WF_moves_28 ?_
        cases hT
        exact r_iret F hlk hr rfl hS (inr_c rfl) d_WF_moves_29
      · replace hT := (if_neg c5).symm.trans hT
        refine lv_iload_n F.hx F.hb d_WF_moves_23 rfl (lv_at hl 2 rfl) ?_
        refine r_iconst F.hx F.hb d_WF_moves_24 ?_
        refine r_icmp_le (tgt := 30) F.hx F.hb hx2 (inr_c rfl) d_WF_moves_25 (by decide) (fun c6 => ?_) (fun c6 => ?_)
        · replace hT := (if_pos c6).symm.trans hT
          refine lv_aload_n F.hx F.hb d_WF_moves_30 rfl (lv_at hl 0 rfl) ?_
          refine r_get (v := .ref (b + 177)) (N := 19) (T := T0) (j := 16) F hS (show 0 < 191 by decide) (show shK 0 = 4 from rfl) (show shN 0 = 19 from rfl) rfl (Nat.le_of_ble_eq_true rfl) ing0 mw_566 (fv_sg rfl rfl rfl) d_WF_moves_31 ?_
          refine lv_aload_n F.hx F.hb d_WF_moves_34 rfl (lv_at hl 0 rfl) ?_
          have h7 := St_town hS
          refine r_get (v := .ref (b + ((M.1 0 4).toNat))) (N := 19) (T := T0) (j := 4) F hS (show 0 < 191 by decide) (show shK 0 = 4 from rfl) (show shN 0 = 19 from rfl) rfl (Nat.le_of_ble_eq_true rfl) ing0 mw_554 (fv_town hS) d_WF_moves_35 ?_
          refine lv_aload_n F.hx F.hb d_WF_moves_38 rfl (lv_at hl 0 rfl) ?_
          refine r_get (v := .ref (b + 47)) (N := 19) (T := T0) (j := 8) F hS (show 0 < 191 by decide) (show shK 0 = 4 from rfl) (show shN 0 = 19 from rfl) rfl (Nat.le_of_ble_eq_true rfl) ing0 mw_558 (fv_sg rfl rfl rfl) d_WF_moves_39 ?_
          refine lv_aload_n F.hx F.hb d_WF_moves_42 rfl (lv_at hl 0 rfl) ?_
          refine r_get (v := .ref (b + 52)) (N := 19) (T := T0) (j := 9) F hS (show 0 < 191 by decide) (show shK 0 = 4 from rfl) (show shN 0 = 19 from rfl) rfl (Nat.le_of_ble_eq_true rfl) ing0 mw_559 (fv_sg rfl rfl rfl) d_WF_moves_43 ?_
          refine lv_aload_n F.hx F.hb d_WF_moves_46 rfl (lv_at hl 0 rfl) ?_
          refine r_get (v := .ref (b + 62)) (N := 19) (T := T0) (j := 11) F hS (show 0 < 191 by decide) (show shK 0 = 4 from rfl) (show shN 0 = 19 from rfl) rfl (Nat.le_of_ble_eq_true rfl) ing0 mw_561 (fv_sg rfl rfl rfl) d_WF_moves_47 ?_
          refine r_get (v := vI (M.1 62 3)) (N := 6) (T := T2) (j := 3) F hS (show 62 < 191 by decide) (show shK 62 = 6 from rfl) (show shN 62 = 6 from rfl) rfl (Nat.le_of_ble_eq_true rfl) ing2 mw_321 (fv_int rfl) d_WF_moves_50 ?_
          have i8 := hS.rng 62 3
          obtain ⟨q9, hq9, hT⟩ := q_obind hT
          refine r_backV F hS (r_runV (k := 177) (N := 9) (T := T4) (As := [.ref (b + ((M.1 0 4).toNat)), .ref (b + 47), .ref (b + 52), vI (M.1 62 3)]) F hS (show 177 < 191 by decide) (show shK 177 = 8 from rfl) rfl (c_Laws_tryVotes l F.2.2.1 M ((M.1 0 4).toNat) 47 52 (M.1 62 3) h7 (by decide : isScene 47) (by decide : isScene 52) i8 _ hq9) gs_WF_355 hd_Laws_tryVotes ⟨Nat.le_of_ble_eq_true rfl, Nat.le_of_ble_eq_true rfl⟩ rfl hl.1 (Nat.le_of_ble_eq_true rfl) ⟨Nat.zero_le _, Nat.zero_le _⟩ rfl d_WF_moves_53) (fun H locs hS => ?_)
          refine lv_iload_n F.hx F.hb d_WF_moves_56 rfl (lv_at hl 1 rfl) ?_
          refine lv_istore_n (lv' := [(3, vI x1), (0, .ref (b + 0)), (1, vI x1), (2, vI x2)]) F.hx F.hb d_WF_moves_57 rfl hl (Nat.le_of_ble_eq_true rfl) rfl (fun ls hl => ?_)
          refine r_iconst F.hx F.hb d_WF_moves_58 ?_
          refine lv_istore (lv' := [(4, vI 0), (3, vI x1), (0, .ref (b + 0)), (1, vI x1), (2, vI x2)]) F.hx F.hb d_WF_moves_59 hl (Nat.le_of_ble_eq_true rfl) rfl (fun ls hl => ?_)
          exact k_WF_moves_L61 l hlo x1 x2 hx1 hx2 F hlk hr FU q9 x1 hx1 0 (inr_c rfl) _ _ _ hS (lv_sub hl [2, 4, 1, 0] rfl) hT
        · replace hT := (if_neg c6).symm.trans hT
          refine r_iconst F.hx F.hb d_WF_moves_28 ?_
          cases hT
          exact r_iret F hlk hr rfl hS (inr_c rfl) d_WF_moves_29
theorem d_Notes_add_0 : decode b_Notes_add 0 = .ok (.aload_n 0, 1) := dc_42 (by decide +kernel)
theorem d_Notes_add_1 : decode b_Notes_add 1 = .ok (.getfield 24, 3) := dc_180 (by decide +kernel)
theorem d_Notes_add_4 : decode b_Notes_add 4 = .ok (.bipush 24, 2) := dc_16 (by decide +kernel)
theorem d_Notes_add_6 : decode b_Notes_add 6 = .ok (.if_icmp .lt 5, 3) := dc_161 (by decide +kernel)
theorem d_Notes_add_9 : decode b_Notes_add 9 = .ok (.iconst (-1), 1) := dc_2 (by decide +kernel)
theorem d_Notes_add_10 : decode b_Notes_add 10 = .ok (.ireturn, 1) := dc_172 (by decide +kernel)
theorem d_Notes_add_11 : decode b_Notes_add 11 = .ok (.aload_n 0, 1) := dc_42 (by decide +kernel)
theorem d_Notes_add_12 : decode b_Notes_add 12 = .ok (.getfield 9, 3) := dc_180 (by decide +kernel)
theorem d_Notes_add_15 : decode b_Notes_add 15 = .ok (.aload_n 0, 1) := dc_42 (by decide +kernel)
theorem d_Notes_add_16 : decode b_Notes_add 16 = .ok (.getfield 24, 3) := dc_180 (by decide +kernel)
theorem d_Notes_add_19 : decode b_Notes_add 19 = .ok (.iload_n 1, 1) := dc_27 (by decide +kernel)
theorem d_Notes_add_20 : decode b_Notes_add 20 = .ok (.invokestatic 31, 3) := dc_184 (by decide +kernel)
theorem d_Notes_add_23 : decode b_Notes_add 23 = .ok (.aload_n 0, 1) := dc_42 (by decide +kernel)
theorem d_Notes_add_24 : decode b_Notes_add 24 = .ok (.getfield 15, 3) := dc_180 (by decide +kernel)
theorem d_Notes_add_27 : decode b_Notes_add 27 = .ok (.aload_n 0, 1) := dc_42 (by decide +kernel)
theorem d_Notes_add_28 : decode b_Notes_add 28 = .ok (.getfield 24, 3) := dc_180 (by decide +kernel)
theorem d_Notes_add_31 : decode b_Notes_add 31 = .ok (.iload_n 2, 1) := dc_28 (by decide +kernel)
theorem d_Notes_add_32 : decode b_Notes_add 32 = .ok (.invokestatic 31, 3) := dc_184 (by decide +kernel)
theorem d_Notes_add_35 : decode b_Notes_add 35 = .ok (.aload_n 0, 1) := dc_42 (by decide +kernel)
theorem d_Notes_add_36 : decode b_Notes_add 36 = .ok (.getfield 18, 3) := dc_180 (by decide +kernel)
theorem d_Notes_add_39 : decode b_Notes_add 39 = .ok (.aload_n 0, 1) := dc_42 (by decide +kernel)
theorem d_Notes_add_40 : decode b_Notes_add 40 = .ok (.getfield 24, 3) := dc_180 (by decide +kernel)
theorem d_Notes_add_43 : decode b_Notes_add 43 = .ok (.iload_n 3, 1) := dc_29 (by decide +kernel)
theorem d_Notes_add_44 : decode b_Notes_add 44 = .ok (.invokestatic 31, 3) := dc_184 (by decide +kernel)
theorem d_Notes_add_47 : decode b_Notes_add 47 = .ok (.aload_n 0, 1) := dc_42 (by decide +kernel)
theorem d_Notes_add_48 : decode b_Notes_add 48 = .ok (.dup, 1) := dc_89 (by decide +kernel)
theorem d_Notes_add_49 : decode b_Notes_add 49 = .ok (.getfield 24, 3) := dc_180 (by decide +kernel)
theorem d_Notes_add_52 : decode b_Notes_add 52 = .ok (.iconst 1, 1) := dc_4 (by decide +kernel)
theorem d_Notes_add_53 : decode b_Notes_add 53 = .ok (.iadd, 1) := dc_96 (by decide +kernel)
theorem d_Notes_add_54 : decode b_Notes_add 54 = .ok (.putfield 24, 3) := dc_181 (by decide +kernel)
theorem d_Notes_add_57 : decode b_Notes_add 57 = .ok (.aload_n 0, 1) := dc_42 (by decide +kernel)
theorem d_Notes_add_58 : decode b_Notes_add 58 = .ok (.getfield 24, 3) := dc_180 (by decide +kernel)
theorem d_Notes_add_61 : decode b_Notes_add 61 = .ok (.iconst 1, 1) := dc_4 (by decide +kernel)
theorem d_Notes_add_62 : decode b_Notes_add 62 = .ok (.isub, 1) := dc_100 (by decide +kernel)
theorem d_Notes_add_63 : decode b_Notes_add 63 = .ok (.ireturn, 1) := dc_172 (by decide +kernel)
def t_Notes_add (M : Mem) (x1 : Int) (x2 : Int) (x3 : Int) : Mem × Int := (if (M.1 172 5) < 24 then (qlet (t_WF_put M 173 24 (M.1 172 5) x1) fun q4 => (qlet (t_WF_put q4 174 24 (q4.1 172 5) x2) fun q7 => (qlet (t_WF_put q7 175 24 (q7.1 172 5) x3) fun q10 => (qlet (setI q10 172 5 (w32 ((q10.1 172 5) + 1))) fun M13 => (M13, (w32 ((M13.1 172 5) - 1))))))) else (M, (-1)))
set_option maxHeartbeats 4000000 in
set_option maxRecDepth 100000 in
theorem c_Notes_add (l : Launch) {b n : Nat} {C : CT} (hlo : 191 ≤ n) (M : Mem) (x1 : Int) (x2 : Int) (x3 : Int) (hx1 : InR x1) (hx2 : InR x2) (hx3 : InR x3) (res : Mem × Int) (hT : t_Notes_add M x1 x2 x3 = res) : CM l b C n 1 y_Notes_add b_Notes_add 4 (some .int) [.ref (b + 172), vI x1, vI x2, vI x3] M (QI b C n res.1 res.2) := by
  refine CM.of (lo := 191) (ow := "WardFalls$Notes") (by decide) rfl (Nat.le_of_ble_eq_true rfl) hlo (fun p e s m below meth c F hlk hr hS ls hl => ?_)
  have hl : lv_has ls 4 [(0, .ref (b + 172)), (1, vI x1), (2, vI x2), (3, vI x3)] := hl
  unfold t_Notes_add at hT
  refine lv_aload_n F.hx F.hb d_Notes_add_0 rfl (lv_at hl 0 rfl) ?_
  refine r_get (v := vI (M.1 172 5)) (N := 7) (T := T5) (j := 5) F hS (show 172 < 191 by decide) (show shK 172 = 9 from rfl) (show shN 172 = 7 from rfl) rfl (Nat.le_of_ble_eq_true rfl) ing5 mw_371 (fv_int rfl) d_Notes_add_1 ?_
  have i1 := hS.rng 172 5
  refine r_bipush F.hx F.hb d_Notes_add_4 rfl ?_
  refine r_icmp_lt (tgt := 11) F.hx F.hb i1 (inr_c rfl) d_Notes_add_6 (by decide) (fun c2 => ?_) (fun c2 => ?_)
  · replace hT := (if_pos c2).symm.trans hT
    refine lv_aload_n F.hx F.hb d_Notes_add_11 rfl (lv_at hl 0 rfl) ?_
    refine r_get (v := .ref (b + 173)) (N := 7) (T := T5) (j := 0) F hS (show 172 < 191 by decide) (show shK 172 = 9 from rfl) (show shN 172 = 7 from rfl) rfl (Nat.le_of_ble_eq_true rfl) ing5 mw_364 (fv_sg rfl rfl rfl) d_Notes_add_12 ?_
    refine lv_aload_n F.hx F.hb d_Notes_add_15 rfl (lv_at hl 0 rfl) ?_
    refine r_get (v := vI (M.1 172 5)) (N := 7) (T := T5) (j := 5) F hS (show 172 < 191 by decide) (show shK 172 = 9 from rfl) (show shN 172 = 7 from rfl) rfl (Nat.le_of_ble_eq_true rfl) ing5 mw_371 (fv_int rfl) d_Notes_add_16 ?_
    have i3 := hS.rng 172 5
    refine lv_iload_n F.hx F.hb d_Notes_add_19 rfl (lv_at hl 1 rfl) ?_
    obtain ⟨q4, hq4⟩ : ∃ q, q = (t_WF_put M 173 24 (M.1 172 5) x1) := ⟨_, rfl⟩
    replace hT := qlet_eq hT hq4
    refine r_backV F hS (r_runSN (As := [.ref (b + 173), vI (M.1 172 5), vI x1]) F hS (c_WF_put l F.2.2.1 M 173 24 (M.1 172 5) x1 (show arrP 0 173 24 191 from ⟨rfl, rfl, by decide⟩) i3 hx1 _ hq4.symm) mw_512 mw_511 mw_1 gs_Notes_31 hd_WF_put ⟨Nat.le_of_ble_eq_true rfl, Nat.le_of_ble_eq_true rfl⟩ rfl hl.1 (Nat.le_of_ble_eq_true rfl) ⟨Nat.zero_le _, Nat.zero_le _⟩ rfl d_Notes_add_20) (fun H locs hS => ?_)
    refine lv_aload_n F.hx F.hb d_Notes_add_23 rfl (lv_at hl 0 rfl) ?_
    refine r_get (v := .ref (b + 174)) (N := 7) (T := T5) (j := 1) F hS (show 172 < 191 by decide) (show shK 172 = 9 from rfl) (show shN 172 = 7 from rfl) rfl (Nat.le_of_ble_eq_true rfl) ing5 mw_365 (fv_sg rfl rfl rfl) d_Notes_add_24 ?_
    refine lv_aload_n F.hx F.hb d_Notes_add_27 rfl (lv_at hl 0 rfl) ?_
    refine r_get (v := vI (q4.1 172 5)) (N := 7) (T := T5) (j := 5) F hS (show 172 < 191 by decide) (show shK 172 = 9 from rfl) (show shN 172 = 7 from rfl) rfl (Nat.le_of_ble_eq_true rfl) ing5 mw_371 (fv_int rfl) d_Notes_add_28 ?_
    have i6 := hS.rng 172 5
    refine lv_iload_n F.hx F.hb d_Notes_add_31 rfl (lv_at hl 2 rfl) ?_
    obtain ⟨q7, hq7⟩ : ∃ q, q = (t_WF_put q4 174 24 (q4.1 172 5) x2) := ⟨_, rfl⟩
    replace hT := qlet_eq hT hq7
    refine r_backV F hS (r_runSN (As := [.ref (b + 174), vI (q4.1 172 5), vI x2]) F hS (c_WF_put l F.2.2.1 q4 174 24 (q4.1 172 5) x2 (show arrP 0 174 24 191 from ⟨rfl, rfl, by decide⟩) i6 hx2 _ hq7.symm) mw_512 mw_511 mw_1 gs_Notes_31 hd_WF_put ⟨Nat.le_of_ble_eq_true rfl, Nat.le_of_ble_eq_true rfl⟩ rfl hl.1 (Nat.le_of_ble_eq_true rfl) ⟨Nat.zero_le _, Nat.zero_le _⟩ rfl d_Notes_add_32) (fun H locs hS => ?_)
    refine lv_aload_n F.hx F.hb d_Notes_add_35 rfl (lv_at hl 0 rfl) ?_
    refine r_get (v := .ref (b + 175)) (N := 7) (T := T5) (j := 2) F hS (show 172 < 191 by decide) (show shK 172 = 9 from rfl) (show shN 172 = 7 from rfl) rfl (Nat.le_of_ble_eq_true rfl) ing5 mw_366 (fv_sg rfl rfl rfl) d_Notes_add_36 ?_
    refine lv_aload_n F.hx F.hb d_Notes_add_39 rfl (lv_at hl 0 rfl) ?_
    refine r_get (v := vI (q7.1 172 5)) (N := 7) (T := T5) (j := 5) F hS (show 172 < 191 by decide) (show shK 172 = 9 from rfl) (show shN 172 = 7 from rfl) rfl (Nat.le_of_ble_eq_true rfl) ing5 mw_371 (fv_int rfl) d_Notes_add_40 ?_
    have i9 := hS.rng 172 5
    refine lv_iload_n F.hx F.hb d_Notes_add_43 rfl (lv_at hl 3 rfl) ?_
    obtain ⟨q10, hq10⟩ : ∃ q, q = (t_WF_put q7 175 24 (q7.1 172 5) x3) := ⟨_, rfl⟩
    replace hT := qlet_eq hT hq10
    refine r_backV F hS (r_runSN (As := [.ref (b + 175), vI (q7.1 172 5), vI x3]) F hS (c_WF_put l F.2.2.1 q7 175 24 (q7.1 172 5) x3 (show arrP 0 175 24 191 from ⟨rfl, rfl, by decide⟩) i9 hx3 _ hq10.symm) mw_512 mw_511 mw_1 gs_Notes_31 hd_WF_put ⟨Nat.le_of_ble_eq_true rfl, Nat.le_of_ble_eq_true rfl⟩ rfl hl.1 (Nat.le_of_ble_eq_true rfl) ⟨Nat.zero_le _, Nat.zero_le _⟩ rfl d_Notes_add_44) (fun H locs hS => ?_)
    refine lv_aload_n F.hx F.hb d_Notes_add_47 rfl (lv_at hl 0 rfl) ?_
    refine lv_dup F.hx F.hb d_Notes_add_48 rfl ?_
    refine r_get (v := vI (q10.1 172 5)) (N := 7) (T := T5) (j := 5) F hS (show 172 < 191 by decide) (show shK 172 = 9 from rfl) (show shN 172 = 7 from rfl) rfl (Nat.le_of_ble_eq_true rfl) ing5 mw_371 (fv_int rfl) d_Notes_add_49 ?_
    have i12 := hS.rng 172 5
    refine r_iconst F.hx F.hb d_Notes_add_52 ?_
    refine r_iadd F.hx F.hb d_Notes_add_53 ?_
    refine r_putI (N := 7) (T := T5) (j := 5) F hS (show 172 < 191 by decide) (show shK 172 = 9 from rfl) (show shN 172 = 7 from rfl) rfl (Nat.le_of_ble_eq_true rfl) ing5 tyok5 nm5 rfl rfl rfl rfl rfl rfl mw_371 (inr_w32 _) d_Notes_add_54 (fun H locs hS => ?_)
    obtain ⟨M13, eM13⟩ : ∃ q, q = (setI q10 172 5 (w32 ((q10.1 172 5) + 1))) := ⟨_, rfl⟩
    replace hS : St b C n M13 s H locs := by rw [eM13]; exact hS
    replace hT := qlet_eq hT eM13
    refine lv_aload_n F.hx F.hb d_Notes_add_57 rfl (lv_at hl 0 rfl) ?_
    refine r_get (v := vI (M13.1 172 5)) (N := 7) (T := T5) (j := 5) F hS (show 172 < 191 by decide) (show shK 172 = 9 from rfl) (show shN 172 = 7 from rfl) rfl (Nat.le_of_ble_eq_true rfl) ing5 mw_371 (fv_int rfl) d_Notes_add_58 ?_
    have i14 := hS.rng 172 5
    refine r_iconst F.hx F.hb d_Notes_add_61 ?_
    refine r_isub F.hx F.hb d_Notes_add_62 ?_
    subst hT
    exact r_iret F hlk hr rfl hS (inr_w32 _) d_Notes_add_63
  · replace hT := (if_neg c2).symm.trans hT
    refine r_iconst F.hx F.hb d_Notes_add_9 ?_
    subst hT
    exact r_iret F hlk hr rfl hS (inr_c rfl) d_Notes_add_10
theorem d_WF_note_0 : decode b_WF_note 0 = .ok (.aload_n 0, 1) := dc_42 (by decide +kernel)
theorem d_WF_note_1 : decode b_WF_note 1 = .ok (.iload_n 1, 1) := dc_27 (by decide +kernel)
theorem d_WF_note_2 : decode b_WF_note 2 = .ok (.invokevirtual 250, 3) := dc_182 (by decide +kernel)
theorem d_WF_note_5 : decode b_WF_note 5 = .ok (.ifCond .eq 16, 3) := dc_153 (by decide +kernel)
theorem d_WF_note_8 : decode b_WF_note 8 = .ok (.iload_n 2, 1) := dc_28 (by decide +kernel)
theorem d_WF_note_9 : decode b_WF_note 9 = .ok (.iconst (-1), 1) := dc_2 (by decide +kernel)
theorem d_WF_note_10 : decode b_WF_note 10 = .ok (.if_icmp .eq 13, 3) := dc_159 (by decide +kernel)
theorem d_WF_note_13 : decode b_WF_note 13 = .ok (.aload_n 0, 1) := dc_42 (by decide +kernel)
theorem d_WF_note_14 : decode b_WF_note 14 = .ok (.iload_n 2, 1) := dc_28 (by decide +kernel)
theorem d_WF_note_15 : decode b_WF_note 15 = .ok (.invokevirtual 250, 3) := dc_182 (by decide +kernel)
theorem d_WF_note_18 : decode b_WF_note 18 = .ok (.ifCond .ne 5, 3) := dc_154 (by decide +kernel)
theorem d_WF_note_21 : decode b_WF_note 21 = .ok (.iconst (-1), 1) := dc_2 (by decide +kernel)
theorem d_WF_note_22 : decode b_WF_note 22 = .ok (.ireturn, 1) := dc_172 (by decide +kernel)
theorem d_WF_note_23 : decode b_WF_note 23 = .ok (.aload_n 0, 1) := dc_42 (by decide +kernel)
theorem d_WF_note_24 : decode b_WF_note 24 = .ok (.getfield 76, 3) := dc_180 (by decide +kernel)
theorem d_WF_note_27 : decode b_WF_note 27 = .ok (.iload_n 1, 1) := dc_27 (by decide +kernel)
theorem d_WF_note_28 : decode b_WF_note 28 = .ok (.iload_n 2, 1) := dc_28 (by decide +kernel)
theorem d_WF_note_29 : decode b_WF_note 29 = .ok (.iconst (-1), 1) := dc_2 (by decide +kernel)
theorem d_WF_note_30 : decode b_WF_note 30 = .ok (.invokevirtual 371, 3) := dc_182 (by decide +kernel)
theorem d_WF_note_33 : decode b_WF_note 33 = .ok (.ireturn, 1) := dc_172 (by decide +kernel)
def t_WF_note_L23 (x1 : Int) (x2 : Int)  (M : Mem)  : Mem × Int := (qlet (t_Notes_add M x1 x2 (-1)) fun q8 => ((q8.1), (q8.2)))
def t_WF_note (M : Mem) (x1 : Int) (x2 : Int) : Mem × Int := (qlet (t_WF_isFree M x1) fun q1 => (if q1 = 0 then (M, (-1)) else (if x2 = (-1) then (t_WF_note_L23 x1 x2 M) else (qlet (t_WF_isFree M x2) fun q5 => (if q5 = 0 then (M, (-1)) else (t_WF_note_L23 x1 x2 M))))))
set_option maxHeartbeats 4000000 in
set_option maxRecDepth 100000 in
theorem k_WF_note_L23 (l : Launch) {p : Program} {e : Env} {s : State} {m : MethodId} {below : List Frame} {meth : Method} {c : Code} {b n : Nat} {C : CT} (hlo : 191 ≤ n) (x1 : Int) (x2 : Int) (hx1 : InR x1) (hx2 : InR x2) (F : Cx b p m c b_WF_note 3 s ([.ref (b + 0), vI x1, vI x2] : List Value).toArray "WardFalls" C n 191) (hlk : meth.locks = false) (hr : meth.sig.returnType = some .int) {res : Mem × Int} (M : Mem)  (H : Heap) (locs : List Loc) (ls : Array Slot) (hS : St b C n M s H locs) (hl : lv_has ls 3 [(0, .ref (b + 0)), (1, vI x1), (2, vI x2)]) (hT : t_WF_note_L23 x1 x2 M = res) : W p l e (headSpec (wsM y_WF_note b_WF_note 3 (some .int)) (rmD 2)).room s m ([.ref (b + 0), vI x1, vI x2] : List Value).toArray below meth c H locs 0 0 (MQ below (QI b C n res.1 res.2) ([.ref (b + 0), vI x1, vI x2] : List Value).toArray s 0 0 (frb b)) (F0 m 23 ls []) := by
  unfold t_WF_note_L23 at hT
  refine lv_aload_n F.hx F.hb d_WF_note_23 rfl (lv_at hl 0 rfl) ?_
  refine r_get (v := .ref (b + 172)) (N := 19) (T := T0) (j := 15) F hS (show 0 < 191 by decide) (show shK 0 = 4 from rfl) (show shN 0 = 19 from rfl) rfl (Nat.le_of_ble_eq_true rfl) ing0 mw_565 (fv_sg rfl rfl rfl) d_WF_note_24 ?_
  refine lv_iload_n F.hx F.hb d_WF_note_27 rfl (lv_at hl 1 rfl) ?_
  refine lv_iload_n F.hx F.hb d_WF_note_28 rfl (lv_at hl 2 rfl) ?_
  refine r_iconst F.hx F.hb d_WF_note_29 ?_
  obtain ⟨q8, hq8⟩ : ∃ q, q = (t_Notes_add M x1 x2 (-1)) := ⟨_, rfl⟩
  replace hT := qlet_eq hT hq8
  refine r_backI F hS (r_runV (k := 172) (N := 7) (T := T5) (As := [vI x1, vI x2, vI (-1)]) F hS (show 172 < 191 by decide) (show shK 172 = 9 from rfl) rfl (c_Notes_add l F.2.2.1 M x1 x2 (-1) hx1 hx2 (inr_c rfl) _ hq8.symm) gs_WF_371 hd_Notes_add ⟨Nat.le_of_ble_eq_true rfl, Nat.le_of_ble_eq_true rfl⟩ rfl hl.1 (Nat.le_of_ble_eq_true rfl) ⟨Nat.zero_le _, Nat.zero_le _⟩ rfl d_WF_note_30) (fun H locs hS h9 => ?_)
  subst hT
  exact r_iret F hlk hr rfl hS h9 d_WF_note_33
set_option maxHeartbeats 4000000 in
set_option maxRecDepth 100000 in
theorem c_WF_note (l : Launch) {b n : Nat} {C : CT} (hlo : 191 ≤ n) (M : Mem) (x1 : Int) (x2 : Int) (hx1 : InR x1) (hx2 : InR x2) (res : Mem × Int) (hT : t_WF_note M x1 x2 = res) : CM l b C n 2 y_WF_note b_WF_note 3 (some .int) [.ref (b + 0), vI x1, vI x2] M (QI b C n res.1 res.2) := by
  refine CM.of (lo := 191) (ow := "WardFalls") (by decide) rfl (Nat.le_of_ble_eq_true rfl) hlo (fun p e s m below meth c F hlk hr hS ls hl => ?_)
  have hl : lv_has ls 3 [(0, .ref (b + 0)), (1, vI x1), (2, vI x2)] := hl
  unfold t_WF_note at hT
  refine lv_aload_n F.hx F.hb d_WF_note_0 rfl (lv_at hl 0 rfl) ?_
  refine lv_iload_n F.hx F.hb d_WF_note_1 rfl (lv_at hl 1 rfl) ?_
  obtain ⟨q1, hq1⟩ : ∃ q, q = (t_WF_isFree M x1) := ⟨_, rfl⟩
  replace hT := qlet_eq hT hq1
  refine r_backZ F hS (r_runV (k := 0) (N := 19) (T := T0) (As := [vI x1]) F hS (show 0 < 191 by decide) (show shK 0 = 4 from rfl) rfl (c_WF_isFree l F.2.2.1 M x1 hx1 _ hq1.symm) gs_WF_250 hd_WF_isFree ⟨Nat.le_of_ble_eq_true rfl, Nat.le_of_ble_eq_true rfl⟩ rfl hl.1 (Nat.le_of_ble_eq_true rfl) ⟨Nat.zero_le _, Nat.zero_le _⟩ rfl d_WF_note_2) (fun H locs hS h2 => ?_)
  refine r_if_eq (tgt := 21) F.hx F.hb (inr_z h2) d_WF_note_5 (by decide) (fun c3 => ?_) (fun c3 => ?_)
  · replace hT := (if_pos c3).symm.trans hT
    refine r_iconst F.hx F.hb d_WF_note_21 ?_
    subst hT
    exact r_iret F hlk hr rfl hS (inr_c rfl) d_WF_note_22
  · replace hT := (if_neg c3).symm.trans hT
    refine lv_iload_n F.hx F.hb d_WF_note_8 rfl (lv_at hl 2 rfl) ?_
    refine r_iconst F.hx F.hb d_WF_note_9 ?_
    refine r_icmp_eq (tgt := 23) F.hx F.hb hx2 (inr_c rfl) d_WF_note_10 (by decide) (fun c4 => ?_) (fun c4 => ?_)
    · replace hT := (if_pos c4).symm.trans hT
      exact k_WF_note_L23 l hlo x1 x2 hx1 hx2 F hlk hr M _ _ _ hS (lv_sub hl [0, 1, 2] rfl) hT
    · replace hT := (if_neg c4).symm.trans hT
      refine lv_aload_n F.hx F.hb d_WF_note_13 rfl (lv_at hl 0 rfl) ?_
      refine lv_iload_n F.hx F.hb d_WF_note_14 rfl (lv_at hl 2 rfl) ?_
      obtain ⟨q5, hq5⟩ : ∃ q, q = (t_WF_isFree M x2) := ⟨_, rfl⟩
      replace hT := qlet_eq hT hq5
      refine r_backZ F hS (r_runV (k := 0) (N := 19) (T := T0) (As := [vI x2]) F hS (show 0 < 191 by decide) (show shK 0 = 4 from rfl) rfl (c_WF_isFree l F.2.2.1 M x2 hx2 _ hq5.symm) gs_WF_250 hd_WF_isFree ⟨Nat.le_of_ble_eq_true rfl, Nat.le_of_ble_eq_true rfl⟩ rfl hl.1 (Nat.le_of_ble_eq_true rfl) ⟨Nat.zero_le _, Nat.zero_le _⟩ rfl d_WF_note_15) (fun H locs hS h6 => ?_)
      refine r_if_ne (tgt := 23) F.hx F.hb (inr_z h6) d_WF_note_18 (by decide) (fun c7 => ?_) (fun c7 => ?_)
      · replace hT := (if_neg c7).symm.trans hT
        exact k_WF_note_L23 l hlo x1 x2 hx1 hx2 F hlk hr M _ _ _ hS (lv_sub hl [0, 1, 2] rfl) hT
      · replace hT := (if_pos c7).symm.trans hT
        refine r_iconst F.hx F.hb d_WF_note_21 ?_
        subst hT
        exact r_iret F hlk hr rfl hS (inr_c rfl) d_WF_note_22
end
section
theorem d_WF_strike_0 : decode b_WF_strike 0 = .ok (.iload_n 1, 1) := dc_27 (by decide +kernel)
theorem d_WF_strike_1 : decode b_WF_strike 1 = .ok (.ifCond .lt 14, 3) := dc_155 (by decide +kernel)
theorem d_WF_strike_4 : decode b_WF_strike 4 = .ok (.iload_n 1, 1) := dc_27 (by decide +kernel)
theorem d_WF_strike_5 : decode b_WF_strike 5 = .ok (.aload_n 0, 1) := dc_42 (by decide +kernel)
theorem d_WF_strike_6 : decode b_WF_strike 6 = .ok (.getfield 76, 3) := dc_180 (by decide +kernel)
theorem d_WF_strike_9 : decode b_WF_strike 9 = .ok (.getfield 375, 3) := dc_180 (by decide +kernel)
theorem d_WF_strike_12 : decode b_WF_strike 12 = .ok (.if_icmp .lt 5, 3) := dc_161 (by decide +kernel)
theorem d_WF_strike_15 : decode b_WF_strike 15 = .ok (.iconst (-1), 1) := dc_2 (by decide +kernel)
theorem d_WF_strike_16 : decode b_WF_strike 16 = .ok (.ireturn, 1) := dc_172 (by decide +kernel)
theorem d_WF_strike_17 : decode b_WF_strike 17 = .ok (.aload_n 0, 1) := dc_42 (by decide +kernel)
theorem d_WF_strike_18 : decode b_WF_strike 18 = .ok (.getfield 76, 3) := dc_180 (by decide +kernel)
theorem d_WF_strike_21 : decode b_WF_strike 21 = .ok (.iconst (-1), 1) := dc_2 (by decide +kernel)
theorem d_WF_strike_22 : decode b_WF_strike 22 = .ok (.iconst (-1), 1) := dc_2 (by decide +kernel)
theorem d_WF_strike_23 : decode b_WF_strike 23 = .ok (.iload_n 1, 1) := dc_27 (by decide +kernel)
theorem d_WF_strike_24 : decode b_WF_strike 24 = .ok (.invokevirtual 371, 3) := dc_182 (by decide +kernel)
theorem d_WF_strike_27 : decode b_WF_strike 27 = .ok (.ireturn, 1) := dc_172 (by decide +kernel)
def t_WF_strike (M : Mem) (x1 : Int) : Mem × Int := (if x1 < 0 then (M, (-1)) else (if x1 < (M.1 172 5) then (qlet (t_Notes_add M (-1) (-1) x1) fun q4 => ((q4.1), (q4.2))) else (M, (-1))))
set_option maxHeartbeats 4000000 in
set_option maxRecDepth 100000 in
theorem c_WF_strike (l : Launch) {b n : Nat} {C : CT} (hlo : 191 ≤ n) (M : Mem) (x1 : Int) (hx1 : InR x1) (res : Mem × Int) (hT : t_WF_strike M x1 = res) : CM l b C n 2 y_WF_strike b_WF_strike 2 (some .int) [.ref (b + 0), vI x1] M (QI b C n res.1 res.2) := by
  refine CM.of (lo := 191) (ow := "WardFalls") (by decide) rfl (Nat.le_of_ble_eq_true rfl) hlo (fun p e s m below meth c F hlk hr hS ls hl => ?_)
  have hl : lv_has ls 2 [(0, .ref (b + 0)), (1, vI x1)] := hl
  unfold t_WF_strike at hT
  refine lv_iload_n F.hx F.hb d_WF_strike_0 rfl (lv_at hl 1 rfl) ?_
  refine r_if_lt (tgt := 15) F.hx F.hb hx1 d_WF_strike_1 (by decide) (fun c1 => ?_) (fun c1 => ?_)
  · replace hT := (if_pos c1).symm.trans hT
    refine r_iconst F.hx F.hb d_WF_strike_15 ?_
    subst hT
    exact r_iret F hlk hr rfl hS (inr_c rfl) d_WF_strike_16
  · replace hT := (if_neg c1).symm.trans hT
    refine lv_iload_n F.hx F.hb d_WF_strike_4 rfl (lv_at hl 1 rfl) ?_
    refine lv_aload_n F.hx F.hb d_WF_strike_5 rfl (lv_at hl 0 rfl) ?_
    refine r_get (v := .ref (b + 172)) (N := 19) (T := T0) (j := 15) F hS (show 0 < 191 by decide) (show shK 0 = 4 from rfl) (show shN 0 = 19 from rfl) rfl (Nat.le_of_ble_eq_true rfl) ing0 mw_565 (fv_sg rfl rfl rfl) d_WF_strike_6 ?_
    refine r_get (v := vI (M.1 172 5)) (N := 7) (T := T5) (j := 5) F hS (show 172 < 191 by decide) (show shK 172 = 9 from rfl) (show shN 172 = 7 from rfl) rfl (Nat.le_of_ble_eq_true rfl) ing5 mw_372 (fv_int rfl) d_WF_strike_9 ?_
    have i2 := hS.rng 172 5
    refine r_icmp_lt (tgt := 17) F.hx F.hb hx1 i2 d_WF_strike_12 (by decide) (fun c3 => ?_) (fun c3 => ?_)
    · replace hT := (if_pos c3).symm.trans hT
      refine lv_aload_n F.hx F.hb d_WF_strike_17 rfl (lv_at hl 0 rfl) ?_
      refine r_get (v := .ref (b + 172)) (N := 19) (T := T0) (j := 15) F hS (show 0 < 191 by decide) (show shK 0 = 4 from rfl) (show shN 0 = 19 from rfl) rfl (Nat.le_of_ble_eq_true rfl) ing0 mw_565 (fv_sg rfl rfl rfl) d_WF_strike_18 ?_
      refine r_iconst F.hx F.hb d_WF_strike_21 ?_
      refine r_iconst F.hx F.hb d_WF_strike_22 ?_
      refine lv_iload_n F.hx F.hb d_WF_strike_23 rfl (lv_at hl 1 rfl) ?_
      obtain ⟨q4, hq4⟩ : ∃ q, q = (t_Notes_add M (-1) (-1) x1) := ⟨_, rfl⟩
      replace hT := qlet_eq hT hq4
      refine r_backI F hS (r_runV (k := 172) (N := 7) (T := T5) (As := [vI (-1), vI (-1), vI x1]) F hS (show 172 < 191 by decide) (show shK 172 = 9 from rfl) rfl (c_Notes_add l F.2.2.1 M (-1) (-1) x1 (inr_c rfl) (inr_c rfl) hx1 _ hq4.symm) gs_WF_371 hd_Notes_add ⟨Nat.le_of_ble_eq_true rfl, Nat.le_of_ble_eq_true rfl⟩ rfl hl.1 (Nat.le_of_ble_eq_true rfl) ⟨Nat.zero_le _, Nat.zero_le _⟩ rfl d_WF_strike_24) (fun H locs hS h5 => ?_)
      subst hT
      exact r_iret F hlk hr rfl hS h5 d_WF_strike_27
    · replace hT := (if_neg c3).symm.trans hT
      refine r_iconst F.hx F.hb d_WF_strike_15 ?_
      subst hT
      exact r_iret F hlk hr rfl hS (inr_c rfl) d_WF_strike_16
theorem d_WF_known_0 : decode b_WF_known 0 = .ok (.iload_n 1, 1) := dc_27 (by decide +kernel)
theorem d_WF_known_1 : decode b_WF_known 1 = .ok (.iconst (-1), 1) := dc_2 (by decide +kernel)
theorem d_WF_known_2 : decode b_WF_known 2 = .ok (.if_icmp .lt 14, 3) := dc_161 (by decide +kernel)
theorem d_WF_known_5 : decode b_WF_known 5 = .ok (.iload_n 1, 1) := dc_27 (by decide +kernel)
theorem d_WF_known_6 : decode b_WF_known 6 = .ok (.aload_n 0, 1) := dc_42 (by decide +kernel)
theorem d_WF_known_7 : decode b_WF_known 7 = .ok (.getfield 76, 3) := dc_180 (by decide +kernel)
theorem d_WF_known_10 : decode b_WF_known 10 = .ok (.getfield 375, 3) := dc_180 (by decide +kernel)
theorem d_WF_known_13 : decode b_WF_known 13 = .ok (.if_icmp .le 5, 3) := dc_164 (by decide +kernel)
theorem d_WF_known_16 : decode b_WF_known 16 = .ok (.iconst 0, 1) := dc_3 (by decide +kernel)
theorem d_WF_known_17 : decode b_WF_known 17 = .ok (.ireturn, 1) := dc_172 (by decide +kernel)
theorem d_WF_known_18 : decode b_WF_known 18 = .ok (.aload_n 0, 1) := dc_42 (by decide +kernel)
theorem d_WF_known_19 : decode b_WF_known 19 = .ok (.getfield 76, 3) := dc_180 (by decide +kernel)
theorem d_WF_known_22 : decode b_WF_known 22 = .ok (.iload_n 1, 1) := dc_27 (by decide +kernel)
theorem d_WF_known_23 : decode b_WF_known 23 = .ok (.putfield 378, 3) := dc_181 (by decide +kernel)
theorem d_WF_known_26 : decode b_WF_known 26 = .ok (.iconst 1, 1) := dc_4 (by decide +kernel)
theorem d_WF_known_27 : decode b_WF_known 27 = .ok (.ireturn, 1) := dc_172 (by decide +kernel)
def t_WF_known (M : Mem) (x1 : Int) : Mem × Int := (if x1 < (-1) then (M, 0) else (if x1 ≤ (M.1 172 5) then (qlet (setI M 172 6 x1) fun M4 => (M4, 1)) else (M, 0)))
set_option maxHeartbeats 4000000 in
set_option maxRecDepth 100000 in
theorem c_WF_known (l : Launch) {b n : Nat} {C : CT} (hlo : 191 ≤ n) (M : Mem) (x1 : Int) (hx1 : InR x1) (res : Mem × Int) (hT : t_WF_known M x1 = res) : CM l b C n 0 y_WF_known b_WF_known 2 (some .boolean) [.ref (b + 0), vI x1] M (QZ b C n res.1 res.2) := by
  refine CM.of (lo := 191) (ow := "WardFalls") (by decide) rfl (Nat.le_of_ble_eq_true rfl) hlo (fun p e s m below meth c F hlk hr hS ls hl => ?_)
  have hl : lv_has ls 2 [(0, .ref (b + 0)), (1, vI x1)] := hl
  unfold t_WF_known at hT
  refine lv_iload_n F.hx F.hb d_WF_known_0 rfl (lv_at hl 1 rfl) ?_
  refine r_iconst F.hx F.hb d_WF_known_1 ?_
  refine r_icmp_lt (tgt := 16) F.hx F.hb hx1 (inr_c rfl) d_WF_known_2 (by decide) (fun c1 => ?_) (fun c1 => ?_)
  · replace hT := (if_pos c1).symm.trans hT
    refine r_iconst F.hx F.hb d_WF_known_16 ?_
    subst hT
    exact r_zret F hlk hr hS (Or.inl rfl) d_WF_known_17
  · replace hT := (if_neg c1).symm.trans hT
    refine lv_iload_n F.hx F.hb d_WF_known_5 rfl (lv_at hl 1 rfl) ?_
    refine lv_aload_n F.hx F.hb d_WF_known_6 rfl (lv_at hl 0 rfl) ?_
    refine r_get (v := .ref (b + 172)) (N := 19) (T := T0) (j := 15) F hS (show 0 < 191 by decide) (show shK 0 = 4 from rfl) (show shN 0 = 19 from rfl) rfl (Nat.le_of_ble_eq_true rfl) ing0 mw_565 (fv_sg rfl rfl rfl) d_WF_known_7 ?_
    refine r_get (v := vI (M.1 172 5)) (N := 7) (T := T5) (j := 5) F hS (show 172 < 191 by decide) (show shK 172 = 9 from rfl) (show shN 172 = 7 from rfl) rfl (Nat.le_of_ble_eq_true rfl) ing5 mw_372 (fv_int rfl) d_WF_known_10 ?_
    have i2 := hS.rng 172 5
    refine r_icmp_le (tgt := 18) F.hx F.hb hx1 i2 d_WF_known_13 (by decide) (fun c3 => ?_) (fun c3 => ?_)
    · replace hT := (if_pos c3).symm.trans hT
      refine lv_aload_n F.hx F.hb d_WF_known_18 rfl (lv_at hl 0 rfl) ?_
      refine r_get (v := .ref (b + 172)) (N := 19) (T := T0) (j := 15) F hS (show 0 < 191 by decide) (show shK 0 = 4 from rfl) (show shN 0 = 19 from rfl) rfl (Nat.le_of_ble_eq_true rfl) ing0 mw_565 (fv_sg rfl rfl rfl) d_WF_known_19 ?_
      refine lv_iload_n F.hx F.hb d_WF_known_22 rfl (lv_at hl 1 rfl) ?_
      refine r_putI (N := 7) (T := T5) (j := 6) F hS (show 172 < 191 by decide) (show shK 172 = 9 from rfl) (show shN 172 = 7 from rfl) rfl (Nat.le_of_ble_eq_true rfl) ing5 tyok5 nm5 rfl rfl rfl rfl rfl rfl mw_374 hx1 d_WF_known_23 (fun H locs hS => ?_)
      obtain ⟨M4, eM4⟩ : ∃ q, q = (setI M 172 6 x1) := ⟨_, rfl⟩
      replace hS : St b C n M4 s H locs := by rw [eM4]; exact hS
      replace hT := qlet_eq hT eM4
      refine r_iconst F.hx F.hb d_WF_known_26 ?_
      subst hT
      exact r_zret F hlk hr hS (Or.inr rfl) d_WF_known_27
    · replace hT := (if_neg c3).symm.trans hT
      refine r_iconst F.hx F.hb d_WF_known_16 ?_
      subst hT
      exact r_zret F hlk hr hS (Or.inl rfl) d_WF_known_17
theorem d_Notes_knownBy_0 : decode b_Notes_knownBy 0 = .ok (.aload_n 0, 1) := dc_42 (by decide +kernel)
theorem d_Notes_knownBy_1 : decode b_Notes_knownBy 1 = .ok (.getfield 28, 3) := dc_180 (by decide +kernel)
theorem d_Notes_knownBy_4 : decode b_Notes_knownBy 4 = .ok (.ifCond .ge 10, 3) := dc_156 (by decide +kernel)
theorem d_Notes_knownBy_7 : decode b_Notes_knownBy 7 = .ok (.aload_n 0, 1) := dc_42 (by decide +kernel)
theorem d_Notes_knownBy_8 : decode b_Notes_knownBy 8 = .ok (.getfield 24, 3) := dc_180 (by decide +kernel)
theorem d_Notes_knownBy_11 : decode b_Notes_knownBy 11 = .ok (.goto 7, 3) := dc_167 (by decide +kernel)
theorem d_Notes_knownBy_14 : decode b_Notes_knownBy 14 = .ok (.aload_n 0, 1) := dc_42 (by decide +kernel)
theorem d_Notes_knownBy_15 : decode b_Notes_knownBy 15 = .ok (.getfield 28, 3) := dc_180 (by decide +kernel)
theorem d_Notes_knownBy_18 : decode b_Notes_knownBy 18 = .ok (.ireturn, 1) := dc_172 (by decide +kernel)
def t_Notes_knownBy (M : Mem)  : Int := (if 0 ≤ (M.1 172 6) then (M.1 172 6) else (M.1 172 5))
set_option maxHeartbeats 4000000 in
set_option maxRecDepth 100000 in
theorem c_Notes_knownBy (l : Launch) {b n : Nat} {C : CT} (hlo : 191 ≤ n) (M : Mem)   (res : Int) (hT : t_Notes_knownBy M  = res) : CM l b C n 0 y_Notes_knownBy b_Notes_knownBy 1 (some .int) [.ref (b + 172)] M (QI b C n M res) := by
  refine CM.of (lo := 191) (ow := "WardFalls$Notes") (by decide) rfl (Nat.le_of_ble_eq_true rfl) hlo (fun p e s m below meth c F hlk hr hS ls hl => ?_)
  have hl : lv_has ls 1 [(0, .ref (b + 172))] := hl
  unfold t_Notes_knownBy at hT
  refine lv_aload_n F.hx F.hb d_Notes_knownBy_0 rfl (lv_at hl 0 rfl) ?_
  refine r_get (v := vI (M.1 172 6)) (N := 7) (T := T5) (j := 6) F hS (show 172 < 191 by decide) (show shK 172 = 9 from rfl) (show shN 172 = 7 from rfl) rfl (Nat.le_of_ble_eq_true rfl) ing5 mw_373 (fv_int rfl) d_Notes_knownBy_1 ?_
  have i1 := hS.rng 172 6
  refine r_if_ge (tgt := 14) F.hx F.hb i1 d_Notes_knownBy_4 (by decide) (fun c2 => ?_) (fun c2 => ?_)
  · replace hT := (if_pos c2).symm.trans hT
    refine lv_aload_n F.hx F.hb d_Notes_knownBy_14 rfl (lv_at hl 0 rfl) ?_
    refine r_get (v := vI (M.1 172 6)) (N := 7) (T := T5) (j := 6) F hS (show 172 < 191 by decide) (show shK 172 = 9 from rfl) (show shN 172 = 7 from rfl) rfl (Nat.le_of_ble_eq_true rfl) ing5 mw_373 (fv_int rfl) d_Notes_knownBy_15 ?_
    have i3 := hS.rng 172 6
    subst hT
    exact r_iret F hlk hr rfl hS i3 d_Notes_knownBy_18
  · replace hT := (if_neg c2).symm.trans hT
    refine lv_aload_n F.hx F.hb d_Notes_knownBy_7 rfl (lv_at hl 0 rfl) ?_
    refine r_get (v := vI (M.1 172 5)) (N := 7) (T := T5) (j := 5) F hS (show 172 < 191 by decide) (show shK 172 = 9 from rfl) (show shN 172 = 7 from rfl) rfl (Nat.le_of_ble_eq_true rfl) ing5 mw_371 (fv_int rfl) d_Notes_knownBy_8 ?_
    have i4 := hS.rng 172 5
    refine lv_goto (tgt := 18) F.hx F.hb d_Notes_knownBy_11 (by decide) ?_
    subst hT
    exact r_iret F hlk hr rfl hS i4 d_Notes_knownBy_18
theorem d_Notes_knownBits_0 : decode b_Notes_knownBits 0 = .ok (.iconst 0, 1) := dc_3 (by decide +kernel)
theorem d_Notes_knownBits_1 : decode b_Notes_knownBits 1 = .ok (.istore_n 1, 1) := dc_60 (by decide +kernel)
theorem d_Notes_knownBits_2 : decode b_Notes_knownBits 2 = .ok (.iconst 0, 1) := dc_3 (by decide +kernel)
theorem d_Notes_knownBits_3 : decode b_Notes_knownBits 3 = .ok (.istore_n 2, 1) := dc_61 (by decide +kernel)
theorem d_Notes_knownBits_4 : decode b_Notes_knownBits 4 = .ok (.aload_n 0, 1) := dc_42 (by decide +kernel)
theorem d_Notes_knownBits_5 : decode b_Notes_knownBits 5 = .ok (.invokevirtual 74, 3) := dc_182 (by decide +kernel)
theorem d_Notes_knownBits_8 : decode b_Notes_knownBits 8 = .ok (.iconst 1, 1) := dc_4 (by decide +kernel)
theorem d_Notes_knownBits_9 : decode b_Notes_knownBits 9 = .ok (.isub, 1) := dc_100 (by decide +kernel)
theorem d_Notes_knownBits_10 : decode b_Notes_knownBits 10 = .ok (.istore_n 3, 1) := dc_62 (by decide +kernel)
theorem d_Notes_knownBits_11 : decode b_Notes_knownBits 11 = .ok (.iload_n 3, 1) := dc_29 (by decide +kernel)
theorem d_Notes_knownBits_12 : decode b_Notes_knownBits 12 = .ok (.ifCond .lt 49, 3) := dc_155 (by decide +kernel)
theorem d_Notes_knownBits_15 : decode b_Notes_knownBits 15 = .ok (.iload_n 1, 1) := dc_27 (by decide +kernel)
theorem d_Notes_knownBits_16 : decode b_Notes_knownBits 16 = .ok (.i2l, 1) := dc_133 (by decide +kernel)
theorem d_Notes_knownBits_17 : decode b_Notes_knownBits 17 = .ok (.iload_n 3, 1) := dc_29 (by decide +kernel)
theorem d_Notes_knownBits_18 : decode b_Notes_knownBits 18 = .ok (.invokestatic 77, 3) := dc_184 (by decide +kernel)
theorem d_Notes_knownBits_21 : decode b_Notes_knownBits 21 = .ok (.ifCond .ne 34, 3) := dc_154 (by decide +kernel)
theorem d_Notes_knownBits_24 : decode b_Notes_knownBits 24 = .ok (.aload_n 0, 1) := dc_42 (by decide +kernel)
theorem d_Notes_knownBits_25 : decode b_Notes_knownBits 25 = .ok (.getfield 18, 3) := dc_180 (by decide +kernel)
theorem d_Notes_knownBits_28 : decode b_Notes_knownBits 28 = .ok (.iload_n 3, 1) := dc_29 (by decide +kernel)
theorem d_Notes_knownBits_29 : decode b_Notes_knownBits 29 = .ok (.invokestatic 67, 3) := dc_184 (by decide +kernel)
theorem d_Notes_knownBits_32 : decode b_Notes_knownBits 32 = .ok (.istore 4, 2) := dc_54 (by decide +kernel)
theorem d_Notes_knownBits_34 : decode b_Notes_knownBits 34 = .ok (.iload 4, 2) := dc_21 (by decide +kernel)
theorem d_Notes_knownBits_36 : decode b_Notes_knownBits 36 = .ok (.ifCond .ge 12, 3) := dc_156 (by decide +kernel)
theorem d_Notes_knownBits_39 : decode b_Notes_knownBits 39 = .ok (.iload_n 2, 1) := dc_28 (by decide +kernel)
theorem d_Notes_knownBits_40 : decode b_Notes_knownBits 40 = .ok (.iconst 1, 1) := dc_4 (by decide +kernel)
theorem d_Notes_knownBits_41 : decode b_Notes_knownBits 41 = .ok (.iload_n 3, 1) := dc_29 (by decide +kernel)
theorem d_Notes_knownBits_42 : decode b_Notes_knownBits 42 = .ok (.ishl, 1) := dc_120 (by decide +kernel)
theorem d_Notes_knownBits_43 : decode b_Notes_knownBits 43 = .ok (.ior, 1) := dc_128 (by decide +kernel)
theorem d_Notes_knownBits_44 : decode b_Notes_knownBits 44 = .ok (.istore_n 2, 1) := dc_61 (by decide +kernel)
theorem d_Notes_knownBits_45 : decode b_Notes_knownBits 45 = .ok (.goto 10, 3) := dc_167 (by decide +kernel)
theorem d_Notes_knownBits_48 : decode b_Notes_knownBits 48 = .ok (.iload_n 1, 1) := dc_27 (by decide +kernel)
theorem d_Notes_knownBits_49 : decode b_Notes_knownBits 49 = .ok (.iconst 1, 1) := dc_4 (by decide +kernel)
theorem d_Notes_knownBits_50 : decode b_Notes_knownBits 50 = .ok (.iload 4, 2) := dc_21 (by decide +kernel)
theorem d_Notes_knownBits_52 : decode b_Notes_knownBits 52 = .ok (.ishl, 1) := dc_120 (by decide +kernel)
theorem d_Notes_knownBits_53 : decode b_Notes_knownBits 53 = .ok (.ior, 1) := dc_128 (by decide +kernel)
theorem d_Notes_knownBits_54 : decode b_Notes_knownBits 54 = .ok (.istore_n 1, 1) := dc_60 (by decide +kernel)
theorem d_Notes_knownBits_55 : decode b_Notes_knownBits 55 = .ok (.iinc 3 (-1), 3) := dc_132 (by decide +kernel)
theorem d_Notes_knownBits_58 : decode b_Notes_knownBits 58 = .ok (.goto (-47), 3) := dc_167 (by decide +kernel)
theorem d_Notes_knownBits_61 : decode b_Notes_knownBits 61 = .ok (.iload_n 2, 1) := dc_28 (by decide +kernel)
theorem d_Notes_knownBits_62 : decode b_Notes_knownBits 62 = .ok (.ireturn, 1) := dc_172 (by decide +kernel)
def t_Notes_knownBits_L55  (bk11 : Mem → Int → Int → Int → Option (Int)) (M : Mem) (v1_ : Int) (v2_ : Int) (v3_ : Int) : Option (Int) := (bk11 M v1_ v2_ (w32 (v3_ + (-1))))
def t_Notes_knownBits_L11   : Nat → Mem → Int → Int → Int → Option (Int)
  | 0, _, _, _, _ => none
  | fu + 1, M, v1_, v2_, v3_ => (if v3_ < 0 then (some v2_) else (qlet (t_WF_bitOf M (q_i2l v1_) v3_) fun q4 => (if q4 = 0 then (qlet (t_WF_look M 175 24 v3_) fun q7 => (if 0 ≤ q7 then (t_Notes_knownBits_L55 (fun a0_ a1_ a2_ a3_ => t_Notes_knownBits_L11 fu a0_ a1_ a2_ a3_) M (q_or v1_ (q_shl 1 q7)) v2_ v3_) else (t_Notes_knownBits_L55 (fun a0_ a1_ a2_ a3_ => t_Notes_knownBits_L11 fu a0_ a1_ a2_ a3_) M v1_ (q_or v2_ (q_shl 1 v3_)) v3_))) else (t_Notes_knownBits_L55 (fun a0_ a1_ a2_ a3_ => t_Notes_knownBits_L11 fu a0_ a1_ a2_ a3_) M v1_ v2_ v3_))))
def t_Notes_knownBits (M : Mem)  : Option (Int) := (qlet (t_Notes_knownBy M) fun q1 => (t_Notes_knownBits_L11 FU M 0 0 (w32 (q1 - 1))))
set_option maxHeartbeats 4000000 in
set_option maxRecDepth 100000 in
theorem k_Notes_knownBits_L55 (l : Launch) {p : Program} {e : Env} {s : State} {m : MethodId} {below : List Frame} {meth : Method} {c : Code} {b n : Nat} {C : CT} (hlo : 191 ≤ n)   (F : Cx b p m c b_Notes_knownBits 5 s ([.ref (b + 172)] : List Value).toArray "WardFalls$Notes" C n 191) (hlk : meth.locks = false) (hr : meth.sig.returnType = some .int) {res : Int} (bk11 : Mem → Int → Int → Int → Option (Int)) (hbk11 : ∀ (M : Mem) (v1_ : Int) (hv1_ : InR v1_) (v2_ : Int) (hv2_ : InR v2_) (v3_ : Int) (hv3_ : InR v3_) (H : Heap) (locs : List Loc) (ls : Array Slot), St b C n M s H locs → lv_has ls 5 [(0, .ref (b + 172)), (1, vI v1_), (2, vI v2_), (3, vI v3_)] → bk11 M v1_ v2_ v3_ = some res → W p l e (headSpec (wsM y_Notes_knownBits b_Notes_knownBits 5 (some .int)) (rmD 1)).room s m ([.ref (b + 172)] : List Value).toArray below meth c H locs 0 0 (MQ below (QI b C n M res) ([.ref (b + 172)] : List Value).toArray s 0 0 (frb b)) (F0 m 11 ls [])) (M : Mem) (v1_ : Int) (hv1_ : InR v1_) (v2_ : Int) (hv2_ : InR v2_) (v3_ : Int) (hv3_ : InR v3_) (H : Heap) (locs : List Loc) (ls : Array Slot) (hS : St b C n M s H locs) (hl : lv_has ls 5 [(0, .ref (b + 172)), (1, vI v1_), (2, vI v2_), (3, vI v3_)]) (hT : t_Notes_knownBits_L55 bk11 M v1_ v2_ v3_ = some res) : W p l e (headSpec (wsM y_Notes_knownBits b_Notes_knownBits 5 (some .int)) (rmD 1)).room s m ([.ref (b + 172)] : List Value).toArray below meth c H locs 0 0 (MQ below (QI b C n M res) ([.ref (b + 172)] : List Value).toArray s 0 0 (frb b)) (F0 m 55 ls []) := by
  unfold t_Notes_knownBits_L55 at hT
  refine lv_iinc (v := Int32.ofInt (w32 (v3_ + (-1)))) (lv' := [(3, vI (w32 (v3_ + (-1)))), (0, .ref (b + 172)), (1, vI v1_), (2, vI v2_)]) F.hx F.hb d_Notes_knownBits_55 hl (k := 3) rfl (q_of_add _ _) (Nat.le_of_ble_eq_true rfl) rfl (fun ls hl => ?_)
  refine lv_goto (tgt := 11) F.hx F.hb d_Notes_knownBits_58 (by decide) ?_
  exact hbk11 M v1_ hv1_ v2_ hv2_ (w32 (v3_ + (-1))) (inr_w32 _) _ _ _ hS (lv_sub hl [1, 2, 3, 0] rfl) hT
set_option maxHeartbeats 4000000 in
set_option maxRecDepth 100000 in
theorem k_Notes_knownBits_L11 (l : Launch) {p : Program} {e : Env} {s : State} {m : MethodId} {below : List Frame} {meth : Method} {c : Code} {b n : Nat} {C : CT} (hlo : 191 ≤ n)   (F : Cx b p m c b_Notes_knownBits 5 s ([.ref (b + 172)] : List Value).toArray "WardFalls$Notes" C n 191) (hlk : meth.locks = false) (hr : meth.sig.returnType = some .int) {res : Int} : ∀ (fu : Nat) (M : Mem) (v1_ : Int) (hv1_ : InR v1_) (v2_ : Int) (hv2_ : InR v2_) (v3_ : Int) (hv3_ : InR v3_) (H : Heap) (locs : List Loc) (ls : Array Slot), St b C n M s H locs → lv_has ls 5 [(0, .ref (b + 172)), (1, vI v1_), (2, vI v2_), (3, vI v3_)] → t_Notes_knownBits_L11 fu M v1_ v2_ v3_ = some res → W p l e (headSpec (wsM y_Notes_knownBits b_Notes_knownBits 5 (some .int)) (rmD 1)).room s m ([.ref (b + 172)] : List Value).toArray below meth c H locs 0 0 (MQ below (QI b C n M res) ([.ref (b + 172)] : List Value).toArray s 0 0 (frb b)) (F0 m 11 ls []) := by
  intro fu
  induction fu with
  | zero => intro M v1_ hv1_ v2_ hv2_ v3_ hv3_ H locs ls hS hl hT; exact absurd hT (by simp [t_Notes_knownBits_L11])
  | succ fu ih =>
    intro M v1_ hv1_ v2_ hv2_ v3_ hv3_ H locs ls hS hl hT
    rw [t_Notes_knownBits_L11] at hT
    refine lv_iload_n F.hx F.hb d_Notes_knownBits_11 rfl (lv_at hl 3 rfl) ?_
    refine r_if_lt (tgt := 61) F.hx F.hb hv3_ d_Notes_knownBits_12 (by decide) (fun c3 => ?_) (fun c3 => ?_)
    · replace hT := (if_pos c3).symm.trans hT
      refine lv_iload_n F.hx F.hb d_Notes_knownBits_61 rfl (lv_at hl 2 rfl) ?_
      cases hT
      exact r_iret F hlk hr rfl hS hv2_ d_Notes_knownBits_62
    · replace hT := (if_neg c3).symm.trans hT
      refine lv_iload_n F.hx F.hb d_Notes_knownBits_15 rfl (lv_at hl 1 rfl) ?_
      refine r_i2l F.hx F.hb d_Notes_knownBits_16 ?_
      refine lv_iload_n F.hx F.hb d_Notes_knownBits_17 rfl (lv_at hl 3 rfl) ?_
      obtain ⟨q4, hq4⟩ : ∃ q, q = (t_WF_bitOf M (q_i2l v1_) v3_) := ⟨_, rfl⟩
      replace hT := qlet_eq hT hq4
      refine r_backI F hS (r_runSN (As := [.long (q_i2l v1_), vI v3_]) F hS (c_WF_bitOf l F.2.2.1 M (q_i2l v1_) v3_ hv3_ _ hq4.symm) mw_773 mw_772 mw_1 gs_Notes_77 hd_WF_bitOf ⟨Nat.le_of_ble_eq_true rfl, Nat.le_of_ble_eq_true rfl⟩ rfl hl.1 (Nat.le_of_ble_eq_true rfl) ⟨Nat.zero_le _, Nat.zero_le _⟩ rfl d_Notes_knownBits_18) (fun H locs hS h5 => ?_)
      refine r_if_ne (tgt := 55) F.hx F.hb h5 d_Notes_knownBits_21 (by decide) (fun c6 => ?_) (fun c6 => ?_)
      · replace hT := (if_neg c6).symm.trans hT
        exact k_Notes_knownBits_L55 l hlo F hlk hr (fun a0_ a1_ a2_ a3_ => t_Notes_knownBits_L11 fu a0_ a1_ a2_ a3_) ih M v1_ hv1_ v2_ hv2_ v3_ hv3_ _ _ _ hS (lv_sub hl [0, 1, 2, 3] rfl) hT
      · replace hT := (if_pos c6).symm.trans hT
        refine lv_aload_n F.hx F.hb d_Notes_knownBits_24 rfl (lv_at hl 0 rfl) ?_
        refine r_get (v := .ref (b + 175)) (N := 7) (T := T5) (j := 2) F hS (show 172 < 191 by decide) (show shK 172 = 9 from rfl) (show shN 172 = 7 from rfl) rfl (Nat.le_of_ble_eq_true rfl) ing5 mw_366 (fv_sg rfl rfl rfl) d_Notes_knownBits_25 ?_
        refine lv_iload_n F.hx F.hb d_Notes_knownBits_28 rfl (lv_at hl 3 rfl) ?_
        obtain ⟨q7, hq7⟩ : ∃ q, q = (t_WF_look M 175 24 v3_) := ⟨_, rfl⟩
        replace hT := qlet_eq hT hq7
        refine r_backI F hS (r_runSN (As := [.ref (b + 175), vI v3_]) F hS (c_WF_look l F.2.2.1 M 175 24 v3_ (show arrP 0 175 24 191 from ⟨rfl, rfl, by decide⟩) hv3_ _ hq7.symm) mw_519 mw_518 mw_1 gs_Notes_67 hd_WF_look ⟨Nat.le_of_ble_eq_true rfl, Nat.le_of_ble_eq_true rfl⟩ rfl hl.1 (Nat.le_of_ble_eq_true rfl) ⟨Nat.zero_le _, Nat.zero_le _⟩ rfl d_Notes_knownBits_29) (fun H locs hS h8 => ?_)
        refine lv_istore (lv' := [(4, vI q7), (0, .ref (b + 172)), (1, vI v1_), (2, vI v2_), (3, vI v3_)]) F.hx F.hb d_Notes_knownBits_32 hl (Nat.le_of_ble_eq_true rfl) rfl (fun ls hl => ?_)
        refine lv_iload F.hx F.hb d_Notes_knownBits_34 (lv_at hl 0 rfl) ?_
        refine r_if_ge (tgt := 48) F.hx F.hb h8 d_Notes_knownBits_36 (by decide) (fun c9 => ?_) (fun c9 => ?_)
        · replace hT := (if_pos c9).symm.trans hT
          refine lv_iload_n F.hx F.hb d_Notes_knownBits_48 rfl (lv_at hl 2 rfl) ?_
          refine r_iconst F.hx F.hb d_Notes_knownBits_49 ?_
          refine lv_iload F.hx F.hb d_Notes_knownBits_50 (lv_at hl 0 rfl) ?_
          refine r_ishl F.hx F.hb d_Notes_knownBits_52 ?_
          refine r_ior F.hx F.hb d_Notes_knownBits_53 ?_
          refine lv_istore_n (lv' := [(1, vI (q_or v1_ (q_shl 1 q7))), (4, vI q7), (0, .ref (b + 172)), (2, vI v2_), (3, vI v3_)]) F.hx F.hb d_Notes_knownBits_54 rfl hl (Nat.le_of_ble_eq_true rfl) rfl (fun ls hl => ?_)
          exact k_Notes_knownBits_L55 l hlo F hlk hr (fun a0_ a1_ a2_ a3_ => t_Notes_knownBits_L11 fu a0_ a1_ a2_ a3_) ih M (q_or v1_ (q_shl 1 q7)) (q_inr_toInt _) v2_ hv2_ v3_ hv3_ _ _ _ hS (lv_sub hl [2, 0, 3, 4] rfl) hT
        · replace hT := (if_neg c9).symm.trans hT
          refine lv_iload_n F.hx F.hb d_Notes_knownBits_39 rfl (lv_at hl 3 rfl) ?_
          refine r_iconst F.hx F.hb d_Notes_knownBits_40 ?_
          refine lv_iload_n F.hx F.hb d_Notes_knownBits_41 rfl (lv_at hl 4 rfl) ?_
          refine r_ishl F.hx F.hb d_Notes_knownBits_42 ?_
          refine r_ior F.hx F.hb d_Notes_knownBits_43 ?_
          refine lv_istore_n (lv' := [(2, vI (q_or v2_ (q_shl 1 v3_))), (4, vI q7), (0, .ref (b + 172)), (1, vI v1_), (3, vI v3_)]) F.hx F.hb d_Notes_knownBits_44 rfl hl (Nat.le_of_ble_eq_true rfl) rfl (fun ls hl => ?_)
          refine lv_goto (tgt := 55) F.hx F.hb d_Notes_knownBits_45 (by decide) ?_
          exact k_Notes_knownBits_L55 l hlo F hlk hr (fun a0_ a1_ a2_ a3_ => t_Notes_knownBits_L11 fu a0_ a1_ a2_ a3_) ih M v1_ hv1_ (q_or v2_ (q_shl 1 v3_)) (q_inr_toInt _) v3_ hv3_ _ _ _ hS (lv_sub hl [2, 3, 0, 4] rfl) hT
set_option maxHeartbeats 4000000 in
set_option maxRecDepth 100000 in
theorem c_Notes_knownBits (l : Launch) {b n : Nat} {C : CT} (hlo : 191 ≤ n) (M : Mem)   (res : Int) (hT : t_Notes_knownBits M  = some res) : CM l b C n 1 y_Notes_knownBits b_Notes_knownBits 5 (some .int) [.ref (b + 172)] M (QI b C n M res) := by
  refine CM.of (lo := 191) (ow := "WardFalls$Notes") (by decide) rfl (Nat.le_of_ble_eq_true rfl) hlo (fun p e s m below meth c F hlk hr hS ls hl => ?_)
  have hl : lv_has ls 5 [(0, .ref (b + 172))] := hl
  unfold t_Notes_knownBits at hT
  refine r_iconst F.hx F.hb d_Notes_knownBits_0 ?_
  refine lv_istore_n (lv' := [(1, vI 0), (0, .ref (b + 172))]) F.hx F.hb d_Notes_knownBits_1 rfl hl (Nat.le_of_ble_eq_true rfl) rfl (fun ls hl => ?_)
  refine r_iconst F.hx F.hb d_Notes_knownBits_2 ?_
  refine lv_istore_n (lv' := [(2, vI 0), (1, vI 0), (0, .ref (b + 172))]) F.hx F.hb d_Notes_knownBits_3 rfl hl (Nat.le_of_ble_eq_true rfl) rfl (fun ls hl => ?_)
  refine lv_aload_n F.hx F.hb d_Notes_knownBits_4 rfl (lv_at hl 2 rfl) ?_
  obtain ⟨q1, hq1⟩ : ∃ q, q = (t_Notes_knownBy M) := ⟨_, rfl⟩
  replace hT := qlet_eq hT hq1
  refine r_backI F hS (r_runV (k := 172) (N := 7) (T := T5) (As := []) F hS (show 172 < 191 by decide) (show shK 172 = 9 from rfl) rfl (c_Notes_knownBy l F.2.2.1 M _ hq1.symm) gs_Notes_74 hd_Notes_knownBy ⟨Nat.le_of_ble_eq_true rfl, Nat.le_of_ble_eq_true rfl⟩ rfl hl.1 (Nat.le_of_ble_eq_true rfl) ⟨Nat.zero_le _, Nat.zero_le _⟩ rfl d_Notes_knownBits_5) (fun H locs hS h2 => ?_)
  refine r_iconst F.hx F.hb d_Notes_knownBits_8 ?_
  refine r_isub F.hx F.hb d_Notes_knownBits_9 ?_
  refine lv_istore_n (lv' := [(3, vI (w32 (q1 - 1))), (2, vI 0), (1, vI 0), (0, .ref (b + 172))]) F.hx F.hb d_Notes_knownBits_10 rfl hl (Nat.le_of_ble_eq_true rfl) rfl (fun ls hl => ?_)
  exact k_Notes_knownBits_L11 l hlo F hlk hr FU M 0 (inr_c rfl) 0 (inr_c rfl) (w32 (q1 - 1)) (inr_w32 _) _ _ _ hS (lv_sub hl [3, 2, 1, 0] rfl) hT
theorem d_Notes_setDowns_0 : decode b_Notes_setDowns 0 = .ok (.iload_n 2, 1) := dc_28 (by decide +kernel)
theorem d_Notes_setDowns_1 : decode b_Notes_setDowns 1 = .ok (.istore_n 3, 1) := dc_62 (by decide +kernel)
theorem d_Notes_setDowns_2 : decode b_Notes_setDowns 2 = .ok (.iconst 0, 1) := dc_3 (by decide +kernel)
theorem d_Notes_setDowns_3 : decode b_Notes_setDowns 3 = .ok (.istore 4, 2) := dc_54 (by decide +kernel)
theorem d_Notes_setDowns_5 : decode b_Notes_setDowns 5 = .ok (.iload 4, 2) := dc_21 (by decide +kernel)
theorem d_Notes_setDowns_7 : decode b_Notes_setDowns 7 = .ok (.aload_n 0, 1) := dc_42 (by decide +kernel)
theorem d_Notes_setDowns_8 : decode b_Notes_setDowns 8 = .ok (.getfield 45, 3) := dc_180 (by decide +kernel)
theorem d_Notes_setDowns_11 : decode b_Notes_setDowns 11 = .ok (.if_icmp .ge 25, 3) := dc_162 (by decide +kernel)
theorem d_Notes_setDowns_14 : decode b_Notes_setDowns 14 = .ok (.aload_n 1, 1) := dc_43 (by decide +kernel)
theorem d_Notes_setDowns_15 : decode b_Notes_setDowns 15 = .ok (.getfield 71, 3) := dc_180 (by decide +kernel)
theorem d_Notes_setDowns_18 : decode b_Notes_setDowns 18 = .ok (.iload 4, 2) := dc_21 (by decide +kernel)
theorem d_Notes_setDowns_20 : decode b_Notes_setDowns 20 = .ok (.iload_n 3, 1) := dc_29 (by decide +kernel)
theorem d_Notes_setDowns_21 : decode b_Notes_setDowns 21 = .ok (.iconst 5, 1) := dc_8 (by decide +kernel)
theorem d_Notes_setDowns_22 : decode b_Notes_setDowns 22 = .ok (.irem, 1) := dc_112 (by decide +kernel)
theorem d_Notes_setDowns_23 : decode b_Notes_setDowns 23 = .ok (.invokestatic 31, 3) := dc_184 (by decide +kernel)
theorem d_Notes_setDowns_26 : decode b_Notes_setDowns 26 = .ok (.iload_n 3, 1) := dc_29 (by decide +kernel)
theorem d_Notes_setDowns_27 : decode b_Notes_setDowns 27 = .ok (.iconst 5, 1) := dc_8 (by decide +kernel)
theorem d_Notes_setDowns_28 : decode b_Notes_setDowns 28 = .ok (.idiv, 1) := dc_108 (by decide +kernel)
theorem d_Notes_setDowns_29 : decode b_Notes_setDowns 29 = .ok (.istore_n 3, 1) := dc_62 (by decide +kernel)
theorem d_Notes_setDowns_30 : decode b_Notes_setDowns 30 = .ok (.iinc 4 1, 3) := dc_132 (by decide +kernel)
theorem d_Notes_setDowns_33 : decode b_Notes_setDowns 33 = .ok (.goto (-28), 3) := dc_167 (by decide +kernel)
theorem d_Notes_setDowns_36 : decode b_Notes_setDowns 36 = .ok (.return_, 1) := dc_177 (by decide +kernel)
def t_Notes_setDowns_L5 (k1 : Nat) (k2 : Nat) (x3 : Int)  : Nat → Mem → Int → Int → Option (Mem)
  | 0, _, _, _ => none
  | fu + 1, M, v2_, v3_ => (if (M.1 k1 14) ≤ v3_ then (some M) else (qlet (t_WF_put M (k2 + 1) 4 v3_ (q_rem v2_ 5)) fun q3 => (t_Notes_setDowns_L5 k1 k2 x3 fu q3 (q_div v2_ 5) (w32 (v3_ + 1)))))
def t_Notes_setDowns (M : Mem) (k1 : Nat) (k2 : Nat) (x3 : Int) : Option (Mem) := (t_Notes_setDowns_L5 k1 k2 x3 FU M x3 0)
set_option maxHeartbeats 4000000 in
set_option maxRecDepth 100000 in
theorem k_Notes_setDowns_L5 (l : Launch) {p : Program} {e : Env} {s : State} {m : MethodId} {below : List Frame} {meth : Method} {c : Code} {b n : Nat} {C : CT} (hlo : 191 ≤ n) (k1 : Nat) (k2 : Nat) (x3 : Int) (hk1 : isTown k1) (hk2 : isScene k2) (hx3 : InR x3) (F : Cx b p m c b_Notes_setDowns 5 s ([.ref (b + k1), .ref (b + k2), vI x3] : List Value).toArray "WardFalls$Notes" C n 191) (hlk : meth.locks = false) (hr : meth.sig.returnType = none) {res : Mem} : ∀ (fu : Nat) (M : Mem) (v2_ : Int) (hv2_ : InR v2_) (v3_ : Int) (hv3_ : InR v3_) (H : Heap) (locs : List Loc) (ls : Array Slot), St b C n M s H locs → lv_has ls 5 [(0, .ref (b + k1)), (1, .ref (b + k2)), (3, vI v2_), (4, vI v3_)] → t_Notes_setDowns_L5 k1 k2 x3 fu M v2_ v3_ = some res → W p l e (headSpec (wsM y_Notes_setDowns b_Notes_setDowns 5 (none)) (rmD 1)).room s m ([.ref (b + k1), .ref (b + k2), vI x3] : List Value).toArray below meth c H locs 0 0 (MQ below (QV b C n res) ([.ref (b + k1), .ref (b + k2), vI x3] : List Value).toArray s 0 0 (frb b)) (F0 m 5 ls []) := by
  intro fu
  induction fu with
  | zero => intro M v2_ hv2_ v3_ hv3_ H locs ls hS hl hT; exact absurd hT (by simp [t_Notes_setDowns_L5])
  | succ fu ih =>
    intro M v2_ hv2_ v3_ hv3_ H locs ls hS hl hT
    rw [t_Notes_setDowns_L5] at hT
    refine lv_iload F.hx F.hb d_Notes_setDowns_5 (lv_at hl 3 rfl) ?_
    refine lv_aload_n F.hx F.hb d_Notes_setDowns_7 rfl (lv_at hl 0 rfl) ?_
    refine r_get (v := vI (M.1 k1 14)) (N := 20) (T := T11) (j := 14) F hS (Town_lt hk1) (Town_sh hk1) (Town_N hk1) rfl (Nat.le_of_ble_eq_true rfl) ing11 mw_136 (fv_int rfl) d_Notes_setDowns_8 ?_
    have i1 := hS.rng k1 14
    refine r_icmp_ge (tgt := 36) F.hx F.hb hv3_ i1 d_Notes_setDowns_11 (by decide) (fun c2 => ?_) (fun c2 => ?_)
    · replace hT := (if_pos c2).symm.trans hT
      cases hT
      exact r_vret F hlk hr hS d_Notes_setDowns_36
    · replace hT := (if_neg c2).symm.trans hT
      refine lv_aload_n F.hx F.hb d_Notes_setDowns_14 rfl (lv_at hl 1 rfl) ?_
      refine r_get (v := .ref (b + (k2 + 1))) (N := 7) (T := T9) (j := 0) F hS (Scene_lt hk2) (Scene_sh hk2) (Scene_N hk2) rfl (Nat.le_of_ble_eq_true rfl) ing9 mw_274 (Scene_g0 hk2 _) d_Notes_setDowns_15 ?_
      refine lv_iload F.hx F.hb d_Notes_setDowns_18 (lv_at hl 3 rfl) ?_
      refine lv_iload_n F.hx F.hb d_Notes_setDowns_20 rfl (lv_at hl 2 rfl) ?_
      refine r_iconst F.hx F.hb d_Notes_setDowns_21 ?_
      refine r_irem F.hx F.hb (inr_c rfl) (by decide) d_Notes_setDowns_22 ?_
      obtain ⟨q3, hq3⟩ : ∃ q, q = (t_WF_put M (k2 + 1) 4 v3_ (q_rem v2_ 5)) := ⟨_, rfl⟩
      replace hT := qlet_eq hT hq3
      refine r_backV F hS (r_runSN (As := [.ref (b + (k2 + 1)), vI v3_, vI (q_rem v2_ 5)]) F hS (c_WF_put l F.2.2.1 M (k2 + 1) 4 v3_ (q_rem v2_ 5) (Scene_f0 hk2) hv3_ (q_inr_toInt _) _ hq3.symm) mw_512 mw_511 mw_1 gs_Notes_31 hd_WF_put ⟨Nat.le_of_ble_eq_true rfl, Nat.le_of_ble_eq_true rfl⟩ rfl hl.1 (Nat.le_of_ble_eq_true rfl) ⟨Nat.zero_le _, Nat.zero_le _⟩ rfl d_Notes_setDowns_23) (fun H locs hS => ?_)
      refine lv_iload_n F.hx F.hb d_Notes_setDowns_26 rfl (lv_at hl 2 rfl) ?_
      refine r_iconst F.hx F.hb d_Notes_setDowns_27 ?_
      refine r_idiv F.hx F.hb (inr_c rfl) (by decide) d_Notes_setDowns_28 ?_
      refine lv_istore_n (lv' := [(3, vI (q_div v2_ 5)), (0, .ref (b + k1)), (1, .ref (b + k2)), (4, vI v3_)]) F.hx F.hb d_Notes_setDowns_29 rfl hl (Nat.le_of_ble_eq_true rfl) rfl (fun ls hl => ?_)
      refine lv_iinc (v := Int32.ofInt (w32 (v3_ + 1))) (lv' := [(4, vI (w32 (v3_ + 1))), (3, vI (q_div v2_ 5)), (0, .ref (b + k1)), (1, .ref (b + k2))]) F.hx F.hb d_Notes_setDowns_30 hl (k := 3) rfl (q_of_add _ _) (Nat.le_of_ble_eq_true rfl) rfl (fun ls hl => ?_)
      refine lv_goto (tgt := 5) F.hx F.hb d_Notes_setDowns_33 (by decide) ?_
      exact ih q3 (q_div v2_ 5) (q_inr_toInt _) (w32 (v3_ + 1)) (inr_w32 _) _ _ _ hS (lv_sub hl [2, 3, 1, 0] rfl) hT
set_option maxHeartbeats 4000000 in
set_option maxRecDepth 100000 in
theorem c_Notes_setDowns (l : Launch) {b n : Nat} {C : CT} (hlo : 191 ≤ n) (M : Mem) (k1 : Nat) (k2 : Nat) (x3 : Int) (hk1 : isTown k1) (hk2 : isScene k2) (hx3 : InR x3) (res : Mem) (hT : t_Notes_setDowns M k1 k2 x3 = some res) : CM l b C n 1 y_Notes_setDowns b_Notes_setDowns 5 (none) [.ref (b + k1), .ref (b + k2), vI x3] M (QV b C n res) := by
  refine CM.of (lo := 191) (ow := "WardFalls$Notes") (by decide) rfl (Nat.le_of_ble_eq_true rfl) hlo (fun p e s m below meth c F hlk hr hS ls hl => ?_)
  have hl : lv_has ls 5 [(0, .ref (b + k1)), (1, .ref (b + k2)), (2, vI x3)] := hl
  unfold t_Notes_setDowns at hT
  refine lv_iload_n F.hx F.hb d_Notes_setDowns_0 rfl (lv_at hl 2 rfl) ?_
  refine lv_istore_n (lv' := [(3, vI x3), (0, .ref (b + k1)), (1, .ref (b + k2)), (2, vI x3)]) F.hx F.hb d_Notes_setDowns_1 rfl hl (Nat.le_of_ble_eq_true rfl) rfl (fun ls hl => ?_)
  refine r_iconst F.hx F.hb d_Notes_setDowns_2 ?_
  refine lv_istore (lv' := [(4, vI 0), (3, vI x3), (0, .ref (b + k1)), (1, .ref (b + k2)), (2, vI x3)]) F.hx F.hb d_Notes_setDowns_3 hl (Nat.le_of_ble_eq_true rfl) rfl (fun ls hl => ?_)
  exact k_Notes_setDowns_L5 l hlo k1 k2 x3 hk1 hk2 hx3 F hlk hr FU M x3 hx3 0 (inr_c rfl) _ _ _ hS (lv_sub hl [2, 3, 1, 0] rfl) hT
theorem d_Notes_areSo_0 : decode b_Notes_areSo 0 = .ok (.iconst 0, 1) := dc_3 (by decide +kernel)
theorem d_Notes_areSo_1 : decode b_Notes_areSo 1 = .ok (.istore 5, 2) := dc_54 (by decide +kernel)
theorem d_Notes_areSo_3 : decode b_Notes_areSo 3 = .ok (.iload 5, 2) := dc_21 (by decide +kernel)
theorem d_Notes_areSo_5 : decode b_Notes_areSo 5 = .ok (.aload_n 0, 1) := dc_42 (by decide +kernel)
theorem d_Notes_areSo_6 : decode b_Notes_areSo 6 = .ok (.getfield 24, 3) := dc_180 (by decide +kernel)
theorem d_Notes_areSo_9 : decode b_Notes_areSo 9 = .ok (.if_icmp .ge 69, 3) := dc_162 (by decide +kernel)
theorem d_Notes_areSo_12 : decode b_Notes_areSo 12 = .ok (.iload_n 1, 1) := dc_27 (by decide +kernel)
theorem d_Notes_areSo_13 : decode b_Notes_areSo 13 = .ok (.i2l, 1) := dc_133 (by decide +kernel)
theorem d_Notes_areSo_14 : decode b_Notes_areSo 14 = .ok (.iload 5, 2) := dc_21 (by decide +kernel)
theorem d_Notes_areSo_16 : decode b_Notes_areSo 16 = .ok (.invokestatic 77, 3) := dc_184 (by decide +kernel)
theorem d_Notes_areSo_19 : decode b_Notes_areSo 19 = .ok (.iconst 1, 1) := dc_4 (by decide +kernel)
theorem d_Notes_areSo_20 : decode b_Notes_areSo 20 = .ok (.if_icmp .ne 52, 3) := dc_160 (by decide +kernel)
theorem d_Notes_areSo_23 : decode b_Notes_areSo 23 = .ok (.aload 4, 2) := dc_25 (by decide +kernel)
theorem d_Notes_areSo_25 : decode b_Notes_areSo 25 = .ok (.aload_n 2, 1) := dc_44 (by decide +kernel)
theorem d_Notes_areSo_26 : decode b_Notes_areSo 26 = .ok (.aload_n 3, 1) := dc_45 (by decide +kernel)
theorem d_Notes_areSo_27 : decode b_Notes_areSo 27 = .ok (.aload_n 0, 1) := dc_42 (by decide +kernel)
theorem d_Notes_areSo_28 : decode b_Notes_areSo 28 = .ok (.getfield 9, 3) := dc_180 (by decide +kernel)
theorem d_Notes_areSo_31 : decode b_Notes_areSo 31 = .ok (.iload 5, 2) := dc_21 (by decide +kernel)
theorem d_Notes_areSo_33 : decode b_Notes_areSo 33 = .ok (.invokestatic 67, 3) := dc_184 (by decide +kernel)
theorem d_Notes_areSo_36 : decode b_Notes_areSo 36 = .ok (.invokevirtual 81, 3) := dc_182 (by decide +kernel)
theorem d_Notes_areSo_39 : decode b_Notes_areSo 39 = .ok (.aload_n 0, 1) := dc_42 (by decide +kernel)
theorem d_Notes_areSo_40 : decode b_Notes_areSo 40 = .ok (.getfield 15, 3) := dc_180 (by decide +kernel)
theorem d_Notes_areSo_43 : decode b_Notes_areSo 43 = .ok (.iload 5, 2) := dc_21 (by decide +kernel)
theorem d_Notes_areSo_45 : decode b_Notes_areSo 45 = .ok (.invokestatic 67, 3) := dc_184 (by decide +kernel)
theorem d_Notes_areSo_48 : decode b_Notes_areSo 48 = .ok (.istore 6, 2) := dc_54 (by decide +kernel)
theorem d_Notes_areSo_50 : decode b_Notes_areSo 50 = .ok (.aload 4, 2) := dc_25 (by decide +kernel)
theorem d_Notes_areSo_52 : decode b_Notes_areSo 52 = .ok (.invokevirtual 86, 3) := dc_182 (by decide +kernel)
theorem d_Notes_areSo_55 : decode b_Notes_areSo 55 = .ok (.iload 6, 2) := dc_21 (by decide +kernel)
theorem d_Notes_areSo_57 : decode b_Notes_areSo 57 = .ok (.ifCond .ge 8, 3) := dc_156 (by decide +kernel)
theorem d_Notes_areSo_60 : decode b_Notes_areSo 60 = .ok (.bipush (-2), 2) := dc_16 (by decide +kernel)
theorem d_Notes_areSo_62 : decode b_Notes_areSo 62 = .ok (.goto 5, 3) := dc_167 (by decide +kernel)
theorem d_Notes_areSo_65 : decode b_Notes_areSo 65 = .ok (.iload 6, 2) := dc_21 (by decide +kernel)
theorem d_Notes_areSo_67 : decode b_Notes_areSo 67 = .ok (.if_icmp .eq 5, 3) := dc_159 (by decide +kernel)
theorem d_Notes_areSo_70 : decode b_Notes_areSo 70 = .ok (.iconst 0, 1) := dc_3 (by decide +kernel)
theorem d_Notes_areSo_71 : decode b_Notes_areSo 71 = .ok (.ireturn, 1) := dc_172 (by decide +kernel)
theorem d_Notes_areSo_72 : decode b_Notes_areSo 72 = .ok (.iinc 5 1, 3) := dc_132 (by decide +kernel)
theorem d_Notes_areSo_75 : decode b_Notes_areSo 75 = .ok (.goto (-72), 3) := dc_167 (by decide +kernel)
theorem d_Notes_areSo_78 : decode b_Notes_areSo 78 = .ok (.iconst 1, 1) := dc_4 (by decide +kernel)
theorem d_Notes_areSo_79 : decode b_Notes_areSo 79 = .ok (.ireturn, 1) := dc_172 (by decide +kernel)
def t_Notes_areSo_L72 (x1 : Int) (k2 : Nat) (k3 : Nat) (k4 : Nat) (bk3 : Mem → Int → Option (Mem × Int)) (M : Mem) (v5_ : Int) : Option (Mem × Int) := (bk3 M (w32 (v5_ + 1)))
def t_Notes_areSo_L67 (x1 : Int) (k2 : Nat) (k3 : Nat) (k4 : Nat) (bk3 : Mem → Int → Option (Mem × Int)) (M : Mem) (v5_ : Int) (v6_ : Int) (v7_ : Int) : Option (Mem × Int) := (if v6_ = v7_ then (t_Notes_areSo_L72 x1 k2 k3 k4 bk3 M v5_) else (some (M, 0)))
def t_Notes_areSo_L3 (x1 : Int) (k2 : Nat) (k3 : Nat) (k4 : Nat)  : Nat → Mem → Int → Option (Mem × Int)
  | 0, _, _ => none
  | fu + 1, M, v5_ => (if (M.1 172 5) ≤ v5_ then (some (M, 1)) else (qlet (t_WF_bitOf M (q_i2l x1) v5_) fun q3 => (if q3 = 1 then (qlet (t_WF_look M 173 24 v5_) fun q6 => (obind (t_Trail_follow M k4 k2 k3 q6) fun q8 => (qlet (t_WF_look q8 174 24 v5_) fun q10 => (qlet (t_Trail_end q8 k4) fun q12 => (if 0 ≤ q10 then (t_Notes_areSo_L67 x1 k2 k3 k4 (fun a0_ a1_ => t_Notes_areSo_L3 x1 k2 k3 k4 fu a0_ a1_) q8 v5_ q12 q10) else (t_Notes_areSo_L67 x1 k2 k3 k4 (fun a0_ a1_ => t_Notes_areSo_L3 x1 k2 k3 k4 fu a0_ a1_) q8 v5_ q12 (-2))))))) else (t_Notes_areSo_L72 x1 k2 k3 k4 (fun a0_ a1_ => t_Notes_areSo_L3 x1 k2 k3 k4 fu a0_ a1_) M v5_))))
def t_Notes_areSo (M : Mem) (x1 : Int) (k2 : Nat) (k3 : Nat) (k4 : Nat) : Option (Mem × Int) := (t_Notes_areSo_L3 x1 k2 k3 k4 FU M 0)
set_option maxHeartbeats 4000000 in
set_option maxRecDepth 100000 in
theorem k_Notes_areSo_L72 (l : Launch) {p : Program} {e : Env} {s : State} {m : MethodId} {below : List Frame} {meth : Method} {c : Code} {b n : Nat} {C : CT} (hlo : 191 ≤ n) (x1 : Int) (k2 : Nat) (k3 : Nat) (k4 : Nat) (hx1 : InR x1) (hk2 : isTown k2) (hk3 : isScene k3) (hk4 : isTrail k4) (F : Cx b p m c b_Notes_areSo 7 s ([.ref (b + 172), vI x1, .ref (b + k2), .ref (b + k3), .ref (b + k4)] : List Value).toArray "WardFalls$Notes" C n 191) (hlk : meth.locks = false) (hr : meth.sig.returnType = some .boolean) {res : Mem × Int} (bk3 : Mem → Int → Option (Mem × Int)) (hbk3 : ∀ (M : Mem) (v5_ : Int) (hv5_ : InR v5_) (H : Heap) (locs : List Loc) (ls : Array Slot), St b C n M s H locs → lv_has ls 7 [(0, .ref (b + 172)), (1, vI x1), (2, .ref (b + k2)), (3, .ref (b + k3)), (4, .ref (b + k4)), (5, vI v5_)] → bk3 M v5_ = some res → W p l e (headSpec (wsM y_Notes_areSo b_Notes_areSo 7 (some .boolean)) (rmD 4)).room s m ([.ref (b + 172), vI x1, .ref (b + k2), .ref (b + k3), .ref (b + k4)] : List Value).toArray below meth c H locs 0 0 (MQ below (QZ b C n res.1 res.2) ([.ref (b + 172), vI x1, .ref (b + k2), .ref (b + k3), .ref (b + k4)] : List Value).toArray s 0 0 (frb b)) (F0 m 3 ls [])) (M : Mem) (v5_ : Int) (hv5_ : InR v5_) (H : Heap) (locs : List Loc) (ls : Array Slot) (hS : St b C n M s H locs) (hl : lv_has ls 7 [(0, .ref (b + 172)), (1, vI x1), (2, .ref (b + k2)), (3, .ref (b + k3)), (4, .ref (b + k4)), (5, vI v5_)]) (hT : t_Notes_areSo_L72 x1 k2 k3 k4 bk3 M v5_ = some res) : W p l e (headSpec (wsM y_Notes_areSo b_Notes_areSo 7 (some .boolean)) (rmD 4)).room s m ([.ref (b + 172), vI x1, .ref (b + k2), .ref (b + k3), .ref (b + k4)] : List Value).toArray below meth c H locs 0 0 (MQ below (QZ b C n res.1 res.2) ([.ref (b + 172), vI x1, .ref (b + k2), .ref (b + k3), .ref (b + k4)] : List Value).toArray s 0 0 (frb b)) (F0 m 72 ls []) := by
  unfold t_Notes_areSo_L72 at hT
  refine lv_iinc (v := Int32.ofInt (w32 (v5_ + 1))) (lv' := [(5, vI (w32 (v5_ + 1))), (0, .ref (b + 172)), (1, vI x1), (2, .ref (b + k2)), (3, .ref (b + k3)), (4, .ref (b + k4))]) F.hx F.hb d_Notes_areSo_72 hl (k := 5) rfl (q_of_add _ _) (Nat.le_of_ble_eq_true rfl) rfl (fun ls hl => ?_)
  refine lv_goto (tgt := 3) F.hx F.hb d_Notes_areSo_75 (by decide) ?_
  exact hbk3 M (w32 (v5_ + 1)) (inr_w32 _) _ _ _ hS (lv_sub hl [1, 2, 3, 4, 5, 0] rfl) hT
set_option maxHeartbeats 4000000 in
set_option maxRecDepth 100000 in
theorem k_Notes_areSo_L67 (l : Launch) {p : Program} {e : Env} {s : State} {m : MethodId} {below : List Frame} {meth : Method} {c : Code} {b n : Nat} {C : CT} (hlo : 191 ≤ n) (x1 : Int) (k2 : Nat) (k3 : Nat) (k4 : Nat) (hx1 : InR x1) (hk2 : isTown k2) (hk3 : isScene k3) (hk4 : isTrail k4) (F : Cx b p m c b_Notes_areSo 7 s ([.ref (b + 172), vI x1, .ref (b + k2), .ref (b + k3), .ref (b + k4)] : List Value).toArray "WardFalls$Notes" C n 191) (hlk : meth.locks = false) (hr : meth.sig.returnType = some .boolean) {res : Mem × Int} (bk3 : Mem → Int → Option (Mem × Int)) (hbk3 : ∀ (M : Mem) (v5_ : Int) (hv5_ : InR v5_) (H : Heap) (locs : List Loc) (ls : Array Slot), St b C n M s H locs → lv_has ls 7 [(0, .ref (b + 172)), (1, vI x1), (2, .ref (b + k2)), (3, .ref (b + k3)), (4, .ref (b + k4)), (5, vI v5_)] → bk3 M v5_ = some res → W p l e (headSpec (wsM y_Notes_areSo b_Notes_areSo 7 (some .boolean)) (rmD 4)).room s m ([.ref (b + 172), vI x1, .ref (b + k2), .ref (b + k3), .ref (b + k4)] : List Value).toArray below meth c H locs 0 0 (MQ below (QZ b C n res.1 res.2) ([.ref (b + 172), vI x1, .ref (b + k2), .ref (b + k3), .ref (b + k4)] : List Value).toArray s 0 0 (frb b)) (F0 m 3 ls [])) (M : Mem) (v5_ : Int) (hv5_ : InR v5_) (v6_ : Int) (hv6_ : InR v6_) (v7_ : Int) (hv7_ : InR v7_) (H : Heap) (locs : List Loc) (ls : Array Slot) (hS : St b C n M s H locs) (hl : lv_has ls 7 [(0, .ref (b + 172)), (1, vI x1), (2, .ref (b + k2)), (3, .ref (b + k3)), (4, .ref (b + k4)), (5, vI v5_)]) (hT : t_Notes_areSo_L67 x1 k2 k3 k4 bk3 M v5_ v6_ v7_ = some res) : W p l e (headSpec (wsM y_Notes_areSo b_Notes_areSo 7 (some .boolean)) (rmD 4)).room s m ([.ref (b + 172), vI x1, .ref (b + k2), .ref (b + k3), .ref (b + k4)] : List Value).toArray below meth c H locs 0 0 (MQ below (QZ b C n res.1 res.2) ([.ref (b + 172), vI x1, .ref (b + k2), .ref (b + k3), .ref (b + k4)] : List Value).toArray s 0 0 (frb b)) (F0 m 67 ls [vI v7_, vI v6_]) := by
  unfold t_Notes_areSo_L67 at hT
  refine r_icmp_eq (tgt := 72) F.hx F.hb hv6_ hv7_ d_Notes_areSo_67 (by decide) (fun c15 => ?_) (fun c15 => ?_)
  · replace hT := (if_pos c15).symm.trans hT
    exact k_Notes_areSo_L72 l hlo x1 k2 k3 k4 hx1 hk2 hk3 hk4 F hlk hr bk3 hbk3 M v5_ hv5_ _ _ _ hS (lv_sub hl [0, 1, 2, 3, 4, 5] rfl) hT
  · replace hT := (if_neg c15).symm.trans hT
    refine r_iconst F.hx F.hb d_Notes_areSo_70 ?_
    cases hT
    exact r_zret F hlk hr hS (Or.inl rfl) d_Notes_areSo_71
set_option maxHeartbeats 4000000 in
set_option maxRecDepth 100000 in
theorem k_Notes_areSo_L3 (l : Launch) {p : Program} {e : Env} {s : State} {m : MethodId} {below : List Frame} {meth : Method} {c : Code} {b n : Nat} {C : CT} (hlo : 191 ≤ n) (x1 : Int) (k2 : Nat) (k3 : Nat) (k4 : Nat) (hx1 : InR x1) (hk2 : isTown k2) (hk3 : isScene k3) (hk4 : isTrail k4) (F : Cx b p m c b_Notes_areSo 7 s ([.ref (b + 172), vI x1, .ref (b + k2), .ref (b + k3), .ref (b + k4)] : List Value).toArray "WardFalls$Notes" C n 191) (hlk : meth.locks = false) (hr : meth.sig.returnType = some .boolean) {res : Mem × Int} : ∀ (fu : Nat) (M : Mem) (v5_ : Int) (hv5_ : InR v5_) (H : Heap) (locs : List Loc) (ls : Array Slot), St b C n M s H locs → lv_has ls 7 [(0, .ref (b + 172)), (1, vI x1), (2, .ref (b + k2)), (3, .ref (b + k3)), (4, .ref (b + k4)), (5, vI v5_)] → t_Notes_areSo_L3 x1 k2 k3 k4 fu M v5_ = some res → W p l e (headSpec (wsM y_Notes_areSo b_Notes_areSo 7 (some .boolean)) (rmD 4)).room s m ([.ref (b + 172), vI x1, .ref (b + k2), .ref (b + k3), .ref (b + k4)] : List Value).toArray below meth c H locs 0 0 (MQ below (QZ b C n res.1 res.2) ([.ref (b + 172), vI x1, .ref (b + k2), .ref (b + k3), .ref (b + k4)] : List Value).toArray s 0 0 (frb b)) (F0 m 3 ls []) := by
  intro fu
  induction fu with
  | zero => intro M v5_ hv5_ H locs ls hS hl hT; exact absurd hT (by simp [t_Notes_areSo_L3])
  | succ fu ih =>
    intro M v5_ hv5_ H locs ls hS hl hT
    rw [t_Notes_areSo_L3] at hT
    refine lv_iload F.hx F.hb d_Notes_areSo_3 (lv_at hl 5 rfl) ?_
    refine lv_aload_n F.hx F.hb d_Notes_areSo_5 rfl (lv_at hl 0 rfl) ?_
    refine r_get (v := vI (M.1 172 5)) (N := 7) (T := T5) (j := 5) F hS (show 172 < 191 by decide) (show shK 172 = 9 from rfl) (show shN 172 = 7 from rfl) rfl (Nat.le_of_ble_eq_true rfl) ing5 mw_371 (fv_int rfl) d_Notes_areSo_6 ?_
    have i1 := hS.rng 172 5
    refine r_icmp_ge (tgt := 78) F.hx F.hb hv5_ i1 d_Notes_areSo_9 (by decide) (fun c2 => ?_) (fun c2 => ?_)
    · replace hT := (if_pos c2).symm.trans hT
      refine r_iconst F.hx F.hb d_Notes_areSo_78 ?_
      cases hT
      exact r_zret F hlk hr hS (Or.inr rfl) d_Notes_areSo_79
    · replace hT := (if_neg c2).symm.trans hT
      refine lv_iload_n F.hx F.hb d_Notes_areSo_12 rfl (lv_at hl 1 rfl) ?_
      refine r_i2l F.hx F.hb d_Notes_areSo_13 ?_
      refine lv_iload F.hx F.hb d_Notes_areSo_14 (lv_at hl 5 rfl) ?_
      obtain ⟨q3, hq3⟩ : ∃ q, q = (t_WF_bitOf M (q_i2l x1) v5_) := ⟨_, rfl⟩
      replace hT := qlet_eq hT hq3
      refine r_backI F hS (r_runSN (As := [.long (q_i2l x1), vI v5_]) F hS (c_WF_bitOf l F.2.2.1 M (q_i2l x1) v5_ hv5_ _ hq3.symm) mw_773 mw_772 mw_1 gs_Notes_77 hd_WF_bitOf ⟨Nat.le_of_ble_eq_true rfl, Nat.le_of_ble_eq_true rfl⟩ rfl hl.1 (Nat.le_of_ble_eq_true rfl) ⟨Nat.zero_le _, Nat.zero_le _⟩ rfl d_Notes_areSo_16) (fun H locs hS h4 => ?_)
      refine r_iconst F.hx F.hb d_Notes_areSo_19 ?_
      refine r_icmp_ne (tgt := 72) F.hx F.hb h4 (inr_c rfl) d_Notes_areSo_20 (by decide) (fun c5 => ?_) (fun c5 => ?_)
      · replace hT := (if_neg c5).symm.trans hT
        exact k_Notes_areSo_L72 l hlo x1 k2 k3 k4 hx1 hk2 hk3 hk4 F hlk hr (fun a0_ a1_ => t_Notes_areSo_L3 x1 k2 k3 k4 fu a0_ a1_) ih M v5_ hv5_ _ _ _ hS (lv_sub hl [0, 1, 2, 3, 4, 5] rfl) hT
      · replace hT := (if_pos c5).symm.trans hT
        refine lv_aload F.hx F.hb d_Notes_areSo_23 (lv_at hl 4 rfl) ?_
        refine lv_aload_n F.hx F.hb d_Notes_areSo_25 rfl (lv_at hl 2 rfl) ?_
        refine lv_aload_n F.hx F.hb d_Notes_areSo_26 rfl (lv_at hl 3 rfl) ?_
        refine lv_aload_n F.hx F.hb d_Notes_areSo_27 rfl (lv_at hl 0 rfl) ?_
        refine r_get (v := .ref (b + 173)) (N := 7) (T := T5) (j := 0) F hS (show 172 < 191 by decide) (show shK 172 = 9 from rfl) (show shN 172 = 7 from rfl) rfl (Nat.le_of_ble_eq_true rfl) ing5 mw_364 (fv_sg rfl rfl rfl) d_Notes_areSo_28 ?_
        refine lv_iload F.hx F.hb d_Notes_areSo_31 (lv_at hl 5 rfl) ?_
        obtain ⟨q6, hq6⟩ : ∃ q, q = (t_WF_look M 173 24 v5_) := ⟨_, rfl⟩
        replace hT := qlet_eq hT hq6
        refine r_backI F hS (r_runSN (As := [.ref (b + 173), vI v5_]) F hS (c_WF_look l F.2.2.1 M 173 24 v5_ (show arrP 0 173 24 191 from ⟨rfl, rfl, by decide⟩) hv5_ _ hq6.symm) mw_519 mw_518 mw_1 gs_Notes_67 hd_WF_look ⟨Nat.le_of_ble_eq_true rfl, Nat.le_of_ble_eq_true rfl⟩ rfl hl.1 (Nat.le_of_ble_eq_true rfl) ⟨Nat.zero_le _, Nat.zero_le _⟩ rfl d_Notes_areSo_33) (fun H locs hS h7 => ?_)
        obtain ⟨q8, hq8, hT⟩ := q_obind hT
        refine r_backV F hS (r_runV (k := k4) (N := 9) (T := T12) (As := [.ref (b + k2), .ref (b + k3), vI q6]) F hS (Trail_lt hk4) (Trail_sh hk4) rfl (c_Trail_follow l F.2.2.1 M k4 k2 k3 q6 hk4 hk2 hk3 h7 _ hq8) gs_Notes_81 hd_Trail_follow ⟨Nat.le_of_ble_eq_true rfl, Nat.le_of_ble_eq_true rfl⟩ rfl hl.1 (Nat.le_of_ble_eq_true rfl) ⟨Nat.zero_le _, Nat.zero_le _⟩ rfl d_Notes_areSo_36) (fun H locs hS => ?_)
        refine lv_aload_n F.hx F.hb d_Notes_areSo_39 rfl (lv_at hl 0 rfl) ?_
        refine r_get (v := .ref (b + 174)) (N := 7) (T := T5) (j := 1) F hS (show 172 < 191 by decide) (show shK 172 = 9 from rfl) (show shN 172 = 7 from rfl) rfl (Nat.le_of_ble_eq_true rfl) ing5 mw_365 (fv_sg rfl rfl rfl) d_Notes_areSo_40 ?_
        refine lv_iload F.hx F.hb d_Notes_areSo_43 (lv_at hl 5 rfl) ?_
        obtain ⟨q10, hq10⟩ : ∃ q, q = (t_WF_look q8 174 24 v5_) := ⟨_, rfl⟩
        replace hT := qlet_eq hT hq10
        refine r_backI F hS (r_runSN (As := [.ref (b + 174), vI v5_]) F hS (c_WF_look l F.2.2.1 q8 174 24 v5_ (show arrP 0 174 24 191 from ⟨rfl, rfl, by decide⟩) hv5_ _ hq10.symm) mw_519 mw_518 mw_1 gs_Notes_67 hd_WF_look ⟨Nat.le_of_ble_eq_true rfl, Nat.le_of_ble_eq_true rfl⟩ rfl hl.1 (Nat.le_of_ble_eq_true rfl) ⟨Nat.zero_le _, Nat.zero_le _⟩ rfl d_Notes_areSo_45) (fun H locs hS h11 => ?_)
        refine lv_istore (lv' := [(6, vI q10), (0, .ref (b + 172)), (1, vI x1), (2, .ref (b + k2)), (3, .ref (b + k3)), (4, .ref (b + k4)), (5, vI v5_)]) F.hx F.hb d_Notes_areSo_48 hl (Nat.le_of_ble_eq_true rfl) rfl (fun ls hl => ?_)
        refine lv_aload F.hx F.hb d_Notes_areSo_50 (lv_at hl 5 rfl) ?_
        obtain ⟨q12, hq12⟩ : ∃ q, q = (t_Trail_end q8 k4) := ⟨_, rfl⟩
        replace hT := qlet_eq hT hq12
        refine r_backI F hS (r_runV (k := k4) (N := 9) (T := T12) (As := []) F hS (Trail_lt hk4) (Trail_sh hk4) rfl (c_Trail_end l F.2.2.1 q8 k4 hk4 _ hq12.symm) gs_Notes_86 hd_Trail_end ⟨Nat.le_of_ble_eq_true rfl, Nat.le_of_ble_eq_true rfl⟩ rfl hl.1 (Nat.le_of_ble_eq_true rfl) ⟨Nat.zero_le _, Nat.zero_le _⟩ rfl d_Notes_areSo_52) (fun H locs hS h13 => ?_)
        refine lv_iload F.hx F.hb d_Notes_areSo_55 (lv_at hl 0 rfl) ?_
        refine r_if_ge (tgt := 65) F.hx F.hb h11 d_Notes_areSo_57 (by decide) (fun c14 => ?_) (fun c14 => ?_)
        · replace hT := (if_pos c14).symm.trans hT
          refine lv_iload F.hx F.hb d_Notes_areSo_65 (lv_at hl 0 rfl) ?_
          exact k_Notes_areSo_L67 l hlo x1 k2 k3 k4 hx1 hk2 hk3 hk4 F hlk hr (fun a0_ a1_ => t_Notes_areSo_L3 x1 k2 k3 k4 fu a0_ a1_) ih q8 v5_ hv5_ q12 h13 q10 h11 _ _ _ hS (lv_sub hl [1, 2, 3, 4, 5, 6] rfl) hT
        · replace hT := (if_neg c14).symm.trans hT
          refine r_bipush F.hx F.hb d_Notes_areSo_60 rfl ?_
          refine lv_goto (tgt := 67) F.hx F.hb d_Notes_areSo_62 (by decide) ?_
          exact k_Notes_areSo_L67 l hlo x1 k2 k3 k4 hx1 hk2 hk3 hk4 F hlk hr (fun a0_ a1_ => t_Notes_areSo_L3 x1 k2 k3 k4 fu a0_ a1_) ih q8 v5_ hv5_ q12 h13 (-2) (inr_c rfl) _ _ _ hS (lv_sub hl [1, 2, 3, 4, 5, 6] rfl) hT
set_option maxHeartbeats 4000000 in
set_option maxRecDepth 100000 in
theorem c_Notes_areSo (l : Launch) {b n : Nat} {C : CT} (hlo : 191 ≤ n) (M : Mem) (x1 : Int) (k2 : Nat) (k3 : Nat) (k4 : Nat) (hx1 : InR x1) (hk2 : isTown k2) (hk3 : isScene k3) (hk4 : isTrail k4) (res : Mem × Int) (hT : t_Notes_areSo M x1 k2 k3 k4 = some res) : CM l b C n 4 y_Notes_areSo b_Notes_areSo 7 (some .boolean) [.ref (b + 172), vI x1, .ref (b + k2), .ref (b + k3), .ref (b + k4)] M (QZ b C n res.1 res.2) := by
  refine CM.of (lo := 191) (ow := "WardFalls$Notes") (by decide) rfl (Nat.le_of_ble_eq_true rfl) hlo (fun p e s m below meth c F hlk hr hS ls hl => ?_)
  have hl : lv_has ls 7 [(0, .ref (b + 172)), (1, vI x1), (2, .ref (b + k2)), (3, .ref (b + k3)), (4, .ref (b + k4))] := hl
  unfold t_Notes_areSo at hT
  refine r_iconst F.hx F.hb d_Notes_areSo_0 ?_
  refine lv_istore (lv' := [(5, vI 0), (0, .ref (b + 172)), (1, vI x1), (2, .ref (b + k2)), (3, .ref (b + k3)), (4, .ref (b + k4))]) F.hx F.hb d_Notes_areSo_1 hl (Nat.le_of_ble_eq_true rfl) rfl (fun ls hl => ?_)
  exact k_Notes_areSo_L3 l hlo x1 k2 k3 k4 hx1 hk2 hk3 hk4 F hlk hr FU M 0 (inr_c rfl) _ _ _ hS (lv_sub hl [1, 2, 3, 4, 5, 0] rfl) hT
theorem wn_Notes_findFits_0 : ∀ i, i < 96 → bA b_Notes_findFits (0 + i) = wB [45, 44, 182, 0, 35, 42, 182, 0, 41, 54, 5, 4, 54, 6, 3, 54, 7, 21, 7, 43, 180, 0, 45, 162, 0, 15, 21, 6, 8, 104, 54, 6, 132, 7, 1, 167, 255, 238, 42, 3, 181, 0, 50, 42, 180, 0, 21, 3, 184, 0, 53, 3, 54, 7, 21, 7, 21, 6, 162, 0, 87, 43, 45, 21, 7, 184, 0, 59, 42, 21, 5, 43, 45, 25, 4, 182, 0, 63, 153, 0, 61, 42, 89, 180, 0, 50, 4, 96, 181, 0, 50, 3, 54, 8, 21, 8] i := wB_of (by decide +kernel)
theorem d_Notes_findFits_0 : decode b_Notes_findFits 0 = .ok (.aload_n 3, 1) := dc_45 (q0_win (r := 0) wn_Notes_findFits_0 (by decide +kernel))
theorem d_Notes_findFits_1 : decode b_Notes_findFits 1 = .ok (.aload_n 2, 1) := dc_44 (q0_win (r := 1) wn_Notes_findFits_0 (by decide +kernel))
theorem d_Notes_findFits_2 : decode b_Notes_findFits 2 = .ok (.invokevirtual 35, 3) := dc_182 (qU2_win (r := 2) wn_Notes_findFits_0 (by decide +kernel))
theorem d_Notes_findFits_5 : decode b_Notes_findFits 5 = .ok (.aload_n 0, 1) := dc_42 (q0_win (r := 5) wn_Notes_findFits_0 (by decide +kernel))
theorem d_Notes_findFits_6 : decode b_Notes_findFits 6 = .ok (.invokevirtual 41, 3) := dc_182 (qU2_win (r := 6) wn_Notes_findFits_0 (by decide +kernel))
theorem d_Notes_findFits_9 : decode b_Notes_findFits 9 = .ok (.istore 5, 2) := dc_54 (qU1_win (r := 9) wn_Notes_findFits_0 (by decide +kernel))
theorem d_Notes_findFits_11 : decode b_Notes_findFits 11 = .ok (.iconst 1, 1) := dc_4 (q0_win (r := 11) wn_Notes_findFits_0 (by decide +kernel))
theorem d_Notes_findFits_12 : decode b_Notes_findFits 12 = .ok (.istore 6, 2) := dc_54 (qU1_win (r := 12) wn_Notes_findFits_0 (by decide +kernel))
theorem d_Notes_findFits_14 : decode b_Notes_findFits 14 = .ok (.iconst 0, 1) := dc_3 (q0_win (r := 14) wn_Notes_findFits_0 (by decide +kernel))
theorem d_Notes_findFits_15 : decode b_Notes_findFits 15 = .ok (.istore 7, 2) := dc_54 (qU1_win (r := 15) wn_Notes_findFits_0 (by decide +kernel))
theorem d_Notes_findFits_17 : decode b_Notes_findFits 17 = .ok (.iload 7, 2) := dc_21 (qU1_win (r := 17) wn_Notes_findFits_0 (by decide +kernel))
theorem d_Notes_findFits_19 : decode b_Notes_findFits 19 = .ok (.aload_n 1, 1) := dc_43 (q0_win (r := 19) wn_Notes_findFits_0 (by decide +kernel))
theorem d_Notes_findFits_20 : decode b_Notes_findFits 20 = .ok (.getfield 45, 3) := dc_180 (qU2_win (r := 20) wn_Notes_findFits_0 (by decide +kernel))
theorem d_Notes_findFits_23 : decode b_Notes_findFits 23 = .ok (.if_icmp .ge 15, 3) := dc_162 (qS2_win (r := 23) wn_Notes_findFits_0 (by decide +kernel))
theorem d_Notes_findFits_26 : decode b_Notes_findFits 26 = .ok (.iload 6, 2) := dc_21 (qU1_win (r := 26) wn_Notes_findFits_0 (by decide +kernel))
theorem d_Notes_findFits_28 : decode b_Notes_findFits 28 = .ok (.iconst 5, 1) := dc_8 (q0_win (r := 28) wn_Notes_findFits_0 (by decide +kernel))
theorem d_Notes_findFits_29 : decode b_Notes_findFits 29 = .ok (.imul, 1) := dc_104 (q0_win (r := 29) wn_Notes_findFits_0 (by decide +kernel))
theorem d_Notes_findFits_30 : decode b_Notes_findFits 30 = .ok (.istore 6, 2) := dc_54 (qU1_win (r := 30) wn_Notes_findFits_0 (by decide +kernel))
theorem d_Notes_findFits_32 : decode b_Notes_findFits 32 = .ok (.iinc 7 1, 3) := dc_132 (qI_win (r := 32) wn_Notes_findFits_0 (by decide +kernel))
theorem d_Notes_findFits_35 : decode b_Notes_findFits 35 = .ok (.goto (-18), 3) := dc_167 (qS2_win (r := 35) wn_Notes_findFits_0 (by decide +kernel))
theorem d_Notes_findFits_38 : decode b_Notes_findFits 38 = .ok (.aload_n 0, 1) := dc_42 (q0_win (r := 38) wn_Notes_findFits_0 (by decide +kernel))
theorem d_Notes_findFits_39 : decode b_Notes_findFits 39 = .ok (.iconst 0, 1) := dc_3 (q0_win (r := 39) wn_Notes_findFits_0 (by decide +kernel))
theorem d_Notes_findFits_40 : decode b_Notes_findFits 40 = .ok (.putfield 50, 3) := dc_181 (qU2_win (r := 40) wn_Notes_findFits_0 (by decide +kernel))
theorem d_Notes_findFits_43 : decode b_Notes_findFits 43 = .ok (.aload_n 0, 1) := dc_42 (q0_win (r := 43) wn_Notes_findFits_0 (by decide +kernel))
theorem d_Notes_findFits_44 : decode b_Notes_findFits 44 = .ok (.getfield 21, 3) := dc_180 (qU2_win (r := 44) wn_Notes_findFits_0 (by decide +kernel))
theorem d_Notes_findFits_47 : decode b_Notes_findFits 47 = .ok (.iconst 0, 1) := dc_3 (q0_win (r := 47) wn_Notes_findFits_0 (by decide +kernel))
theorem d_Notes_findFits_48 : decode b_Notes_findFits 48 = .ok (.invokestatic 53, 3) := dc_184 (qU2_win (r := 48) wn_Notes_findFits_0 (by decide +kernel))
theorem d_Notes_findFits_51 : decode b_Notes_findFits 51 = .ok (.iconst 0, 1) := dc_3 (q0_win (r := 51) wn_Notes_findFits_0 (by decide +kernel))
theorem d_Notes_findFits_52 : decode b_Notes_findFits 52 = .ok (.istore 7, 2) := dc_54 (qU1_win (r := 52) wn_Notes_findFits_0 (by decide +kernel))
theorem d_Notes_findFits_54 : decode b_Notes_findFits 54 = .ok (.iload 7, 2) := dc_21 (qU1_win (r := 54) wn_Notes_findFits_0 (by decide +kernel))
theorem d_Notes_findFits_56 : decode b_Notes_findFits 56 = .ok (.iload 6, 2) := dc_21 (qU1_win (r := 56) wn_Notes_findFits_0 (by decide +kernel))
theorem d_Notes_findFits_58 : decode b_Notes_findFits 58 = .ok (.if_icmp .ge 87, 3) := dc_162 (qS2_win (r := 58) wn_Notes_findFits_0 (by decide +kernel))
theorem d_Notes_findFits_61 : decode b_Notes_findFits 61 = .ok (.aload_n 1, 1) := dc_43 (q0_win (r := 61) wn_Notes_findFits_0 (by decide +kernel))
theorem d_Notes_findFits_62 : decode b_Notes_findFits 62 = .ok (.aload_n 3, 1) := dc_45 (q0_win (r := 62) wn_Notes_findFits_0 (by decide +kernel))
theorem d_Notes_findFits_63 : decode b_Notes_findFits 63 = .ok (.iload 7, 2) := dc_21 (qU1_win (r := 63) wn_Notes_findFits_0 (by decide +kernel))
theorem d_Notes_findFits_65 : decode b_Notes_findFits 65 = .ok (.invokestatic 59, 3) := dc_184 (qU2_win (r := 65) wn_Notes_findFits_0 (by decide +kernel))
theorem d_Notes_findFits_68 : decode b_Notes_findFits 68 = .ok (.aload_n 0, 1) := dc_42 (q0_win (r := 68) wn_Notes_findFits_0 (by decide +kernel))
theorem d_Notes_findFits_69 : decode b_Notes_findFits 69 = .ok (.iload 5, 2) := dc_21 (qU1_win (r := 69) wn_Notes_findFits_0 (by decide +kernel))
theorem d_Notes_findFits_71 : decode b_Notes_findFits 71 = .ok (.aload_n 1, 1) := dc_43 (q0_win (r := 71) wn_Notes_findFits_0 (by decide +kernel))
theorem d_Notes_findFits_72 : decode b_Notes_findFits 72 = .ok (.aload_n 3, 1) := dc_45 (q0_win (r := 72) wn_Notes_findFits_0 (by decide +kernel))
theorem d_Notes_findFits_73 : decode b_Notes_findFits 73 = .ok (.aload 4, 2) := dc_25 (qU1_win (r := 73) wn_Notes_findFits_0 (by decide +kernel))
theorem d_Notes_findFits_75 : decode b_Notes_findFits 75 = .ok (.invokevirtual 63, 3) := dc_182 (qU2_win (r := 75) wn_Notes_findFits_0 (by decide +kernel))
theorem d_Notes_findFits_78 : decode b_Notes_findFits 78 = .ok (.ifCond .eq 61, 3) := dc_153 (qS2_win (r := 78) wn_Notes_findFits_0 (by decide +kernel))
theorem d_Notes_findFits_81 : decode b_Notes_findFits 81 = .ok (.aload_n 0, 1) := dc_42 (q0_win (r := 81) wn_Notes_findFits_0 (by decide +kernel))
theorem d_Notes_findFits_82 : decode b_Notes_findFits 82 = .ok (.dup, 1) := dc_89 (q0_win (r := 82) wn_Notes_findFits_0 (by decide +kernel))
theorem d_Notes_findFits_83 : decode b_Notes_findFits 83 = .ok (.getfield 50, 3) := dc_180 (qU2_win (r := 83) wn_Notes_findFits_0 (by decide +kernel))
theorem d_Notes_findFits_86 : decode b_Notes_findFits 86 = .ok (.iconst 1, 1) := dc_4 (q0_win (r := 86) wn_Notes_findFits_0 (by decide +kernel))
theorem d_Notes_findFits_87 : decode b_Notes_findFits 87 = .ok (.iadd, 1) := dc_96 (q0_win (r := 87) wn_Notes_findFits_0 (by decide +kernel))
theorem d_Notes_findFits_88 : decode b_Notes_findFits 88 = .ok (.putfield 50, 3) := dc_181 (qU2_win (r := 88) wn_Notes_findFits_0 (by decide +kernel))
theorem d_Notes_findFits_91 : decode b_Notes_findFits 91 = .ok (.iconst 0, 1) := dc_3 (q0_win (r := 91) wn_Notes_findFits_0 (by decide +kernel))
theorem d_Notes_findFits_92 : decode b_Notes_findFits 92 = .ok (.istore 8, 2) := dc_54 (qU1_win (r := 92) wn_Notes_findFits_0 (by decide +kernel))
theorem d_Notes_findFits_94 : decode b_Notes_findFits 94 = .ok (.iload 8, 2) := dc_21 (qU1_win (r := 94) wn_Notes_findFits_0 (by decide +kernel))
theorem wn_Notes_findFits_96 : ∀ i, i < 50 → bA b_Notes_findFits (96 + i) = wB [43, 180, 0, 45, 162, 0, 39, 42, 180, 0, 21, 21, 8, 42, 180, 0, 21, 21, 8, 184, 0, 67, 4, 45, 180, 0, 71, 21, 8, 184, 0, 67, 120, 128, 184, 0, 31, 132, 8, 1, 167, 255, 214, 132, 7, 1, 167, 255, 168, 177] i := wB_of (by decide +kernel)
theorem d_Notes_findFits_96 : decode b_Notes_findFits 96 = .ok (.aload_n 1, 1) := dc_43 (q0_win (r := 0) wn_Notes_findFits_96 (by decide +kernel))
theorem d_Notes_findFits_97 : decode b_Notes_findFits 97 = .ok (.getfield 45, 3) := dc_180 (qU2_win (r := 1) wn_Notes_findFits_96 (by decide +kernel))
theorem d_Notes_findFits_100 : decode b_Notes_findFits 100 = .ok (.if_icmp .ge 39, 3) := dc_162 (qS2_win (r := 4) wn_Notes_findFits_96 (by decide +kernel))
theorem d_Notes_findFits_103 : decode b_Notes_findFits 103 = .ok (.aload_n 0, 1) := dc_42 (q0_win (r := 7) wn_Notes_findFits_96 (by decide +kernel))
theorem d_Notes_findFits_104 : decode b_Notes_findFits 104 = .ok (.getfield 21, 3) := dc_180 (qU2_win (r := 8) wn_Notes_findFits_96 (by decide +kernel))
theorem d_Notes_findFits_107 : decode b_Notes_findFits 107 = .ok (.iload 8, 2) := dc_21 (qU1_win (r := 11) wn_Notes_findFits_96 (by decide +kernel))
theorem d_Notes_findFits_109 : decode b_Notes_findFits 109 = .ok (.aload_n 0, 1) := dc_42 (q0_win (r := 13) wn_Notes_findFits_96 (by decide +kernel))
theorem d_Notes_findFits_110 : decode b_Notes_findFits 110 = .ok (.getfield 21, 3) := dc_180 (qU2_win (r := 14) wn_Notes_findFits_96 (by decide +kernel))
theorem d_Notes_findFits_113 : decode b_Notes_findFits 113 = .ok (.iload 8, 2) := dc_21 (qU1_win (r := 17) wn_Notes_findFits_96 (by decide +kernel))
theorem d_Notes_findFits_115 : decode b_Notes_findFits 115 = .ok (.invokestatic 67, 3) := dc_184 (qU2_win (r := 19) wn_Notes_findFits_96 (by decide +kernel))
theorem d_Notes_findFits_118 : decode b_Notes_findFits 118 = .ok (.iconst 1, 1) := dc_4 (q0_win (r := 22) wn_Notes_findFits_96 (by decide +kernel))
theorem d_Notes_findFits_119 : decode b_Notes_findFits 119 = .ok (.aload_n 3, 1) := dc_45 (q0_win (r := 23) wn_Notes_findFits_96 (by decide +kernel))
theorem d_Notes_findFits_120 : decode b_Notes_findFits 120 = .ok (.getfield 71, 3) := dc_180 (qU2_win (r := 24) wn_Notes_findFits_96 (by decide +kernel))
theorem d_Notes_findFits_123 : decode b_Notes_findFits 123 = .ok (.iload 8, 2) := dc_21 (qU1_win (r := 27) wn_Notes_findFits_96 (by decide +kernel))
theorem d_Notes_findFits_125 : decode b_Notes_findFits 125 = .ok (.invokestatic 67, 3) := dc_184 (qU2_win (r := 29) wn_Notes_findFits_96 (by decide +kernel))
theorem d_Notes_findFits_128 : decode b_Notes_findFits 128 = .ok (.ishl, 1) := dc_120 (q0_win (r := 32) wn_Notes_findFits_96 (by decide +kernel))
theorem d_Notes_findFits_129 : decode b_Notes_findFits 129 = .ok (.ior, 1) := dc_128 (q0_win (r := 33) wn_Notes_findFits_96 (by decide +kernel))
theorem d_Notes_findFits_130 : decode b_Notes_findFits 130 = .ok (.invokestatic 31, 3) := dc_184 (qU2_win (r := 34) wn_Notes_findFits_96 (by decide +kernel))
theorem d_Notes_findFits_133 : decode b_Notes_findFits 133 = .ok (.iinc 8 1, 3) := dc_132 (qI_win (r := 37) wn_Notes_findFits_96 (by decide +kernel))
theorem d_Notes_findFits_136 : decode b_Notes_findFits 136 = .ok (.goto (-42), 3) := dc_167 (qS2_win (r := 40) wn_Notes_findFits_96 (by decide +kernel))
theorem d_Notes_findFits_139 : decode b_Notes_findFits 139 = .ok (.iinc 7 1, 3) := dc_132 (qI_win (r := 43) wn_Notes_findFits_96 (by decide +kernel))
theorem d_Notes_findFits_142 : decode b_Notes_findFits 142 = .ok (.goto (-88), 3) := dc_167 (qS2_win (r := 46) wn_Notes_findFits_96 (by decide +kernel))
theorem d_Notes_findFits_145 : decode b_Notes_findFits 145 = .ok (.return_, 1) := dc_177 (q0_win (r := 49) wn_Notes_findFits_96 (by decide +kernel))
def t_Notes_findFits_L139 (k1 : Nat) (k2 : Nat) (k3 : Nat) (k4 : Nat) (bk54 : Mem → Int → Int → Int → Option (Mem)) (M : Mem) (v4_ : Int) (v5_ : Int) (v6_ : Int) : Option (Mem) := (bk54 M v4_ v5_ (w32 (v6_ + 1)))
def t_Notes_findFits_L94 (k1 : Nat) (k2 : Nat) (k3 : Nat) (k4 : Nat) (bk54 : Mem → Int → Int → Int → Option (Mem)) : Nat → Mem → Int → Int → Int → Int → Option (Mem)
  | 0, _, _, _, _, _ => none
  | fu + 1, M, v4_, v5_, v6_, v7_ => (if (M.1 k1 14) ≤ v7_ then (t_Notes_findFits_L139 k1 k2 k3 k4 bk54 M v4_ v5_ v6_) else (qlet (t_WF_look M 176 4 v7_) fun q20 => (qlet (t_WF_look M (k3 + 1) 4 v7_) fun q22 => (qlet (t_WF_put M 176 4 v7_ (q_or q20 (q_shl 1 q22))) fun q24 => (t_Notes_findFits_L94 k1 k2 k3 k4 bk54 fu q24 v4_ v5_ v6_ (w32 (v7_ + 1)))))))
def t_Notes_findFits_L54 (k1 : Nat) (k2 : Nat) (k3 : Nat) (k4 : Nat)  : Nat → Mem → Int → Int → Int → Option (Mem)
  | 0, _, _, _, _ => none
  | fu + 1, M, v4_, v5_, v6_ => (if v5_ ≤ v6_ then (some M) else (obind (t_Notes_setDowns M k1 k3 v6_) fun q11 => (obind (t_Notes_areSo q11 v4_ k1 k3 k4) fun q13 => (if (q13.2) = 0 then (t_Notes_findFits_L139 k1 k2 k3 k4 (fun a0_ a1_ a2_ a3_ => t_Notes_findFits_L54 k1 k2 k3 k4 fu a0_ a1_ a2_ a3_) (q13.1) v4_ v5_ v6_) else (qlet (setI (q13.1) 172 4 (w32 (((q13.1).1 172 4) + 1))) fun M17 => (t_Notes_findFits_L94 k1 k2 k3 k4 (fun a0_ a1_ a2_ a3_ => t_Notes_findFits_L54 k1 k2 k3 k4 fu a0_ a1_ a2_ a3_) FU M17 v4_ v5_ v6_ 0))))))
def t_Notes_findFits_L17 (k1 : Nat) (k2 : Nat) (k3 : Nat) (k4 : Nat)  : Nat → Mem → Int → Int → Int → Option (Mem)
  | 0, _, _, _, _ => none
  | fu + 1, M, v4_, v5_, v6_ => (if (M.1 k1 14) ≤ v6_ then (qlet (setI M 172 4 0) fun M7 => (obind (t_Arrays_fill M7 176 4 0) fun q8 => (t_Notes_findFits_L54 k1 k2 k3 k4 FU q8 v4_ v5_ 0))) else (t_Notes_findFits_L17 k1 k2 k3 k4 fu M v4_ (w32 (v5_ * 5)) (w32 (v6_ + 1))))
def t_Notes_findFits (M : Mem) (k1 : Nat) (k2 : Nat) (k3 : Nat) (k4 : Nat) : Option (Mem) := (qlet (t_Scene_copy M k3 k2) fun q1 => (obind (t_Notes_knownBits q1) fun q3 => (t_Notes_findFits_L17 k1 k2 k3 k4 FU q1 q3 1 0)))
set_option maxHeartbeats 4000000 in
set_option maxRecDepth 100000 in
theorem k_Notes_findFits_L139 (l : Launch) {p : Program} {e : Env} {s : State} {m : MethodId} {below : List Frame} {meth : Method} {c : Code} {b n : Nat} {C : CT} (hlo : 191 ≤ n) (k1 : Nat) (k2 : Nat) (k3 : Nat) (k4 : Nat) (hk1 : isTown k1) (hk2 : isScene k2) (hk3 : isScene k3) (hk4 : isTrail k4) (F : Cx b p m c b_Notes_findFits 9 s ([.ref (b + 172), .ref (b + k1), .ref (b + k2), .ref (b + k3), .ref (b + k4)] : List Value).toArray "WardFalls$Notes" C n 191) (hlk : meth.locks = false) (hr : meth.sig.returnType = none) {res : Mem} (bk54 : Mem → Int → Int → Int → Option (Mem)) (hbk54 : ∀ (M : Mem) (v4_ : Int) (hv4_ : InR v4_) (v5_ : Int) (hv5_ : InR v5_) (v6_ : Int) (hv6_ : InR v6_) (H : Heap) (locs : List Loc) (ls : Array Slot), St b C n M s H locs → lv_has ls 9 [(0, .ref (b + 172)), (1, .ref (b + k1)), (3, .ref (b + k3)), (4, .ref (b + k4)), (5, vI v4_), (6, vI v5_), (7, vI v6_)] → bk54 M v4_ v5_ v6_ = some res → W p l e (headSpec (wsM y_Notes_findFits b_Notes_findFits 9 (none)) (rmD 5)).room s m ([.ref (b + 172), .ref (b + k1), .ref (b + k2), .ref (b + k3), .ref (b + k4)] : List Value).toArray below meth c H locs 0 0 (MQ below (QV b C n res) ([.ref (b + 172), .ref (b + k1), .ref (b + k2), .ref (b + k3), .ref (b + k4)] : List Value).toArray s 0 0 (frb b)) (F0 m 54 ls [])) (M : Mem) (v4_ : Int) (hv4_ : InR v4_) (v5_ : Int) (hv5_ : InR v5_) (v6_ : Int) (hv6_ : InR v6_) (H : Heap) (locs : List Loc) (ls : Array Slot) (hS : St b C n M s H locs) (hl : lv_has ls 9 [(0, .ref (b + 172)), (1, .ref (b + k1)), (3, .ref (b + k3)), (4, .ref (b + k4)), (5, vI v4_), (6, vI v5_), (7, vI v6_)]) (hT : t_Notes_findFits_L139 k1 k2 k3 k4 bk54 M v4_ v5_ v6_ = some res) : W p l e (headSpec (wsM y_Notes_findFits b_Notes_findFits 9 (none)) (rmD 5)).room s m ([.ref (b + 172), .ref (b + k1), .ref (b + k2), .ref (b + k3), .ref (b + k4)] : List Value).toArray below meth c H locs 0 0 (MQ below (QV b C n res) ([.ref (b + 172), .ref (b + k1), .ref (b + k2), .ref (b + k3), .ref (b + k4)] : List Value).toArray s 0 0 (frb b)) (F0 m 139 ls []) := by
  unfold t_Notes_findFits_L139 at hT
  refine lv_iinc (v := Int32.ofInt (w32 (v6_ + 1))) (lv' := [(7, vI (w32 (v6_ + 1))), (0, .ref (b + 172)), (1, .ref (b + k1)), (3, .ref (b + k3)), (4, .ref (b + k4)), (5, vI v4_), (6, vI v5_)]) F.hx F.hb d_Notes_findFits_139 hl (k := 6) rfl (q_of_add _ _) (Nat.le_of_ble_eq_true rfl) rfl (fun ls hl => ?_)
  refine lv_goto (tgt := 54) F.hx F.hb d_Notes_findFits_142 (by decide) ?_
  exact hbk54 M v4_ hv4_ v5_ hv5_ (w32 (v6_ + 1)) (inr_w32 _) _ _ _ hS (lv_sub hl [1, 2, 3, 4, 5, 6, 0] rfl) hT
set_option maxHeartbeats 4000000 in
set_option maxRecDepth 100000 in
theorem k_Notes_findFits_L94 (l : Launch) {p : Program} {e : Env} {s : State} {m : MethodId} {below : List Frame} {meth : Method} {c : Code} {b n : Nat} {C : CT} (hlo : 191 ≤ n) (k1 : Nat) (k2 : Nat) (k3 : Nat) (k4 : Nat) (hk1 : isTown k1) (hk2 : isScene k2) (hk3 : isScene k3) (hk4 : isTrail k4) (F : Cx b p m c b_Notes_findFits 9 s ([.ref (b + 172), .ref (b + k1), .ref (b + k2), .ref (b + k3), .ref (b + k4)] : List Value).toArray "WardFalls$Notes" C n 191) (hlk : meth.locks = false) (hr : meth.sig.returnType = none) {res : Mem} (bk54 : Mem → Int → Int → Int → Option (Mem)) (hbk54 : ∀ (M : Mem) (v4_ : Int) (hv4_ : InR v4_) (v5_ : Int) (hv5_ : InR v5_) (v6_ : Int) (hv6_ : InR v6_) (H : Heap) (locs : List Loc) (ls : Array Slot), St b C n M s H locs → lv_has ls 9 [(0, .ref (b + 172)), (1, .ref (b + k1)), (3, .ref (b + k3)), (4, .ref (b + k4)), (5, vI v4_), (6, vI v5_), (7, vI v6_)] → bk54 M v4_ v5_ v6_ = some res → W p l e (headSpec (wsM y_Notes_findFits b_Notes_findFits 9 (none)) (rmD 5)).room s m ([.ref (b + 172), .ref (b + k1), .ref (b + k2), .ref (b + k3), .ref (b + k4)] : List Value).toArray below meth c H locs 0 0 (MQ below (QV b C n res) ([.ref (b + 172), .ref (b + k1), .ref (b + k2), .ref (b + k3), .ref (b + k4)] : List Value).toArray s 0 0 (frb b)) (F0 m 54 ls [])) : ∀ (fu : Nat) (M : Mem) (v4_ : Int) (hv4_ : InR v4_) (v5_ : Int) (hv5_ : InR v5_) (v6_ : Int) (hv6_ : InR v6_) (v7_ : Int) (hv7_ : InR v7_) (H : Heap) (locs : List Loc) (ls : Array Slot), St b C n M s H locs → lv_has ls 9 [(0, .ref (b + 172)), (1, .ref (b + k1)), (3, .ref (b + k3)), (4, .ref (b + k4)), (5, vI v4_), (6, vI v5_), (7, vI v6_), (8, vI v7_)] → t_Notes_findFits_L94 k1 k2 k3 k4 bk54 fu M v4_ v5_ v6_ v7_ = some res → W p l e (headSpec (wsM y_Notes_findFits b_Notes_findFits 9 (none)) (rmD 5)).room s m ([.ref (b + 172), .ref (b + k1), .ref (b + k2), .ref (b + k3), .ref (b + k4)] : List Value).toArray below meth c H locs 0 0 (MQ below (QV b C n res) ([.ref (b + 172), .ref (b + k1), .ref (b + k2), .ref (b + k3), .ref (b + k4)] : List Value).toArray s 0 0 (frb b)) (F0 m 94 ls []) := by
  intro fu
  induction fu with
  | zero => intro M v4_ hv4_ v5_ hv5_ v6_ hv6_ v7_ hv7_ H locs ls hS hl hT; exact absurd hT (by simp [t_Notes_findFits_L94])
  | succ fu ih =>
    intro M v4_ hv4_ v5_ hv5_ v6_ hv6_ v7_ hv7_ H locs ls hS hl hT
    rw [t_Notes_findFits_L94] at hT
    refine lv_iload F.hx F.hb d_Notes_findFits_94 (lv_at hl 7 rfl) ?_
    refine lv_aload_n F.hx F.hb d_Notes_findFits_96 rfl (lv_at hl 1 rfl) ?_
    refine r_get (v := vI (M.1 k1 14)) (N := 20) (T := T11) (j := 14) F hS (Town_lt hk1) (Town_sh hk1) (Town_N hk1) rfl (Nat.le_of_ble_eq_true rfl) ing11 mw_136 (fv_int rfl) d_Notes_findFits_97 ?_
    have i18 := hS.rng k1 14
    refine r_icmp_ge (tgt := 139) F.hx F.hb hv7_ i18 d_Notes_findFits_100 (by decide) (fun c19 => ?_) (fun c19 => ?_)
    · replace hT := (if_pos c19).symm.trans hT
      exact k_Notes_findFits_L139 l hlo k1 k2 k3 k4 hk1 hk2 hk3 hk4 F hlk hr bk54 hbk54 M v4_ hv4_ v5_ hv5_ v6_ hv6_ _ _ _ hS (lv_sub hl [0, 1, 2, 3, 4, 5, 6] rfl) hT
    · replace hT := (if_neg c19).symm.trans hT
      refine lv_aload_n F.hx F.hb d_Notes_findFits_103 rfl (lv_at hl 0 rfl) ?_
      refine r_get (v := .ref (b + 176)) (N := 7) (T := T5) (j := 3) F hS (show 172 < 191 by decide) (show shK 172 = 9 from rfl) (show shN 172 = 7 from rfl) rfl (Nat.le_of_ble_eq_true rfl) ing5 mw_367 (fv_sg rfl rfl rfl) d_Notes_findFits_104 ?_
      refine lv_iload F.hx F.hb d_Notes_findFits_107 (lv_at hl 7 rfl) ?_
      refine lv_aload_n F.hx F.hb d_Notes_findFits_109 rfl (lv_at hl 0 rfl) ?_
      refine r_get (v := .ref (b + 176)) (N := 7) (T := T5) (j := 3) F hS (show 172 < 191 by decide) (show shK 172 = 9 from rfl) (show shN 172 = 7 from rfl) rfl (Nat.le_of_ble_eq_true rfl) ing5 mw_367 (fv_sg rfl rfl rfl) d_Notes_findFits_110 ?_
      refine lv_iload F.hx F.hb d_Notes_findFits_113 (lv_at hl 7 rfl) ?_
      obtain ⟨q20, hq20⟩ : ∃ q, q = (t_WF_look M 176 4 v7_) := ⟨_, rfl⟩
      replace hT := qlet_eq hT hq20
      refine r_backI F hS (r_runSN (As := [.ref (b + 176), vI v7_]) F hS (c_WF_look l F.2.2.1 M 176 4 v7_ (show arrP 0 176 4 191 from ⟨rfl, rfl, by decide⟩) hv7_ _ hq20.symm) mw_519 mw_518 mw_1 gs_Notes_67 hd_WF_look ⟨Nat.le_of_ble_eq_true rfl, Nat.le_of_ble_eq_true rfl⟩ rfl hl.1 (Nat.le_of_ble_eq_true rfl) ⟨Nat.zero_le _, Nat.zero_le _⟩ rfl d_Notes_findFits_115) (fun H locs hS h21 => ?_)
      refine r_iconst F.hx F.hb d_Notes_findFits_118 ?_
      refine lv_aload_n F.hx F.hb d_Notes_findFits_119 rfl (lv_at hl 2 rfl) ?_
      refine r_get (v := .ref (b + (k3 + 1))) (N := 7) (T := T9) (j := 0) F hS (Scene_lt hk3) (Scene_sh hk3) (Scene_N hk3) rfl (Nat.le_of_ble_eq_true rfl) ing9 mw_274 (Scene_g0 hk3 _) d_Notes_findFits_120 ?_
      refine lv_iload F.hx F.hb d_Notes_findFits_123 (lv_at hl 7 rfl) ?_
      obtain ⟨q22, hq22⟩ : ∃ q, q = (t_WF_look M (k3 + 1) 4 v7_) := ⟨_, rfl⟩
      replace hT := qlet_eq hT hq22
      refine r_backI F hS (r_runSN (As := [.ref (b + (k3 + 1)), vI v7_]) F hS (c_WF_look l F.2.2.1 M (k3 + 1) 4 v7_ (Scene_f0 hk3) hv7_ _ hq22.symm) mw_519 mw_518 mw_1 gs_Notes_67 hd_WF_look ⟨Nat.le_of_ble_eq_true rfl, Nat.le_of_ble_eq_true rfl⟩ rfl hl.1 (Nat.le_of_ble_eq_true rfl) ⟨Nat.zero_le _, Nat.zero_le _⟩ rfl d_Notes_findFits_125) (fun H locs hS h23 => ?_)
      refine r_ishl F.hx F.hb d_Notes_findFits_128 ?_
      refine r_ior F.hx F.hb d_Notes_findFits_129 ?_
      obtain ⟨q24, hq24⟩ : ∃ q, q = (t_WF_put M 176 4 v7_ (q_or q20 (q_shl 1 q22))) := ⟨_, rfl⟩
      replace hT := qlet_eq hT hq24
      refine r_backV F hS (r_runSN (As := [.ref (b + 176), vI v7_, vI (q_or q20 (q_shl 1 q22))]) F hS (c_WF_put l F.2.2.1 M 176 4 v7_ (q_or q20 (q_shl 1 q22)) (show arrP 0 176 4 191 from ⟨rfl, rfl, by decide⟩) hv7_ (q_inr_toInt _) _ hq24.symm) mw_512 mw_511 mw_1 gs_Notes_31 hd_WF_put ⟨Nat.le_of_ble_eq_true rfl, Nat.le_of_ble_eq_true rfl⟩ rfl hl.1 (Nat.le_of_ble_eq_true rfl) ⟨Nat.zero_le _, Nat.zero_le _⟩ rfl d_Notes_findFits_130) (fun H locs hS => ?_)
      refine lv_iinc (v := Int32.ofInt (w32 (v7_ + 1))) (lv' := [(8, vI (w32 (v7_ + 1))), (0, .ref (b + 172)), (1, .ref (b + k1)), (3, .ref (b + k3)), (4, .ref (b + k4)), (5, vI v4_), (6, vI v5_), (7, vI v6_)]) F.hx F.hb d_Notes_findFits_133 hl (k := 7) rfl (q_of_add _ _) (Nat.le_of_ble_eq_true rfl) rfl (fun ls hl => ?_)
      refine lv_goto (tgt := 94) F.hx F.hb d_Notes_findFits_136 (by decide) ?_
      exact ih q24 v4_ hv4_ v5_ hv5_ v6_ hv6_ (w32 (v7_ + 1)) (inr_w32 _) _ _ _ hS (lv_sub hl [1, 2, 3, 4, 5, 6, 7, 0] rfl) hT
set_option maxHeartbeats 4000000 in
set_option maxRecDepth 100000 in
theorem k_Notes_findFits_L54 (l : Launch) {p : Program} {e : Env} {s : State} {m : MethodId} {below : List Frame} {meth : Method} {c : Code} {b n : Nat} {C : CT} (hlo : 191 ≤ n) (k1 : Nat) (k2 : Nat) (k3 : Nat) (k4 : Nat) (hk1 : isTown k1) (hk2 : isScene k2) (hk3 : isScene k3) (hk4 : isTrail k4) (F : Cx b p m c b_Notes_findFits 9 s ([.ref (b + 172), .ref (b + k1), .ref (b + k2), .ref (b + k3), .ref (b + k4)] : List Value).toArray "WardFalls$Notes" C n 191) (hlk : meth.locks = false) (hr : meth.sig.returnType = none) {res : Mem} : ∀ (fu : Nat) (M : Mem) (v4_ : Int) (hv4_ : InR v4_) (v5_ : Int) (hv5_ : InR v5_) (v6_ : Int) (hv6_ : InR v6_) (H : Heap) (locs : List Loc) (ls : Array Slot), St b C n M s H locs → lv_has ls 9 [(0, .ref (b + 172)), (1, .ref (b + k1)), (3, .ref (b + k3)), (4, .ref (b + k4)), (5, vI v4_), (6, vI v5_), (7, vI v6_)] → t_Notes_findFits_L54 k1 k2 k3 k4 fu M v4_ v5_ v6_ = some res → W p l e (headSpec (wsM y_Notes_findFits b_Notes_findFits 9 (none)) (rmD 5)).room s m ([.ref (b + 172), .ref (b + k1), .ref (b + k2), .ref (b + k3), .ref (b + k4)] : List Value).toArray below meth c H locs 0 0 (MQ below (QV b C n res) ([.ref (b + 172), .ref (b + k1), .ref (b + k2), .ref (b + k3), .ref (b + k4)] : List Value).toArray s 0 0 (frb b)) (F0 m 54 ls []) := by
  intro fu
  induction fu with
  | zero => intro M v4_ hv4_ v5_ hv5_ v6_ hv6_ H locs ls hS hl hT; exact absurd hT (by simp [t_Notes_findFits_L54])
  | succ fu ih =>
    intro M v4_ hv4_ v5_ hv5_ v6_ hv6_ H locs ls hS hl hT
    rw [t_Notes_findFits_L54] at hT
    refine lv_iload F.hx F.hb d_Notes_findFits_54 (lv_at hl 6 rfl) ?_
    refine lv_iload F.hx F.hb d_Notes_findFits_56 (lv_at hl 5 rfl) ?_
    refine r_icmp_ge (tgt := 145) F.hx F.hb hv6_ hv5_ d_Notes_findFits_58 (by decide) (fun c10 => ?_) (fun c10 => ?_)
    · replace hT := (if_pos c10).symm.trans hT
      cases hT
      exact r_vret F hlk hr hS d_Notes_findFits_145
    · replace hT := (if_neg c10).symm.trans hT
      refine lv_aload_n F.hx F.hb d_Notes_findFits_61 rfl (lv_at hl 1 rfl) ?_
      refine lv_aload_n F.hx F.hb d_Notes_findFits_62 rfl (lv_at hl 2 rfl) ?_
      refine lv_iload F.hx F.hb d_Notes_findFits_63 (lv_at hl 6 rfl) ?_
      obtain ⟨q11, hq11, hT⟩ := q_obind hT
      refine r_backV F hS (r_runS (As := [.ref (b + k1), .ref (b + k3), vI v6_]) F hS (c_Notes_setDowns l F.2.2.1 M k1 k3 v6_ hk1 hk3 hv6_ _ hq11) gs_Notes_59 hd_Notes_setDowns ⟨Nat.le_of_ble_eq_true rfl, Nat.le_of_ble_eq_true rfl⟩ rfl hl.1 (Nat.le_of_ble_eq_true rfl) ⟨Nat.zero_le _, Nat.zero_le _⟩ rfl d_Notes_findFits_65) (fun H locs hS => ?_)
      refine lv_aload_n F.hx F.hb d_Notes_findFits_68 rfl (lv_at hl 0 rfl) ?_
      refine lv_iload F.hx F.hb d_Notes_findFits_69 (lv_at hl 4 rfl) ?_
      refine lv_aload_n F.hx F.hb d_Notes_findFits_71 rfl (lv_at hl 1 rfl) ?_
      refine lv_aload_n F.hx F.hb d_Notes_findFits_72 rfl (lv_at hl 2 rfl) ?_
      refine lv_aload F.hx F.hb d_Notes_findFits_73 (lv_at hl 3 rfl) ?_
      obtain ⟨q13, hq13, hT⟩ := q_obind hT
      refine r_backZ F hS (r_runV (k := 172) (N := 7) (T := T5) (As := [vI v4_, .ref (b + k1), .ref (b + k3), .ref (b + k4)]) F hS (show 172 < 191 by decide) (show shK 172 = 9 from rfl) rfl (c_Notes_areSo l F.2.2.1 q11 v4_ k1 k3 k4 hv4_ hk1 hk3 hk4 _ hq13) gs_Notes_63 hd_Notes_areSo ⟨Nat.le_of_ble_eq_true rfl, Nat.le_of_ble_eq_true rfl⟩ rfl hl.1 (Nat.le_of_ble_eq_true rfl) ⟨Nat.zero_le _, Nat.zero_le _⟩ rfl d_Notes_findFits_75) (fun H locs hS h14 => ?_)
      refine r_if_eq (tgt := 139) F.hx F.hb (inr_z h14) d_Notes_findFits_78 (by decide) (fun c15 => ?_) (fun c15 => ?_)
      · replace hT := (if_pos c15).symm.trans hT
        exact k_Notes_findFits_L139 l hlo k1 k2 k3 k4 hk1 hk2 hk3 hk4 F hlk hr (fun a0_ a1_ a2_ a3_ => t_Notes_findFits_L54 k1 k2 k3 k4 fu a0_ a1_ a2_ a3_) ih (q13.1) v4_ hv4_ v5_ hv5_ v6_ hv6_ _ _ _ hS (lv_sub hl [0, 1, 2, 3, 4, 5, 6] rfl) hT
      · replace hT := (if_neg c15).symm.trans hT
        refine lv_aload_n F.hx F.hb d_Notes_findFits_81 rfl (lv_at hl 0 rfl) ?_
        refine lv_dup F.hx F.hb d_Notes_findFits_82 rfl ?_
        refine r_get (v := vI ((q13.1).1 172 4)) (N := 7) (T := T5) (j := 4) F hS (show 172 < 191 by decide) (show shK 172 = 9 from rfl) (show shN 172 = 7 from rfl) rfl (Nat.le_of_ble_eq_true rfl) ing5 mw_369 (fv_int rfl) d_Notes_findFits_83 ?_
        have i16 := hS.rng 172 4
        refine r_iconst F.hx F.hb d_Notes_findFits_86 ?_
        refine r_iadd F.hx F.hb d_Notes_findFits_87 ?_
        refine r_putI (N := 7) (T := T5) (j := 4) F hS (show 172 < 191 by decide) (show shK 172 = 9 from rfl) (show shN 172 = 7 from rfl) rfl (Nat.le_of_ble_eq_true rfl) ing5 tyok5 nm5 rfl rfl rfl rfl rfl rfl mw_369 (inr_w32 _) d_Notes_findFits_88 (fun H locs hS => ?_)
        obtain ⟨M17, eM17⟩ : ∃ q, q = (setI (q13.1) 172 4 (w32 (((q13.1).1 172 4) + 1))) := ⟨_, rfl⟩
        replace hS : St b C n M17 s H locs := by rw [eM17]; exact hS
        replace hT := qlet_eq hT eM17
        refine r_iconst F.hx F.hb d_Notes_findFits_91 ?_
        refine lv_istore (lv' := [(8, vI 0), (0, .ref (b + 172)), (1, .ref (b + k1)), (3, .ref (b + k3)), (4, .ref (b + k4)), (5, vI v4_), (6, vI v5_), (7, vI v6_)]) F.hx F.hb d_Notes_findFits_92 hl (Nat.le_of_ble_eq_true rfl) rfl (fun ls hl => ?_)
        exact k_Notes_findFits_L94 l hlo k1 k2 k3 k4 hk1 hk2 hk3 hk4 F hlk hr (fun a0_ a1_ a2_ a3_ => t_Notes_findFits_L54 k1 k2 k3 k4 fu a0_ a1_ a2_ a3_) ih FU M17 v4_ hv4_ v5_ hv5_ v6_ hv6_ 0 (inr_c rfl) _ _ _ hS (lv_sub hl [1, 2, 3, 4, 5, 6, 7, 0] rfl) hT
set_option maxHeartbeats 4000000 in
set_option maxRecDepth 100000 in
theorem k_Notes_findFits_L17 (l : Launch) {p : Program} {e : Env} {s : State} {m : MethodId} {below : List Frame} {meth : Method} {c : Code} {b n : Nat} {C : CT} (hlo : 191 ≤ n) (k1 : Nat) (k2 : Nat) (k3 : Nat) (k4 : Nat) (hk1 : isTown k1) (hk2 : isScene k2) (hk3 : isScene k3) (hk4 : isTrail k4) (F : Cx b p m c b_Notes_findFits 9 s ([.ref (b + 172), .ref (b + k1), .ref (b + k2), .ref (b + k3), .ref (b + k4)] : List Value).toArray "WardFalls$Notes" C n 191) (hlk : meth.locks = false) (hr : meth.sig.returnType = none) {res : Mem} : ∀ (fu : Nat) (M : Mem) (v4_ : Int) (hv4_ : InR v4_) (v5_ : Int) (hv5_ : InR v5_) (v6_ : Int) (hv6_ : InR v6_) (H : Heap) (locs : List Loc) (ls : Array Slot), St b C n M s H locs → lv_has ls 9 [(0, .ref (b + 172)), (1, .ref (b + k1)), (3, .ref (b + k3)), (4, .ref (b + k4)), (5, vI v4_), (6, vI v5_), (7, vI v6_)] → t_Notes_findFits_L17 k1 k2 k3 k4 fu M v4_ v5_ v6_ = some res → W p l e (headSpec (wsM y_Notes_findFits b_Notes_findFits 9 (none)) (rmD 5)).room s m ([.ref (b + 172), .ref (b + k1), .ref (b + k2), .ref (b + k3), .ref (b + k4)] : List Value).toArray below meth c H locs 0 0 (MQ below (QV b C n res) ([.ref (b + 172), .ref (b + k1), .ref (b + k2), .ref (b + k3), .ref (b + k4)] : List Value).toArray s 0 0 (frb b)) (F0 m 17 ls []) := by
  intro fu
  induction fu with
  | zero => intro M v4_ hv4_ v5_ hv5_ v6_ hv6_ H locs ls hS hl hT; exact absurd hT (by simp [t_Notes_findFits_L17])
  | succ fu ih =>
    intro M v4_ hv4_ v5_ hv5_ v6_ hv6_ H locs ls hS hl hT
    rw [t_Notes_findFits_L17] at hT
    refine lv_iload F.hx F.hb d_Notes_findFits_17 (lv_at hl 6 rfl) ?_
    refine lv_aload_n F.hx F.hb d_Notes_findFits_19 rfl (lv_at hl 1 rfl) ?_
    refine r_get (v := vI (M.1 k1 14)) (N := 20) (T := T11) (j := 14) F hS (Town_lt hk1) (Town_sh hk1) (Town_N hk1) rfl (Nat.le_of_ble_eq_true rfl) ing11 mw_136 (fv_int rfl) d_Notes_findFits_20 ?_
    have i5 := hS.rng k1 14
    refine r_icmp_ge (tgt := 38) F.hx F.hb hv6_ i5 d_Notes_findFits_23 (by decide) (fun c6 => ?_) (fun c6 => ?_)
    · replace hT := (if_pos c6).symm.trans hT
      refine lv_aload_n F.hx F.hb d_Notes_findFits_38 rfl (lv_at hl 0 rfl) ?_
      refine r_iconst F.hx F.hb d_Notes_findFits_39 ?_
      refine r_putI (N := 7) (T := T5) (j := 4) F hS (show 172 < 191 by decide) (show shK 172 = 9 from rfl) (show shN 172 = 7 from rfl) rfl (Nat.le_of_ble_eq_true rfl) ing5 tyok5 nm5 rfl rfl rfl rfl rfl rfl mw_369 (inr_c rfl) d_Notes_findFits_40 (fun H locs hS => ?_)
      obtain ⟨M7, eM7⟩ : ∃ q, q = (setI M 172 4 0) := ⟨_, rfl⟩
      replace hS : St b C n M7 s H locs := by rw [eM7]; exact hS
      replace hT := qlet_eq hT eM7
      refine lv_aload_n F.hx F.hb d_Notes_findFits_43 rfl (lv_at hl 0 rfl) ?_
      refine r_get (v := .ref (b + 176)) (N := 7) (T := T5) (j := 3) F hS (show 172 < 191 by decide) (show shK 172 = 9 from rfl) (show shN 172 = 7 from rfl) rfl (Nat.le_of_ble_eq_true rfl) ing5 mw_367 (fv_sg rfl rfl rfl) d_Notes_findFits_44 ?_
      refine r_iconst F.hx F.hb d_Notes_findFits_47 ?_
      obtain ⟨q8, hq8, hT⟩ := q_obind hT
      refine r_backV F hS (r_runS (As := [.ref (b + 176), vI 0]) F hS (c_Arrays_fill l F.2.2.1 M7 176 4 0 (show arrP 0 176 4 191 from ⟨rfl, rfl, by decide⟩) (inr_c rfl) _ hq8) gs_Notes_53 hd_Arrays_fill ⟨Nat.le_of_ble_eq_true rfl, Nat.le_of_ble_eq_true rfl⟩ rfl hl.1 (Nat.le_of_ble_eq_true rfl) ⟨Nat.zero_le _, Nat.zero_le _⟩ rfl d_Notes_findFits_48) (fun H locs hS => ?_)
      refine r_iconst F.hx F.hb d_Notes_findFits_51 ?_
      refine lv_istore (lv' := [(7, vI 0), (0, .ref (b + 172)), (1, .ref (b + k1)), (3, .ref (b + k3)), (4, .ref (b + k4)), (5, vI v4_), (6, vI v5_)]) F.hx F.hb d_Notes_findFits_52 hl (Nat.le_of_ble_eq_true rfl) rfl (fun ls hl => ?_)
      exact k_Notes_findFits_L54 l hlo k1 k2 k3 k4 hk1 hk2 hk3 hk4 F hlk hr FU q8 v4_ hv4_ v5_ hv5_ 0 (inr_c rfl) _ _ _ hS (lv_sub hl [1, 2, 3, 4, 5, 6, 0] rfl) hT
    · replace hT := (if_neg c6).symm.trans hT
      refine lv_iload F.hx F.hb d_Notes_findFits_26 (lv_at hl 5 rfl) ?_
      refine r_iconst F.hx F.hb d_Notes_findFits_28 ?_
      refine r_imul F.hx F.hb d_Notes_findFits_29 ?_
      refine lv_istore (lv' := [(6, vI (w32 (v5_ * 5))), (0, .ref (b + 172)), (1, .ref (b + k1)), (3, .ref (b + k3)), (4, .ref (b + k4)), (5, vI v4_), (7, vI v6_)]) F.hx F.hb d_Notes_findFits_30 hl (Nat.le_of_ble_eq_true rfl) rfl (fun ls hl => ?_)
      refine lv_iinc (v := Int32.ofInt (w32 (v6_ + 1))) (lv' := [(7, vI (w32 (v6_ + 1))), (6, vI (w32 (v5_ * 5))), (0, .ref (b + 172)), (1, .ref (b + k1)), (3, .ref (b + k3)), (4, .ref (b + k4)), (5, vI v4_)]) F.hx F.hb d_Notes_findFits_32 hl (k := 6) rfl (q_of_add _ _) (Nat.le_of_ble_eq_true rfl) rfl (fun ls hl => ?_)
      refine lv_goto (tgt := 17) F.hx F.hb d_Notes_findFits_35 (by decide) ?_
      exact ih M v4_ hv4_ (w32 (v5_ * 5)) (inr_w32 _) (w32 (v6_ + 1)) (inr_w32 _) _ _ _ hS (lv_sub hl [2, 3, 4, 5, 6, 1, 0] rfl) hT
set_option maxHeartbeats 4000000 in
set_option maxRecDepth 100000 in
theorem c_Notes_findFits (l : Launch) {b n : Nat} {C : CT} (hlo : 191 ≤ n) (M : Mem) (k1 : Nat) (k2 : Nat) (k3 : Nat) (k4 : Nat) (hk1 : isTown k1) (hk2 : isScene k2) (hk3 : isScene k3) (hk4 : isTrail k4) (res : Mem) (hT : t_Notes_findFits M k1 k2 k3 k4 = some res) : CM l b C n 5 y_Notes_findFits b_Notes_findFits 9 (none) [.ref (b + 172), .ref (b + k1), .ref (b + k2), .ref (b + k3), .ref (b + k4)] M (QV b C n res) := by
  refine CM.of (lo := 191) (ow := "WardFalls$Notes") (by decide) rfl (Nat.le_of_ble_eq_true rfl) hlo (fun p e s m below meth c F hlk hr hS ls hl => ?_)
  have hl : lv_has ls 9 [(0, .ref (b + 172)), (1, .ref (b + k1)), (2, .ref (b + k2)), (3, .ref (b + k3)), (4, .ref (b + k4))] := hl
  unfold t_Notes_findFits at hT
  refine lv_aload_n F.hx F.hb d_Notes_findFits_0 rfl (lv_at hl 3 rfl) ?_
  refine lv_aload_n F.hx F.hb d_Notes_findFits_1 rfl (lv_at hl 2 rfl) ?_
  obtain ⟨q1, hq1⟩ : ∃ q, q = (t_Scene_copy M k3 k2) := ⟨_, rfl⟩
  replace hT := qlet_eq hT hq1
  refine r_backV F hS (r_runV (k := k3) (N := 7) (T := T9) (As := [.ref (b + k2)]) F hS (Scene_lt hk3) (Scene_sh hk3) rfl (c_Scene_copy l F.2.2.1 M k3 k2 hk3 hk2 _ hq1.symm) gs_Notes_35 hd_Scene_copy ⟨Nat.le_of_ble_eq_true rfl, Nat.le_of_ble_eq_true rfl⟩ rfl hl.1 (Nat.le_of_ble_eq_true rfl) ⟨Nat.zero_le _, Nat.zero_le _⟩ rfl d_Notes_findFits_2) (fun H locs hS => ?_)
  refine lv_aload_n F.hx F.hb d_Notes_findFits_5 rfl (lv_at hl 0 rfl) ?_
  obtain ⟨q3, hq3, hT⟩ := q_obind hT
  refine r_backI F hS (r_runV (k := 172) (N := 7) (T := T5) (As := []) F hS (show 172 < 191 by decide) (show shK 172 = 9 from rfl) rfl (c_Notes_knownBits l F.2.2.1 q1 _ hq3) gs_Notes_41 hd_Notes_knownBits ⟨Nat.le_of_ble_eq_true rfl, Nat.le_of_ble_eq_true rfl⟩ rfl hl.1 (Nat.le_of_ble_eq_true rfl) ⟨Nat.zero_le _, Nat.zero_le _⟩ rfl d_Notes_findFits_6) (fun H locs hS h4 => ?_)
  refine lv_istore (lv' := [(5, vI q3), (0, .ref (b + 172)), (1, .ref (b + k1)), (2, .ref (b + k2)), (3, .ref (b + k3)), (4, .ref (b + k4))]) F.hx F.hb d_Notes_findFits_9 hl (Nat.le_of_ble_eq_true rfl) rfl (fun ls hl => ?_)
  refine r_iconst F.hx F.hb d_Notes_findFits_11 ?_
  refine lv_istore (lv' := [(6, vI 1), (5, vI q3), (0, .ref (b + 172)), (1, .ref (b + k1)), (2, .ref (b + k2)), (3, .ref (b + k3)), (4, .ref (b + k4))]) F.hx F.hb d_Notes_findFits_12 hl (Nat.le_of_ble_eq_true rfl) rfl (fun ls hl => ?_)
  refine r_iconst F.hx F.hb d_Notes_findFits_14 ?_
  refine lv_istore (lv' := [(7, vI 0), (6, vI 1), (5, vI q3), (0, .ref (b + 172)), (1, .ref (b + k1)), (2, .ref (b + k2)), (3, .ref (b + k3)), (4, .ref (b + k4))]) F.hx F.hb d_Notes_findFits_15 hl (Nat.le_of_ble_eq_true rfl) rfl (fun ls hl => ?_)
  exact k_Notes_findFits_L17 l hlo k1 k2 k3 k4 hk1 hk2 hk3 hk4 F hlk hr FU q1 q3 h4 1 (inr_c rfl) 0 (inr_c rfl) _ _ _ hS (lv_sub hl [3, 4, 6, 7, 2, 1, 0] rfl) hT
theorem d_WF_fits_0 : decode b_WF_fits 0 = .ok (.aload_n 0, 1) := dc_42 (by decide +kernel)
theorem d_WF_fits_1 : decode b_WF_fits 1 = .ok (.getfield 76, 3) := dc_180 (by decide +kernel)
theorem d_WF_fits_4 : decode b_WF_fits 4 = .ok (.aload_n 0, 1) := dc_42 (by decide +kernel)
theorem d_WF_fits_5 : decode b_WF_fits 5 = .ok (.getfield 22, 3) := dc_180 (by decide +kernel)
theorem d_WF_fits_8 : decode b_WF_fits 8 = .ok (.aload_n 0, 1) := dc_42 (by decide +kernel)
theorem d_WF_fits_9 : decode b_WF_fits 9 = .ok (.getfield 46, 3) := dc_180 (by decide +kernel)
theorem d_WF_fits_12 : decode b_WF_fits 12 = .ok (.aload_n 0, 1) := dc_42 (by decide +kernel)
theorem d_WF_fits_13 : decode b_WF_fits 13 = .ok (.getfield 50, 3) := dc_180 (by decide +kernel)
theorem d_WF_fits_16 : decode b_WF_fits 16 = .ok (.aload_n 0, 1) := dc_42 (by decide +kernel)
theorem d_WF_fits_17 : decode b_WF_fits 17 = .ok (.getfield 97, 3) := dc_180 (by decide +kernel)
theorem d_WF_fits_20 : decode b_WF_fits 20 = .ok (.invokevirtual 381, 3) := dc_182 (by decide +kernel)
theorem d_WF_fits_23 : decode b_WF_fits 23 = .ok (.aload_n 0, 1) := dc_42 (by decide +kernel)
theorem d_WF_fits_24 : decode b_WF_fits 24 = .ok (.getfield 76, 3) := dc_180 (by decide +kernel)
theorem d_WF_fits_27 : decode b_WF_fits 27 = .ok (.getfield 385, 3) := dc_180 (by decide +kernel)
theorem d_WF_fits_30 : decode b_WF_fits 30 = .ok (.ireturn, 1) := dc_172 (by decide +kernel)
def t_WF_fits (M : Mem)  : Option (Mem × Int) := (obind (t_Notes_findFits M ((M.1 0 4).toNat) 47 52 189) fun q2 => (some (q2, (q2.1 172 4))))
set_option maxHeartbeats 4000000 in
set_option maxRecDepth 100000 in
theorem c_WF_fits (l : Launch) {b n : Nat} {C : CT} (hlo : 191 ≤ n) (M : Mem)   (res : Mem × Int) (hT : t_WF_fits M  = some res) : CM l b C n 6 y_WF_fits b_WF_fits 1 (some .int) [.ref (b + 0)] M (QI b C n res.1 res.2) := by
  refine CM.of (lo := 191) (ow := "WardFalls") (by decide) rfl (Nat.le_of_ble_eq_true rfl) hlo (fun p e s m below meth c F hlk hr hS ls hl => ?_)
  have hl : lv_has ls 1 [(0, .ref (b + 0))] := hl
  unfold t_WF_fits at hT
  refine lv_aload_n F.hx F.hb d_WF_fits_0 rfl (lv_at hl 0 rfl) ?_
  refine r_get (v := .ref (b + 172)) (N := 19) (T := T0) (j := 15) F hS (show 0 < 191 by decide) (show shK 0 = 4 from rfl) (show shN 0 = 19 from rfl) rfl (Nat.le_of_ble_eq_true rfl) ing0 mw_565 (fv_sg rfl rfl rfl) d_WF_fits_1 ?_
  refine lv_aload_n F.hx F.hb d_WF_fits_4 rfl (lv_at hl 0 rfl) ?_
  have h1 := St_town hS
  refine r_get (v := .ref (b + ((M.1 0 4).toNat))) (N := 19) (T := T0) (j := 4) F hS (show 0 < 191 by decide) (show shK 0 = 4 from rfl) (show shN 0 = 19 from rfl) rfl (Nat.le_of_ble_eq_true rfl) ing0 mw_554 (fv_town hS) d_WF_fits_5 ?_
  refine lv_aload_n F.hx F.hb d_WF_fits_8 rfl (lv_at hl 0 rfl) ?_
  refine r_get (v := .ref (b + 47)) (N := 19) (T := T0) (j := 8) F hS (show 0 < 191 by decide) (show shK 0 = 4 from rfl) (show shN 0 = 19 from rfl) rfl (Nat.le_of_ble_eq_true rfl) ing0 mw_558 (fv_sg rfl rfl rfl) d_WF_fits_9 ?_
  refine lv_aload_n F.hx F.hb d_WF_fits_12 rfl (lv_at hl 0 rfl) ?_
  refine r_get (v := .ref (b + 52)) (N := 19) (T := T0) (j := 9) F hS (show 0 < 191 by decide) (show shK 0 = 4 from rfl) (show shN 0 = 19 from rfl) rfl (Nat.le_of_ble_eq_true rfl) ing0 mw_559 (fv_sg rfl rfl rfl) d_WF_fits_13 ?_
  refine lv_aload_n F.hx F.hb d_WF_fits_16 rfl (lv_at hl 0 rfl) ?_
  refine r_get (v := .ref (b + 189)) (N := 19) (T := T0) (j := 18) F hS (show 0 < 191 by decide) (show shK 0 = 4 from rfl) (show shN 0 = 19 from rfl) rfl (Nat.le_of_ble_eq_true rfl) ing0 mw_568 (fv_sg rfl rfl rfl) d_WF_fits_17 ?_
  obtain ⟨q2, hq2, hT⟩ := q_obind hT
  refine r_backV F hS (r_runV (k := 172) (N := 7) (T := T5) (As := [.ref (b + ((M.1 0 4).toNat)), .ref (b + 47), .ref (b + 52), .ref (b + 189)]) F hS (show 172 < 191 by decide) (show shK 172 = 9 from rfl) rfl (c_Notes_findFits l F.2.2.1 M ((M.1 0 4).toNat) 47 52 189 h1 (by decide : isScene 47) (by decide : isScene 52) (by decide : isTrail 189) _ hq2) gs_WF_381 hd_Notes_findFits ⟨Nat.le_of_ble_eq_true rfl, Nat.le_of_ble_eq_true rfl⟩ rfl hl.1 (Nat.le_of_ble_eq_true rfl) ⟨Nat.zero_le _, Nat.zero_le _⟩ rfl d_WF_fits_20) (fun H locs hS => ?_)
  refine lv_aload_n F.hx F.hb d_WF_fits_23 rfl (lv_at hl 0 rfl) ?_
  refine r_get (v := .ref (b + 172)) (N := 19) (T := T0) (j := 15) F hS (show 0 < 191 by decide) (show shK 0 = 4 from rfl) (show shN 0 = 19 from rfl) rfl (Nat.le_of_ble_eq_true rfl) ing0 mw_565 (fv_sg rfl rfl rfl) d_WF_fits_24 ?_
  refine r_get (v := vI (q2.1 172 4)) (N := 7) (T := T5) (j := 4) F hS (show 172 < 191 by decide) (show shK 172 = 9 from rfl) (show shN 172 = 7 from rfl) rfl (Nat.le_of_ble_eq_true rfl) ing5 mw_370 (fv_int rfl) d_WF_fits_27 ?_
  have i4 := hS.rng 172 4
  cases hT
  exact r_iret F hlk hr rfl hS i4 d_WF_fits_30
theorem d_WF_may_0 : decode b_WF_may 0 = .ok (.aload_n 0, 1) := dc_42 (by decide +kernel)
theorem d_WF_may_1 : decode b_WF_may 1 = .ok (.getfield 22, 3) := dc_180 (by decide +kernel)
theorem d_WF_may_4 : decode b_WF_may 4 = .ok (.iload_n 1, 1) := dc_27 (by decide +kernel)
theorem d_WF_may_5 : decode b_WF_may 5 = .ok (.invokevirtual 198, 3) := dc_182 (by decide +kernel)
theorem d_WF_may_8 : decode b_WF_may 8 = .ok (.ifCond .ne 5, 3) := dc_154 (by decide +kernel)
theorem d_WF_may_11 : decode b_WF_may 11 = .ok (.iconst (-1), 1) := dc_2 (by decide +kernel)
theorem d_WF_may_12 : decode b_WF_may 12 = .ok (.ireturn, 1) := dc_172 (by decide +kernel)
theorem d_WF_may_13 : decode b_WF_may 13 = .ok (.aload_n 0, 1) := dc_42 (by decide +kernel)
theorem d_WF_may_14 : decode b_WF_may 14 = .ok (.getfield 76, 3) := dc_180 (by decide +kernel)
theorem d_WF_may_17 : decode b_WF_may 17 = .ok (.aload_n 0, 1) := dc_42 (by decide +kernel)
theorem d_WF_may_18 : decode b_WF_may 18 = .ok (.getfield 22, 3) := dc_180 (by decide +kernel)
theorem d_WF_may_21 : decode b_WF_may 21 = .ok (.aload_n 0, 1) := dc_42 (by decide +kernel)
theorem d_WF_may_22 : decode b_WF_may 22 = .ok (.getfield 46, 3) := dc_180 (by decide +kernel)
theorem d_WF_may_25 : decode b_WF_may 25 = .ok (.aload_n 0, 1) := dc_42 (by decide +kernel)
theorem d_WF_may_26 : decode b_WF_may 26 = .ok (.getfield 50, 3) := dc_180 (by decide +kernel)
theorem d_WF_may_29 : decode b_WF_may 29 = .ok (.aload_n 0, 1) := dc_42 (by decide +kernel)
theorem d_WF_may_30 : decode b_WF_may 30 = .ok (.getfield 97, 3) := dc_180 (by decide +kernel)
theorem d_WF_may_33 : decode b_WF_may 33 = .ok (.invokevirtual 381, 3) := dc_182 (by decide +kernel)
theorem d_WF_may_36 : decode b_WF_may 36 = .ok (.aload_n 0, 1) := dc_42 (by decide +kernel)
theorem d_WF_may_37 : decode b_WF_may 37 = .ok (.getfield 76, 3) := dc_180 (by decide +kernel)
theorem d_WF_may_40 : decode b_WF_may 40 = .ok (.getfield 388, 3) := dc_180 (by decide +kernel)
theorem d_WF_may_43 : decode b_WF_may 43 = .ok (.iload_n 1, 1) := dc_27 (by decide +kernel)
theorem d_WF_may_44 : decode b_WF_may 44 = .ok (.invokestatic 204, 3) := dc_184 (by decide +kernel)
theorem d_WF_may_47 : decode b_WF_may 47 = .ok (.ireturn, 1) := dc_172 (by decide +kernel)
def t_WF_may (M : Mem) (x1 : Int) : Option (Mem × Int) := (qlet (t_Town_hasWard M ((M.1 0 4).toNat) x1) fun q2 => (if q2 = 0 then (some (M, (-1))) else (obind (t_Notes_findFits M ((M.1 0 4).toNat) 47 52 189) fun q6 => (qlet (t_WF_look q6 176 4 x1) fun q8 => (some (q6, q8))))))
set_option maxHeartbeats 4000000 in
set_option maxRecDepth 100000 in
theorem c_WF_may (l : Launch) {b n : Nat} {C : CT} (hlo : 191 ≤ n) (M : Mem) (x1 : Int) (hx1 : InR x1) (res : Mem × Int) (hT : t_WF_may M x1 = some res) : CM l b C n 6 y_WF_may b_WF_may 2 (some .int) [.ref (b + 0), vI x1] M (QI b C n res.1 res.2) := by
  refine CM.of (lo := 191) (ow := "WardFalls") (by decide) rfl (Nat.le_of_ble_eq_true rfl) hlo (fun p e s m below meth c F hlk hr hS ls hl => ?_)
  have hl : lv_has ls 2 [(0, .ref (b + 0)), (1, vI x1)] := hl
  unfold t_WF_may at hT
  refine lv_aload_n F.hx F.hb d_WF_may_0 rfl (lv_at hl 0 rfl) ?_
  have h1 := St_town hS
  refine r_get (v := .ref (b + ((M.1 0 4).toNat))) (N := 19) (T := T0) (j := 4) F hS (show 0 < 191 by decide) (show shK 0 = 4 from rfl) (show shN 0 = 19 from rfl) rfl (Nat.le_of_ble_eq_true rfl) ing0 mw_554 (fv_town hS) d_WF_may_1 ?_
  refine lv_iload_n F.hx F.hb d_WF_may_4 rfl (lv_at hl 1 rfl) ?_
  obtain ⟨q2, hq2⟩ : ∃ q, q = (t_Town_hasWard M ((M.1 0 4).toNat) x1) := ⟨_, rfl⟩
  replace hT := qlet_eq hT hq2
  refine r_backZ F hS (r_runV (k := ((M.1 0 4).toNat)) (N := 20) (T := T11) (As := [vI x1]) F hS (Town_lt h1) (Town_sh h1) rfl (c_Town_hasWard l F.2.2.1 M ((M.1 0 4).toNat) x1 h1 hx1 _ hq2.symm) gs_WF_198 hd_Town_hasWard ⟨Nat.le_of_ble_eq_true rfl, Nat.le_of_ble_eq_true rfl⟩ rfl hl.1 (Nat.le_of_ble_eq_true rfl) ⟨Nat.zero_le _, Nat.zero_le _⟩ rfl d_WF_may_5) (fun H locs hS h3 => ?_)
  refine r_if_ne (tgt := 13) F.hx F.hb (inr_z h3) d_WF_may_8 (by decide) (fun c4 => ?_) (fun c4 => ?_)
  · replace hT := (if_neg c4).symm.trans hT
    refine lv_aload_n F.hx F.hb d_WF_may_13 rfl (lv_at hl 0 rfl) ?_
    refine r_get (v := .ref (b + 172)) (N := 19) (T := T0) (j := 15) F hS (show 0 < 191 by decide) (show shK 0 = 4 from rfl) (show shN 0 = 19 from rfl) rfl (Nat.le_of_ble_eq_true rfl) ing0 mw_565 (fv_sg rfl rfl rfl) d_WF_may_14 ?_
    refine lv_aload_n F.hx F.hb d_WF_may_17 rfl (lv_at hl 0 rfl) ?_
    have h5 := St_town hS
    refine r_get (v := .ref (b + ((M.1 0 4).toNat))) (N := 19) (T := T0) (j := 4) F hS (show 0 < 191 by decide) (show shK 0 = 4 from rfl) (show shN 0 = 19 from rfl) rfl (Nat.le_of_ble_eq_true rfl) ing0 mw_554 (fv_town hS) d_WF_may_18 ?_
    refine lv_aload_n F.hx F.hb d_WF_may_21 rfl (lv_at hl 0 rfl) ?_
    refine r_get (v := .ref (b + 47)) (N := 19) (T := T0) (j := 8) F hS (show 0 < 191 by decide) (show shK 0 = 4 from rfl) (show shN 0 = 19 from rfl) rfl (Nat.le_of_ble_eq_true rfl) ing0 mw_558 (fv_sg rfl rfl rfl) d_WF_may_22 ?_
    refine lv_aload_n F.hx F.hb d_WF_may_25 rfl (lv_at hl 0 rfl) ?_
    refine r_get (v := .ref (b + 52)) (N := 19) (T := T0) (j := 9) F hS (show 0 < 191 by decide) (show shK 0 = 4 from rfl) (show shN 0 = 19 from rfl) rfl (Nat.le_of_ble_eq_true rfl) ing0 mw_559 (fv_sg rfl rfl rfl) d_WF_may_26 ?_
    refine lv_aload_n F.hx F.hb d_WF_may_29 rfl (lv_at hl 0 rfl) ?_
    refine r_get (v := .ref (b + 189)) (N := 19) (T := T0) (j := 18) F hS (show 0 < 191 by decide) (show shK 0 = 4 from rfl) (show shN 0 = 19 from rfl) rfl (Nat.le_of_ble_eq_true rfl) ing0 mw_568 (fv_sg rfl rfl rfl) d_WF_may_30 ?_
    obtain ⟨q6, hq6, hT⟩ := q_obind hT
    refine r_backV F hS (r_runV (k := 172) (N := 7) (T := T5) (As := [.ref (b + ((M.1 0 4).toNat)), .ref (b + 47), .ref (b + 52), .ref (b + 189)]) F hS (show 172 < 191 by decide) (show shK 172 = 9 from rfl) rfl (c_Notes_findFits l F.2.2.1 M ((M.1 0 4).toNat) 47 52 189 h5 (by decide : isScene 47) (by decide : isScene 52) (by decide : isTrail 189) _ hq6) gs_WF_381 hd_Notes_findFits ⟨Nat.le_of_ble_eq_true rfl, Nat.le_of_ble_eq_true rfl⟩ rfl hl.1 (Nat.le_of_ble_eq_true rfl) ⟨Nat.zero_le _, Nat.zero_le _⟩ rfl d_WF_may_33) (fun H locs hS => ?_)
    refine lv_aload_n F.hx F.hb d_WF_may_36 rfl (lv_at hl 0 rfl) ?_
    refine r_get (v := .ref (b + 172)) (N := 19) (T := T0) (j := 15) F hS (show 0 < 191 by decide) (show shK 0 = 4 from rfl) (show shN 0 = 19 from rfl) rfl (Nat.le_of_ble_eq_true rfl) ing0 mw_565 (fv_sg rfl rfl rfl) d_WF_may_37 ?_
    refine r_get (v := .ref (b + 176)) (N := 7) (T := T5) (j := 3) F hS (show 172 < 191 by decide) (show shK 172 = 9 from rfl) (show shN 172 = 7 from rfl) rfl (Nat.le_of_ble_eq_true rfl) ing5 mw_368 (fv_sg rfl rfl rfl) d_WF_may_40 ?_
    refine lv_iload_n F.hx F.hb d_WF_may_43 rfl (lv_at hl 1 rfl) ?_
    obtain ⟨q8, hq8⟩ : ∃ q, q = (t_WF_look q6 176 4 x1) := ⟨_, rfl⟩
    replace hT := qlet_eq hT hq8
    refine r_backI F hS (r_runS (As := [.ref (b + 176), vI x1]) F hS (c_WF_look l F.2.2.1 q6 176 4 x1 (show arrP 0 176 4 191 from ⟨rfl, rfl, by decide⟩) hx1 _ hq8.symm) gs_WF_204 hd_WF_look ⟨Nat.le_of_ble_eq_true rfl, Nat.le_of_ble_eq_true rfl⟩ rfl hl.1 (Nat.le_of_ble_eq_true rfl) ⟨Nat.zero_le _, Nat.zero_le _⟩ rfl d_WF_may_44) (fun H locs hS h9 => ?_)
    cases hT
    exact r_iret F hlk hr rfl hS h9 d_WF_may_47
  · replace hT := (if_pos c4).symm.trans hT
    refine r_iconst F.hx F.hb d_WF_may_11 ?_
    cases hT
    exact r_iret F hlk hr rfl hS (inr_c rfl) d_WF_may_12
theorem d_Chronicle_number_0 : decode b_Chronicle_number 0 = .ok (.aload_n 0, 1) := dc_42 (by decide +kernel)
theorem d_Chronicle_number_1 : decode b_Chronicle_number 1 = .ok (.aload_n 0, 1) := dc_42 (by decide +kernel)
theorem d_Chronicle_number_2 : decode b_Chronicle_number 2 = .ok (.getfield 33, 3) := dc_180 (by decide +kernel)
theorem d_Chronicle_number_5 : decode b_Chronicle_number 5 = .ok (.ldc2_w 62, 3) := dc_20 (by decide +kernel)
theorem d_Chronicle_number_8 : decode b_Chronicle_number 8 = .ok (.lmul, 1) := dc_105 (by decide +kernel)
theorem d_Chronicle_number_9 : decode b_Chronicle_number 9 = .ok (.ldc2_w 64, 3) := dc_20 (by decide +kernel)
theorem d_Chronicle_number_12 : decode b_Chronicle_number 12 = .ok (.ladd, 1) := dc_97 (by decide +kernel)
theorem d_Chronicle_number_13 : decode b_Chronicle_number 13 = .ok (.ldc2_w 66, 3) := dc_20 (by decide +kernel)
theorem d_Chronicle_number_16 : decode b_Chronicle_number 16 = .ok (.land, 1) := dc_127 (by decide +kernel)
theorem d_Chronicle_number_17 : decode b_Chronicle_number 17 = .ok (.putfield 33, 3) := dc_181 (by decide +kernel)
theorem d_Chronicle_number_20 : decode b_Chronicle_number 20 = .ok (.aload_n 0, 1) := dc_42 (by decide +kernel)
theorem d_Chronicle_number_21 : decode b_Chronicle_number 21 = .ok (.getfield 33, 3) := dc_180 (by decide +kernel)
theorem d_Chronicle_number_24 : decode b_Chronicle_number 24 = .ok (.bipush 16, 2) := dc_16 (by decide +kernel)
theorem d_Chronicle_number_26 : decode b_Chronicle_number 26 = .ok (.lushr, 1) := dc_125 (by decide +kernel)
theorem d_Chronicle_number_27 : decode b_Chronicle_number 27 = .ok (.l2i, 1) := dc_136 (by decide +kernel)
theorem d_Chronicle_number_28 : decode b_Chronicle_number 28 = .ok (.ireturn, 1) := dc_172 (by decide +kernel)
def t_Chronicle_number (M : Mem) (k0 : Nat) : Mem × Int := (qlet (setL M k0 5 ((((M.2 k0 5) * 1103515245) + 12345) &&& 2147483647)) fun M1 => (M1, (q_l2i (q_lushr (M1.2 k0 5) 16))))
set_option maxHeartbeats 4000000 in
set_option maxRecDepth 100000 in
theorem c_Chronicle_number (l : Launch) {b n : Nat} {C : CT} (hlo : 191 ≤ n) (M : Mem) (k0 : Nat) (hk0 : isChronicle k0) (res : Mem × Int) (hT : t_Chronicle_number M k0 = res) : CM l b C n 0 y_Chronicle_number b_Chronicle_number 1 (some .int) [.ref (b + k0)] M (QI b C n res.1 res.2) := by
  refine CM.of (lo := 191) (ow := "WardFalls$Chronicle") (by decide) rfl (Nat.le_of_ble_eq_true rfl) hlo (fun p e s m below meth c F hlk hr hS ls hl => ?_)
  have hl : lv_has ls 1 [(0, .ref (b + k0))] := hl
  unfold t_Chronicle_number at hT
  refine lv_aload_n F.hx F.hb d_Chronicle_number_0 rfl (lv_at hl 0 rfl) ?_
  refine lv_aload_n F.hx F.hb d_Chronicle_number_1 rfl (lv_at hl 0 rfl) ?_
  refine r_get (v := .long (M.2 k0 5)) (N := 6) (T := T2) (j := 5) F hS (Chronicle_lt hk0) (Chronicle_sh hk0) (Chronicle_N hk0) rfl (Nat.le_of_ble_eq_true rfl) ing2 mw_324 (fv_long rfl) d_Chronicle_number_2 ?_
  refine lv_ldc2 (v := 1103515245) F.hx F.hb F.hown (F.hts mw_1240) d_Chronicle_number_5 ?_
  refine lv_lmul F.hx F.hb d_Chronicle_number_8 ?_
  refine lv_ldc2 (v := 12345) F.hx F.hb F.hown (F.hts mw_1241) d_Chronicle_number_9 ?_
  refine lv_ladd F.hx F.hb d_Chronicle_number_12 ?_
  refine lv_ldc2 (v := 2147483647) F.hx F.hb F.hown (F.hts mw_1242) d_Chronicle_number_13 ?_
  refine lv_land F.hx F.hb d_Chronicle_number_16 ?_
  refine r_putL (N := 6) (T := T2) (j := 5) F hS (Chronicle_lt hk0) (Chronicle_sh hk0) (Chronicle_N hk0) rfl (Nat.le_of_ble_eq_true rfl) ing2 tyok2 nm2 rfl rfl rfl mw_324 d_Chronicle_number_17 (fun H locs hS => ?_)
  obtain ⟨M1, eM1⟩ : ∃ q, q = (setL M k0 5 ((((M.2 k0 5) * 1103515245) + 12345) &&& 2147483647)) := ⟨_, rfl⟩
  replace hS : St b C n M1 s H locs := by rw [eM1]; exact hS
  replace hT := qlet_eq hT eM1
  refine lv_aload_n F.hx F.hb d_Chronicle_number_20 rfl (lv_at hl 0 rfl) ?_
  refine r_get (v := .long (M1.2 k0 5)) (N := 6) (T := T2) (j := 5) F hS (Chronicle_lt hk0) (Chronicle_sh hk0) (Chronicle_N hk0) rfl (Nat.le_of_ble_eq_true rfl) ing2 mw_324 (fv_long rfl) d_Chronicle_number_21 ?_
  refine r_bipush F.hx F.hb d_Chronicle_number_24 rfl ?_
  refine r_lushr F.hx F.hb d_Chronicle_number_26 ?_
  refine r_l2i F.hx F.hb d_Chronicle_number_27 ?_
  subst hT
  exact r_iret F hlk hr rfl hS (q_inr_toInt _) d_Chronicle_number_28
theorem d_Chronicle_goOn_0 : decode b_Chronicle_goOn 0 = .ok (.bipush (-2), 2) := dc_16 (by decide +kernel)
theorem d_Chronicle_goOn_2 : decode b_Chronicle_goOn 2 = .ok (.istore_n 3, 1) := dc_62 (by decide +kernel)
theorem d_Chronicle_goOn_3 : decode b_Chronicle_goOn 3 = .ok (.bipush (-2), 2) := dc_16 (by decide +kernel)
theorem d_Chronicle_goOn_5 : decode b_Chronicle_goOn 5 = .ok (.istore 4, 2) := dc_54 (by decide +kernel)
theorem d_Chronicle_goOn_7 : decode b_Chronicle_goOn 7 = .ok (.bipush (-2), 2) := dc_16 (by decide +kernel)
theorem d_Chronicle_goOn_9 : decode b_Chronicle_goOn 9 = .ok (.istore 5, 2) := dc_54 (by decide +kernel)
theorem d_Chronicle_goOn_11 : decode b_Chronicle_goOn 11 = .ok (.aload_n 1, 1) := dc_43 (by decide +kernel)
theorem d_Chronicle_goOn_12 : decode b_Chronicle_goOn 12 = .ok (.getfield 41, 3) := dc_180 (by decide +kernel)
theorem d_Chronicle_goOn_15 : decode b_Chronicle_goOn 15 = .ok (.ifCond .le 46, 3) := dc_158 (by decide +kernel)
theorem d_Chronicle_goOn_18 : decode b_Chronicle_goOn 18 = .ok (.aload_n 0, 1) := dc_42 (by decide +kernel)
theorem d_Chronicle_goOn_19 : decode b_Chronicle_goOn 19 = .ok (.invokevirtual 43, 3) := dc_182 (by decide +kernel)
theorem d_Chronicle_goOn_22 : decode b_Chronicle_goOn 22 = .ok (.aload_n 1, 1) := dc_43 (by decide +kernel)
theorem d_Chronicle_goOn_23 : decode b_Chronicle_goOn 23 = .ok (.getfield 41, 3) := dc_180 (by decide +kernel)
theorem d_Chronicle_goOn_26 : decode b_Chronicle_goOn 26 = .ok (.irem, 1) := dc_112 (by decide +kernel)
theorem d_Chronicle_goOn_27 : decode b_Chronicle_goOn 27 = .ok (.istore_n 3, 1) := dc_62 (by decide +kernel)
theorem d_Chronicle_goOn_28 : decode b_Chronicle_goOn 28 = .ok (.aload_n 0, 1) := dc_42 (by decide +kernel)
theorem d_Chronicle_goOn_29 : decode b_Chronicle_goOn 29 = .ok (.invokevirtual 43, 3) := dc_182 (by decide +kernel)
theorem d_Chronicle_goOn_32 : decode b_Chronicle_goOn 32 = .ok (.iconst 4, 1) := dc_7 (by decide +kernel)
theorem d_Chronicle_goOn_33 : decode b_Chronicle_goOn 33 = .ok (.irem, 1) := dc_112 (by decide +kernel)
theorem d_Chronicle_goOn_34 : decode b_Chronicle_goOn 34 = .ok (.istore 4, 2) := dc_54 (by decide +kernel)
theorem d_Chronicle_goOn_36 : decode b_Chronicle_goOn 36 = .ok (.aload_n 2, 1) := dc_44 (by decide +kernel)
theorem d_Chronicle_goOn_37 : decode b_Chronicle_goOn 37 = .ok (.getfield 47, 3) := dc_180 (by decide +kernel)
theorem d_Chronicle_goOn_40 : decode b_Chronicle_goOn 40 = .ok (.iload_n 3, 1) := dc_29 (by decide +kernel)
theorem d_Chronicle_goOn_41 : decode b_Chronicle_goOn 41 = .ok (.invokestatic 50, 3) := dc_184 (by decide +kernel)
theorem d_Chronicle_goOn_44 : decode b_Chronicle_goOn 44 = .ok (.istore 5, 2) := dc_54 (by decide +kernel)
theorem d_Chronicle_goOn_46 : decode b_Chronicle_goOn 46 = .ok (.aload_n 2, 1) := dc_44 (by decide +kernel)
theorem d_Chronicle_goOn_47 : decode b_Chronicle_goOn 47 = .ok (.getfield 47, 3) := dc_180 (by decide +kernel)
theorem d_Chronicle_goOn_50 : decode b_Chronicle_goOn 50 = .ok (.iload_n 3, 1) := dc_29 (by decide +kernel)
theorem d_Chronicle_goOn_51 : decode b_Chronicle_goOn 51 = .ok (.iload 4, 2) := dc_21 (by decide +kernel)
theorem d_Chronicle_goOn_53 : decode b_Chronicle_goOn 53 = .ok (.invokestatic 54, 3) := dc_184 (by decide +kernel)
theorem d_Chronicle_goOn_56 : decode b_Chronicle_goOn 56 = .ok (.aload_n 2, 1) := dc_44 (by decide +kernel)
theorem d_Chronicle_goOn_57 : decode b_Chronicle_goOn 57 = .ok (.aload_n 1, 1) := dc_43 (by decide +kernel)
theorem d_Chronicle_goOn_58 : decode b_Chronicle_goOn 58 = .ok (.invokevirtual 58, 3) := dc_182 (by decide +kernel)
theorem d_Chronicle_goOn_61 : decode b_Chronicle_goOn 61 = .ok (.aload_n 0, 1) := dc_42 (by decide +kernel)
theorem d_Chronicle_goOn_62 : decode b_Chronicle_goOn 62 = .ok (.getfield 9, 3) := dc_180 (by decide +kernel)
theorem d_Chronicle_goOn_65 : decode b_Chronicle_goOn 65 = .ok (.aload_n 0, 1) := dc_42 (by decide +kernel)
theorem d_Chronicle_goOn_66 : decode b_Chronicle_goOn 66 = .ok (.getfield 21, 3) := dc_180 (by decide +kernel)
theorem d_Chronicle_goOn_69 : decode b_Chronicle_goOn 69 = .ok (.iload_n 3, 1) := dc_29 (by decide +kernel)
theorem d_Chronicle_goOn_70 : decode b_Chronicle_goOn 70 = .ok (.invokestatic 54, 3) := dc_184 (by decide +kernel)
theorem d_Chronicle_goOn_73 : decode b_Chronicle_goOn 73 = .ok (.aload_n 0, 1) := dc_42 (by decide +kernel)
theorem d_Chronicle_goOn_74 : decode b_Chronicle_goOn 74 = .ok (.getfield 15, 3) := dc_180 (by decide +kernel)
theorem d_Chronicle_goOn_77 : decode b_Chronicle_goOn 77 = .ok (.aload_n 0, 1) := dc_42 (by decide +kernel)
theorem d_Chronicle_goOn_78 : decode b_Chronicle_goOn 78 = .ok (.getfield 21, 3) := dc_180 (by decide +kernel)
theorem d_Chronicle_goOn_81 : decode b_Chronicle_goOn 81 = .ok (.iload 4, 2) := dc_21 (by decide +kernel)
theorem d_Chronicle_goOn_83 : decode b_Chronicle_goOn 83 = .ok (.invokestatic 54, 3) := dc_184 (by decide +kernel)
theorem d_Chronicle_goOn_86 : decode b_Chronicle_goOn 86 = .ok (.aload_n 0, 1) := dc_42 (by decide +kernel)
theorem d_Chronicle_goOn_87 : decode b_Chronicle_goOn 87 = .ok (.getfield 18, 3) := dc_180 (by decide +kernel)
theorem d_Chronicle_goOn_90 : decode b_Chronicle_goOn 90 = .ok (.aload_n 0, 1) := dc_42 (by decide +kernel)
theorem d_Chronicle_goOn_91 : decode b_Chronicle_goOn 91 = .ok (.getfield 21, 3) := dc_180 (by decide +kernel)
theorem d_Chronicle_goOn_94 : decode b_Chronicle_goOn 94 = .ok (.iload 5, 2) := dc_21 (by decide +kernel)
theorem d_Chronicle_goOn_96 : decode b_Chronicle_goOn 96 = .ok (.invokestatic 54, 3) := dc_184 (by decide +kernel)
theorem d_Chronicle_goOn_99 : decode b_Chronicle_goOn 99 = .ok (.aload_n 0, 1) := dc_42 (by decide +kernel)
theorem d_Chronicle_goOn_100 : decode b_Chronicle_goOn 100 = .ok (.dup, 1) := dc_89 (by decide +kernel)
theorem d_Chronicle_goOn_101 : decode b_Chronicle_goOn 101 = .ok (.getfield 21, 3) := dc_180 (by decide +kernel)
theorem d_Chronicle_goOn_104 : decode b_Chronicle_goOn 104 = .ok (.iconst 1, 1) := dc_4 (by decide +kernel)
theorem d_Chronicle_goOn_105 : decode b_Chronicle_goOn 105 = .ok (.iadd, 1) := dc_96 (by decide +kernel)
theorem d_Chronicle_goOn_106 : decode b_Chronicle_goOn 106 = .ok (.putfield 21, 3) := dc_181 (by decide +kernel)
theorem d_Chronicle_goOn_109 : decode b_Chronicle_goOn 109 = .ok (.return_, 1) := dc_177 (by decide +kernel)
def t_Chronicle_goOn_L61 (k0 : Nat) (k1 : Nat) (k2 : Nat)  (M : Mem) (v1_ : Int) (v2_ : Int) (v3_ : Int) : Option (Mem) := (qlet (t_WF_put M (k0 + 1) 99 (M.1 k0 3) v1_) fun q16 => (qlet (t_WF_put q16 (k0 + 2) 99 (q16.1 k0 3) v2_) fun q19 => (qlet (t_WF_put q19 (k0 + 3) 99 (q19.1 k0 3) v3_) fun q22 => (qlet (setI q22 k0 3 (w32 ((q22.1 k0 3) + 1))) fun M25 => (some M25)))))
def t_Chronicle_goOn (M : Mem) (k0 : Nat) (k1 : Nat) (k2 : Nat) : Option (Mem) := (if (M.1 k1 14) ≤ 0 then (t_Chronicle_goOn_L61 k0 k1 k2 M (-2) (-2) (-2)) else (qlet (t_Chronicle_number M k0) fun q3 => (if ((q3.1).1 k1 14) = 0 then none else (qlet (t_Chronicle_number (q3.1) k0) fun q7 => (qlet (t_WF_look (q7.1) (k2 + 1) 4 (q_rem (q3.2) ((q3.1).1 k1 14))) fun q9 => (qlet (t_WF_put (q7.1) (k2 + 1) 4 (q_rem (q3.2) ((q3.1).1 k1 14)) (q_rem (q7.2) 4)) fun q11 => (obind (t_Scene_pourAnew q11 k2 k1) fun q13 => (t_Chronicle_goOn_L61 k0 k1 k2 q13 (q_rem (q3.2) ((q3.1).1 k1 14)) (q_rem (q7.2) 4) q9))))))))
set_option maxHeartbeats 4000000 in
set_option maxRecDepth 100000 in
theorem k_Chronicle_goOn_L61 (l : Launch) {p : Program} {e : Env} {s : State} {m : MethodId} {below : List Frame} {meth : Method} {c : Code} {b n : Nat} {C : CT} (hlo : 191 ≤ n) (k0 : Nat) (k1 : Nat) (k2 : Nat) (hk0 : isChronicle k0) (hk1 : isTown k1) (hk2 : isScene k2) (F : Cx b p m c b_Chronicle_goOn 6 s ([.ref (b + k0), .ref (b + k1), .ref (b + k2)] : List Value).toArray "WardFalls$Chronicle" C n 191) (hlk : meth.locks = false) (hr : meth.sig.returnType = none) {res : Mem} (M : Mem) (v1_ : Int) (hv1_ : InR v1_) (v2_ : Int) (hv2_ : InR v2_) (v3_ : Int) (hv3_ : InR v3_) (H : Heap) (locs : List Loc) (ls : Array Slot) (hS : St b C n M s H locs) (hl : lv_has ls 6 [(0, .ref (b + k0)), (3, vI v1_), (4, vI v2_), (5, vI v3_)]) (hT : t_Chronicle_goOn_L61 k0 k1 k2 M v1_ v2_ v3_ = some res) : W p l e (headSpec (wsM y_Chronicle_goOn b_Chronicle_goOn 6 (none)) (rmD 5)).room s m ([.ref (b + k0), .ref (b + k1), .ref (b + k2)] : List Value).toArray below meth c H locs 0 0 (MQ below (QV b C n res) ([.ref (b + k0), .ref (b + k1), .ref (b + k2)] : List Value).toArray s 0 0 (frb b)) (F0 m 61 ls []) := by
  unfold t_Chronicle_goOn_L61 at hT
  refine lv_aload_n F.hx F.hb d_Chronicle_goOn_61 rfl (lv_at hl 0 rfl) ?_
  refine r_get (v := .ref (b + (k0 + 1))) (N := 6) (T := T2) (j := 0) F hS (Chronicle_lt hk0) (Chronicle_sh hk0) (Chronicle_N hk0) rfl (Nat.le_of_ble_eq_true rfl) ing2 mw_314 (Chronicle_g0 hk0 _) d_Chronicle_goOn_62 ?_
  refine lv_aload_n F.hx F.hb d_Chronicle_goOn_65 rfl (lv_at hl 0 rfl) ?_
  refine r_get (v := vI (M.1 k0 3)) (N := 6) (T := T2) (j := 3) F hS (Chronicle_lt hk0) (Chronicle_sh hk0) (Chronicle_N hk0) rfl (Nat.le_of_ble_eq_true rfl) ing2 mw_320 (fv_int rfl) d_Chronicle_goOn_66 ?_
  have i15 := hS.rng k0 3
  refine lv_iload_n F.hx F.hb d_Chronicle_goOn_69 rfl (lv_at hl 1 rfl) ?_
  obtain ⟨q16, hq16⟩ : ∃ q, q = (t_WF_put M (k0 + 1) 99 (M.1 k0 3) v1_) := ⟨_, rfl⟩
  replace hT := qlet_eq hT hq16
  refine r_backV F hS (r_runSN (As := [.ref (b + (k0 + 1)), vI (M.1 k0 3), vI v1_]) F hS (c_WF_put l F.2.2.1 M (k0 + 1) 99 (M.1 k0 3) v1_ (Chronicle_f0 hk0) i15 hv1_ _ hq16.symm) mw_512 mw_511 mw_1 gs_Chronicle_54 hd_WF_put ⟨Nat.le_of_ble_eq_true rfl, Nat.le_of_ble_eq_true rfl⟩ rfl hl.1 (Nat.le_of_ble_eq_true rfl) ⟨Nat.zero_le _, Nat.zero_le _⟩ rfl d_Chronicle_goOn_70) (fun H locs hS => ?_)
  refine lv_aload_n F.hx F.hb d_Chronicle_goOn_73 rfl (lv_at hl 0 rfl) ?_
  refine r_get (v := .ref (b + (k0 + 2))) (N := 6) (T := T2) (j := 1) F hS (Chronicle_lt hk0) (Chronicle_sh hk0) (Chronicle_N hk0) rfl (Nat.le_of_ble_eq_true rfl) ing2 mw_316 (Chronicle_g1 hk0 _) d_Chronicle_goOn_74 ?_
  refine lv_aload_n F.hx F.hb d_Chronicle_goOn_77 rfl (lv_at hl 0 rfl) ?_
  refine r_get (v := vI (q16.1 k0 3)) (N := 6) (T := T2) (j := 3) F hS (Chronicle_lt hk0) (Chronicle_sh hk0) (Chronicle_N hk0) rfl (Nat.le_of_ble_eq_true rfl) ing2 mw_320 (fv_int rfl) d_Chronicle_goOn_78 ?_
  have i18 := hS.rng k0 3
  refine lv_iload F.hx F.hb d_Chronicle_goOn_81 (lv_at hl 2 rfl) ?_
  obtain ⟨q19, hq19⟩ : ∃ q, q = (t_WF_put q16 (k0 + 2) 99 (q16.1 k0 3) v2_) := ⟨_, rfl⟩
  replace hT := qlet_eq hT hq19
  refine r_backV F hS (r_runSN (As := [.ref (b + (k0 + 2)), vI (q16.1 k0 3), vI v2_]) F hS (c_WF_put l F.2.2.1 q16 (k0 + 2) 99 (q16.1 k0 3) v2_ (Chronicle_f1 hk0) i18 hv2_ _ hq19.symm) mw_512 mw_511 mw_1 gs_Chronicle_54 hd_WF_put ⟨Nat.le_of_ble_eq_true rfl, Nat.le_of_ble_eq_true rfl⟩ rfl hl.1 (Nat.le_of_ble_eq_true rfl) ⟨Nat.zero_le _, Nat.zero_le _⟩ rfl d_Chronicle_goOn_83) (fun H locs hS => ?_)
  refine lv_aload_n F.hx F.hb d_Chronicle_goOn_86 rfl (lv_at hl 0 rfl) ?_
  refine r_get (v := .ref (b + (k0 + 3))) (N := 6) (T := T2) (j := 2) F hS (Chronicle_lt hk0) (Chronicle_sh hk0) (Chronicle_N hk0) rfl (Nat.le_of_ble_eq_true rfl) ing2 mw_318 (Chronicle_g2 hk0 _) d_Chronicle_goOn_87 ?_
  refine lv_aload_n F.hx F.hb d_Chronicle_goOn_90 rfl (lv_at hl 0 rfl) ?_
  refine r_get (v := vI (q19.1 k0 3)) (N := 6) (T := T2) (j := 3) F hS (Chronicle_lt hk0) (Chronicle_sh hk0) (Chronicle_N hk0) rfl (Nat.le_of_ble_eq_true rfl) ing2 mw_320 (fv_int rfl) d_Chronicle_goOn_91 ?_
  have i21 := hS.rng k0 3
  refine lv_iload F.hx F.hb d_Chronicle_goOn_94 (lv_at hl 3 rfl) ?_
  obtain ⟨q22, hq22⟩ : ∃ q, q = (t_WF_put q19 (k0 + 3) 99 (q19.1 k0 3) v3_) := ⟨_, rfl⟩
  replace hT := qlet_eq hT hq22
  refine r_backV F hS (r_runSN (As := [.ref (b + (k0 + 3)), vI (q19.1 k0 3), vI v3_]) F hS (c_WF_put l F.2.2.1 q19 (k0 + 3) 99 (q19.1 k0 3) v3_ (Chronicle_f2 hk0) i21 hv3_ _ hq22.symm) mw_512 mw_511 mw_1 gs_Chronicle_54 hd_WF_put ⟨Nat.le_of_ble_eq_true rfl, Nat.le_of_ble_eq_true rfl⟩ rfl hl.1 (Nat.le_of_ble_eq_true rfl) ⟨Nat.zero_le _, Nat.zero_le _⟩ rfl d_Chronicle_goOn_96) (fun H locs hS => ?_)
  refine lv_aload_n F.hx F.hb d_Chronicle_goOn_99 rfl (lv_at hl 0 rfl) ?_
  refine lv_dup F.hx F.hb d_Chronicle_goOn_100 rfl ?_
  refine r_get (v := vI (q22.1 k0 3)) (N := 6) (T := T2) (j := 3) F hS (Chronicle_lt hk0) (Chronicle_sh hk0) (Chronicle_N hk0) rfl (Nat.le_of_ble_eq_true rfl) ing2 mw_320 (fv_int rfl) d_Chronicle_goOn_101 ?_
  have i24 := hS.rng k0 3
  refine r_iconst F.hx F.hb d_Chronicle_goOn_104 ?_
  refine r_iadd F.hx F.hb d_Chronicle_goOn_105 ?_
  refine r_putI (N := 6) (T := T2) (j := 3) F hS (Chronicle_lt hk0) (Chronicle_sh hk0) (Chronicle_N hk0) rfl (Nat.le_of_ble_eq_true rfl) ing2 tyok2 nm2 rfl rfl rfl rfl rfl (Chronicle_dyn hk0 _) mw_320 (inr_w32 _) d_Chronicle_goOn_106 (fun H locs hS => ?_)
  obtain ⟨M25, eM25⟩ : ∃ q, q = (setI q22 k0 3 (w32 ((q22.1 k0 3) + 1))) := ⟨_, rfl⟩
  replace hS : St b C n M25 s H locs := by rw [eM25]; exact hS
  replace hT := qlet_eq hT eM25
  cases hT
  exact r_vret F hlk hr hS d_Chronicle_goOn_109
set_option maxHeartbeats 4000000 in
set_option maxRecDepth 100000 in
theorem c_Chronicle_goOn (l : Launch) {b n : Nat} {C : CT} (hlo : 191 ≤ n) (M : Mem) (k0 : Nat) (k1 : Nat) (k2 : Nat) (hk0 : isChronicle k0) (hk1 : isTown k1) (hk2 : isScene k2) (res : Mem) (hT : t_Chronicle_goOn M k0 k1 k2 = some res) : CM l b C n 5 y_Chronicle_goOn b_Chronicle_goOn 6 (none) [.ref (b + k0), .ref (b + k1), .ref (b + k2)] M (QV b C n res) := by
  refine CM.of (lo := 191) (ow := "WardFalls$Chronicle") (by decide) rfl (Nat.le_of_ble_eq_true rfl) hlo (fun p e s m below meth c F hlk hr hS ls hl => ?_)
  have hl : lv_has ls 6 [(0, .ref (b + k0)), (1, .ref (b + k1)), (2, .ref (b + k2))] := hl
  unfold t_Chronicle_goOn at hT
  refine r_bipush F.hx F.hb d_Chronicle_goOn_0 rfl ?_
  refine lv_istore_n (lv' := [(3, vI (-2)), (0, .ref (b + k0)), (1, .ref (b + k1)), (2, .ref (b + k2))]) F.hx F.hb d_Chronicle_goOn_2 rfl hl (Nat.le_of_ble_eq_true rfl) rfl (fun ls hl => ?_)
  refine r_bipush F.hx F.hb d_Chronicle_goOn_3 rfl ?_
  refine lv_istore (lv' := [(4, vI (-2)), (3, vI (-2)), (0, .ref (b + k0)), (1, .ref (b + k1)), (2, .ref (b + k2))]) F.hx F.hb d_Chronicle_goOn_5 hl (Nat.le_of_ble_eq_true rfl) rfl (fun ls hl => ?_)
  refine r_bipush F.hx F.hb d_Chronicle_goOn_7 rfl ?_
  refine lv_istore (lv' := [(5, vI (-2)), (4, vI (-2)), (3, vI (-2)), (0, .ref (b + k0)), (1, .ref (b + k1)), (2, .ref (b + k2))]) F.hx F.hb d_Chronicle_goOn_9 hl (Nat.le_of_ble_eq_true rfl) rfl (fun ls hl => ?_)
  refine lv_aload_n F.hx F.hb d_Chronicle_goOn_11 rfl (lv_at hl 4 rfl) ?_
  refine r_get (v := vI (M.1 k1 14)) (N := 20) (T := T11) (j := 14) F hS (Town_lt hk1) (Town_sh hk1) (Town_N hk1) rfl (Nat.le_of_ble_eq_true rfl) ing11 mw_134 (fv_int rfl) d_Chronicle_goOn_12 ?_
  have i1 := hS.rng k1 14
  refine r_if_le (tgt := 61) F.hx F.hb i1 d_Chronicle_goOn_15 (by decide) (fun c2 => ?_) (fun c2 => ?_)
  · replace hT := (if_pos c2).symm.trans hT
    exact k_Chronicle_goOn_L61 l hlo k0 k1 k2 hk0 hk1 hk2 F hlk hr M (-2) (inr_c rfl) (-2) (inr_c rfl) (-2) (inr_c rfl) _ _ _ hS (lv_sub hl [3, 2, 1, 0] rfl) hT
  · replace hT := (if_neg c2).symm.trans hT
    refine lv_aload_n F.hx F.hb d_Chronicle_goOn_18 rfl (lv_at hl 3 rfl) ?_
    obtain ⟨q3, hq3⟩ : ∃ q, q = (t_Chronicle_number M k0) := ⟨_, rfl⟩
    replace hT := qlet_eq hT hq3
    refine r_backI F hS (r_runV (k := k0) (N := 6) (T := T2) (As := []) F hS (Chronicle_lt hk0) (Chronicle_sh hk0) rfl (c_Chronicle_number l F.2.2.1 M k0 hk0 _ hq3.symm) gs_Chronicle_43 hd_Chronicle_number ⟨Nat.le_of_ble_eq_true rfl, Nat.le_of_ble_eq_true rfl⟩ rfl hl.1 (Nat.le_of_ble_eq_true rfl) ⟨Nat.zero_le _, Nat.zero_le _⟩ rfl d_Chronicle_goOn_19) (fun H locs hS h4 => ?_)
    refine lv_aload_n F.hx F.hb d_Chronicle_goOn_22 rfl (lv_at hl 4 rfl) ?_
    refine r_get (v := vI ((q3.1).1 k1 14)) (N := 20) (T := T11) (j := 14) F hS (Town_lt hk1) (Town_sh hk1) (Town_N hk1) rfl (Nat.le_of_ble_eq_true rfl) ing11 mw_134 (fv_int rfl) d_Chronicle_goOn_23 ?_
    have i5 := hS.rng k1 14
    obtain ⟨c6, hT⟩ := q_guardn hT
    refine r_irem F.hx F.hb i5 c6 d_Chronicle_goOn_26 ?_
    refine lv_istore_n (lv' := [(3, vI (q_rem (q3.2) ((q3.1).1 k1 14))), (5, vI (-2)), (4, vI (-2)), (0, .ref (b + k0)), (1, .ref (b + k1)), (2, .ref (b + k2))]) F.hx F.hb d_Chronicle_goOn_27 rfl hl (Nat.le_of_ble_eq_true rfl) rfl (fun ls hl => ?_)
    refine lv_aload_n F.hx F.hb d_Chronicle_goOn_28 rfl (lv_at hl 3 rfl) ?_
    obtain ⟨q7, hq7⟩ : ∃ q, q = (t_Chronicle_number (q3.1) k0) := ⟨_, rfl⟩
    replace hT := qlet_eq hT hq7
    refine r_backI F hS (r_runV (k := k0) (N := 6) (T := T2) (As := []) F hS (Chronicle_lt hk0) (Chronicle_sh hk0) rfl (c_Chronicle_number l F.2.2.1 (q3.1) k0 hk0 _ hq7.symm) gs_Chronicle_43 hd_Chronicle_number ⟨Nat.le_of_ble_eq_true rfl, Nat.le_of_ble_eq_true rfl⟩ rfl hl.1 (Nat.le_of_ble_eq_true rfl) ⟨Nat.zero_le _, Nat.zero_le _⟩ rfl d_Chronicle_goOn_29) (fun H locs hS h8 => ?_)
    refine r_iconst F.hx F.hb d_Chronicle_goOn_32 ?_
    refine r_irem F.hx F.hb (inr_c rfl) (by decide) d_Chronicle_goOn_33 ?_
    refine lv_istore (lv' := [(4, vI (q_rem (q7.2) 4)), (3, vI (q_rem (q3.2) ((q3.1).1 k1 14))), (5, vI (-2)), (0, .ref (b + k0)), (1, .ref (b + k1)), (2, .ref (b + k2))]) F.hx F.hb d_Chronicle_goOn_34 hl (Nat.le_of_ble_eq_true rfl) rfl (fun ls hl => ?_)
    refine lv_aload_n F.hx F.hb d_Chronicle_goOn_36 rfl (lv_at hl 5 rfl) ?_
    refine r_get (v := .ref (b + (k2 + 1))) (N := 7) (T := T9) (j := 0) F hS (Scene_lt hk2) (Scene_sh hk2) (Scene_N hk2) rfl (Nat.le_of_ble_eq_true rfl) ing9 mw_273 (Scene_g0 hk2 _) d_Chronicle_goOn_37 ?_
    refine lv_iload_n F.hx F.hb d_Chronicle_goOn_40 rfl (lv_at hl 1 rfl) ?_
    obtain ⟨q9, hq9⟩ : ∃ q, q = (t_WF_look (q7.1) (k2 + 1) 4 (q_rem (q3.2) ((q3.1).1 k1 14))) := ⟨_, rfl⟩
    replace hT := qlet_eq hT hq9
    refine r_backI F hS (r_runSN (As := [.ref (b + (k2 + 1)), vI (q_rem (q3.2) ((q3.1).1 k1 14))]) F hS (c_WF_look l F.2.2.1 (q7.1) (k2 + 1) 4 (q_rem (q3.2) ((q3.1).1 k1 14)) (Scene_f0 hk2) (q_inr_toInt _) _ hq9.symm) mw_519 mw_518 mw_1 gs_Chronicle_50 hd_WF_look ⟨Nat.le_of_ble_eq_true rfl, Nat.le_of_ble_eq_true rfl⟩ rfl hl.1 (Nat.le_of_ble_eq_true rfl) ⟨Nat.zero_le _, Nat.zero_le _⟩ rfl d_Chronicle_goOn_41) (fun H locs hS h10 => ?_)
    refine lv_istore (lv' := [(5, vI q9), (4, vI (q_rem (q7.2) 4)), (3, vI (q_rem (q3.2) ((q3.1).1 k1 14))), (0, .ref (b + k0)), (1, .ref (b + k1)), (2, .ref (b + k2))]) F.hx F.hb d_Chronicle_goOn_44 hl (Nat.le_of_ble_eq_true rfl) rfl (fun ls hl => ?_)
    refine lv_aload_n F.hx F.hb d_Chronicle_goOn_46 rfl (lv_at hl 5 rfl) ?_
    refine r_get (v := .ref (b + (k2 + 1))) (N := 7) (T := T9) (j := 0) F hS (Scene_lt hk2) (Scene_sh hk2) (Scene_N hk2) rfl (Nat.le_of_ble_eq_true rfl) ing9 mw_273 (Scene_g0 hk2 _) d_Chronicle_goOn_47 ?_
    refine lv_iload_n F.hx F.hb d_Chronicle_goOn_50 rfl (lv_at hl 2 rfl) ?_
    refine lv_iload F.hx F.hb d_Chronicle_goOn_51 (lv_at hl 1 rfl) ?_
    obtain ⟨q11, hq11⟩ : ∃ q, q = (t_WF_put (q7.1) (k2 + 1) 4 (q_rem (q3.2) ((q3.1).1 k1 14)) (q_rem (q7.2) 4)) := ⟨_, rfl⟩
    replace hT := qlet_eq hT hq11
    refine r_backV F hS (r_runSN (As := [.ref (b + (k2 + 1)), vI (q_rem (q3.2) ((q3.1).1 k1 14)), vI (q_rem (q7.2) 4)]) F hS (c_WF_put l F.2.2.1 (q7.1) (k2 + 1) 4 (q_rem (q3.2) ((q3.1).1 k1 14)) (q_rem (q7.2) 4) (Scene_f0 hk2) (q_inr_toInt _) (q_inr_toInt _) _ hq11.symm) mw_512 mw_511 mw_1 gs_Chronicle_54 hd_WF_put ⟨Nat.le_of_ble_eq_true rfl, Nat.le_of_ble_eq_true rfl⟩ rfl hl.1 (Nat.le_of_ble_eq_true rfl) ⟨Nat.zero_le _, Nat.zero_le _⟩ rfl d_Chronicle_goOn_53) (fun H locs hS => ?_)
    refine lv_aload_n F.hx F.hb d_Chronicle_goOn_56 rfl (lv_at hl 5 rfl) ?_
    refine lv_aload_n F.hx F.hb d_Chronicle_goOn_57 rfl (lv_at hl 4 rfl) ?_
    obtain ⟨q13, hq13, hT⟩ := q_obind hT
    refine r_backV F hS (r_runV (k := k2) (N := 7) (T := T9) (As := [.ref (b + k1)]) F hS (Scene_lt hk2) (Scene_sh hk2) rfl (c_Scene_pourAnew l F.2.2.1 q11 k2 k1 hk2 hk1 _ hq13) gs_Chronicle_58 hd_Scene_pourAnew ⟨Nat.le_of_ble_eq_true rfl, Nat.le_of_ble_eq_true rfl⟩ rfl hl.1 (Nat.le_of_ble_eq_true rfl) ⟨Nat.zero_le _, Nat.zero_le _⟩ rfl d_Chronicle_goOn_58) (fun H locs hS => ?_)
    exact k_Chronicle_goOn_L61 l hlo k0 k1 k2 hk0 hk1 hk2 F hlk hr q13 (q_rem (q3.2) ((q3.1).1 k1 14)) (q_inr_toInt _) (q_rem (q7.2) 4) (q_inr_toInt _) q9 h10 _ _ _ hS (lv_sub hl [3, 2, 1, 0] rfl) hT
theorem d_WF_years_0 : decode b_WF_years 0 = .ok (.iload_n 1, 1) := dc_27 (by decide +kernel)
theorem d_WF_years_1 : decode b_WF_years 1 = .ok (.ifCond .lt 23, 3) := dc_155 (by decide +kernel)
theorem d_WF_years_4 : decode b_WF_years 4 = .ok (.iload_n 1, 1) := dc_27 (by decide +kernel)
theorem d_WF_years_5 : decode b_WF_years 5 = .ok (.bipush 99, 2) := dc_16 (by decide +kernel)
theorem d_WF_years_7 : decode b_WF_years 7 = .ok (.if_icmp .gt 17, 3) := dc_163 (by decide +kernel)
theorem d_WF_years_10 : decode b_WF_years 10 = .ok (.aload_n 0, 1) := dc_42 (by decide +kernel)
theorem d_WF_years_11 : decode b_WF_years 11 = .ok (.getfield 59, 3) := dc_180 (by decide +kernel)
theorem d_WF_years_14 : decode b_WF_years 14 = .ok (.getfield 218, 3) := dc_180 (by decide +kernel)
theorem d_WF_years_17 : decode b_WF_years 17 = .ok (.iload_n 1, 1) := dc_27 (by decide +kernel)
theorem d_WF_years_18 : decode b_WF_years 18 = .ok (.iadd, 1) := dc_96 (by decide +kernel)
theorem d_WF_years_19 : decode b_WF_years 19 = .ok (.bipush 99, 2) := dc_16 (by decide +kernel)
theorem d_WF_years_21 : decode b_WF_years 21 = .ok (.if_icmp .le 5, 3) := dc_164 (by decide +kernel)
theorem d_WF_years_24 : decode b_WF_years 24 = .ok (.iconst (-1), 1) := dc_2 (by decide +kernel)
theorem d_WF_years_25 : decode b_WF_years 25 = .ok (.ireturn, 1) := dc_172 (by decide +kernel)
theorem d_WF_years_26 : decode b_WF_years 26 = .ok (.iconst 0, 1) := dc_3 (by decide +kernel)
theorem d_WF_years_27 : decode b_WF_years 27 = .ok (.istore_n 2, 1) := dc_61 (by decide +kernel)
theorem d_WF_years_28 : decode b_WF_years 28 = .ok (.iload_n 2, 1) := dc_28 (by decide +kernel)
theorem d_WF_years_29 : decode b_WF_years 29 = .ok (.iload_n 1, 1) := dc_27 (by decide +kernel)
theorem d_WF_years_30 : decode b_WF_years 30 = .ok (.if_icmp .ge 24, 3) := dc_162 (by decide +kernel)
theorem d_WF_years_33 : decode b_WF_years 33 = .ok (.aload_n 0, 1) := dc_42 (by decide +kernel)
theorem d_WF_years_34 : decode b_WF_years 34 = .ok (.getfield 59, 3) := dc_180 (by decide +kernel)
theorem d_WF_years_37 : decode b_WF_years 37 = .ok (.aload_n 0, 1) := dc_42 (by decide +kernel)
theorem d_WF_years_38 : decode b_WF_years 38 = .ok (.getfield 22, 3) := dc_180 (by decide +kernel)
theorem d_WF_years_41 : decode b_WF_years 41 = .ok (.aload_n 0, 1) := dc_42 (by decide +kernel)
theorem d_WF_years_42 : decode b_WF_years 42 = .ok (.getfield 46, 3) := dc_180 (by decide +kernel)
theorem d_WF_years_45 : decode b_WF_years 45 = .ok (.invokevirtual 391, 3) := dc_182 (by decide +kernel)
theorem d_WF_years_48 : decode b_WF_years 48 = .ok (.iinc 2 1, 3) := dc_132 (by decide +kernel)
theorem d_WF_years_51 : decode b_WF_years 51 = .ok (.goto (-23), 3) := dc_167 (by decide +kernel)
theorem d_WF_years_54 : decode b_WF_years 54 = .ok (.iload_n 1, 1) := dc_27 (by decide +kernel)
theorem d_WF_years_55 : decode b_WF_years 55 = .ok (.ifCond .le 18, 3) := dc_158 (by decide +kernel)
theorem d_WF_years_58 : decode b_WF_years 58 = .ok (.aload_n 0, 1) := dc_42 (by decide +kernel)
theorem d_WF_years_59 : decode b_WF_years 59 = .ok (.getfield 69, 3) := dc_180 (by decide +kernel)
theorem d_WF_years_62 : decode b_WF_years 62 = .ok (.invokevirtual 279, 3) := dc_182 (by decide +kernel)
theorem d_WF_years_65 : decode b_WF_years 65 = .ok (.aload_n 0, 1) := dc_42 (by decide +kernel)
theorem d_WF_years_66 : decode b_WF_years 66 = .ok (.getfield 83, 3) := dc_180 (by decide +kernel)
theorem d_WF_years_69 : decode b_WF_years 69 = .ok (.iconst 0, 1) := dc_3 (by decide +kernel)
theorem d_WF_years_70 : decode b_WF_years 70 = .ok (.putfield 280, 3) := dc_181 (by decide +kernel)
theorem d_WF_years_73 : decode b_WF_years 73 = .ok (.aload_n 0, 1) := dc_42 (by decide +kernel)
theorem d_WF_years_74 : decode b_WF_years 74 = .ok (.getfield 59, 3) := dc_180 (by decide +kernel)
theorem d_WF_years_77 : decode b_WF_years 77 = .ok (.getfield 218, 3) := dc_180 (by decide +kernel)
theorem d_WF_years_80 : decode b_WF_years 80 = .ok (.ireturn, 1) := dc_172 (by decide +kernel)
def t_WF_years_L73 (x1 : Int)  (M : Mem)  : Option (Mem × Int) := (some (M, (M.1 62 3)))
def t_WF_years_L28 (x1 : Int)  : Nat → Mem → Int → Option (Mem × Int)
  | 0, _, _ => none
  | fu + 1, M, v2_ => (if x1 ≤ v2_ then (if x1 ≤ 0 then (t_WF_years_L73 x1 M) else (qlet (t_Past_clear M) fun q7 => (qlet (setI q7 177 8 0) fun M9 => (t_WF_years_L73 x1 M9)))) else (obind (t_Chronicle_goOn M 62 ((M.1 0 4).toNat) 47) fun q11 => (t_WF_years_L28 x1 fu q11 (w32 (v2_ + 1)))))
def t_WF_years (M : Mem) (x1 : Int) : Option (Mem × Int) := (if x1 < 0 then (some (M, (-1))) else (if 99 < x1 then (some (M, (-1))) else (if (w32 ((M.1 62 3) + x1)) ≤ 99 then (t_WF_years_L28 x1 FU M 0) else (some (M, (-1))))))
set_option maxHeartbeats 4000000 in
set_option maxRecDepth 100000 in
theorem k_WF_years_L73 (l : Launch) {p : Program} {e : Env} {s : State} {m : MethodId} {below : List Frame} {meth : Method} {c : Code} {b n : Nat} {C : CT} (hlo : 191 ≤ n) (x1 : Int) (hx1 : InR x1) (F : Cx b p m c b_WF_years 3 s ([.ref (b + 0), vI x1] : List Value).toArray "WardFalls" C n 191) (hlk : meth.locks = false) (hr : meth.sig.returnType = some .int) {res : Mem × Int} (M : Mem)  (H : Heap) (locs : List Loc) (ls : Array Slot) (hS : St b C n M s H locs) (hl : lv_has ls 3 [(0, .ref (b + 0))]) (hT : t_WF_years_L73 x1 M = some res) : W p l e (headSpec (wsM y_WF_years b_WF_years 3 (some .int)) (rmD 6)).room s m ([.ref (b + 0), vI x1] : List Value).toArray below meth c H locs 0 0 (MQ below (QI b C n res.1 res.2) ([.ref (b + 0), vI x1] : List Value).toArray s 0 0 (frb b)) (F0 m 73 ls []) := by
  unfold t_WF_years_L73 at hT
  refine lv_aload_n F.hx F.hb d_WF_years_73 rfl (lv_at hl 0 rfl) ?_
  refine r_get (v := .ref (b + 62)) (N := 19) (T := T0) (j := 11) F hS (show 0 < 191 by decide) (show shK 0 = 4 from rfl) (show shN 0 = 19 from rfl) rfl (Nat.le_of_ble_eq_true rfl) ing0 mw_561 (fv_sg rfl rfl rfl) d_WF_years_74 ?_
  refine r_get (v := vI (M.1 62 3)) (N := 6) (T := T2) (j := 3) F hS (show 62 < 191 by decide) (show shK 62 = 6 from rfl) (show shN 62 = 6 from rfl) rfl (Nat.le_of_ble_eq_true rfl) ing2 mw_321 (fv_int rfl) d_WF_years_77 ?_
  have i13 := hS.rng 62 3
  cases hT
  exact r_iret F hlk hr rfl hS i13 d_WF_years_80
set_option maxHeartbeats 4000000 in
set_option maxRecDepth 100000 in
theorem k_WF_years_L28 (l : Launch) {p : Program} {e : Env} {s : State} {m : MethodId} {below : List Frame} {meth : Method} {c : Code} {b n : Nat} {C : CT} (hlo : 191 ≤ n) (x1 : Int) (hx1 : InR x1) (F : Cx b p m c b_WF_years 3 s ([.ref (b + 0), vI x1] : List Value).toArray "WardFalls" C n 191) (hlk : meth.locks = false) (hr : meth.sig.returnType = some .int) {res : Mem × Int} : ∀ (fu : Nat) (M : Mem) (v2_ : Int) (hv2_ : InR v2_) (H : Heap) (locs : List Loc) (ls : Array Slot), St b C n M s H locs → lv_has ls 3 [(0, .ref (b + 0)), (1, vI x1), (2, vI v2_)] → t_WF_years_L28 x1 fu M v2_ = some res → W p l e (headSpec (wsM y_WF_years b_WF_years 3 (some .int)) (rmD 6)).room s m ([.ref (b + 0), vI x1] : List Value).toArray below meth c H locs 0 0 (MQ below (QI b C n res.1 res.2) ([.ref (b + 0), vI x1] : List Value).toArray s 0 0 (frb b)) (F0 m 28 ls []) := by
  intro fu
  induction fu with
  | zero => intro M v2_ hv2_ H locs ls hS hl hT; exact absurd hT (by simp [t_WF_years_L28])
  | succ fu ih =>
    intro M v2_ hv2_ H locs ls hS hl hT
    rw [t_WF_years_L28] at hT
    refine lv_iload_n F.hx F.hb d_WF_years_28 rfl (lv_at hl 2 rfl) ?_
    refine lv_iload_n F.hx F.hb d_WF_years_29 rfl (lv_at hl 1 rfl) ?_
    refine r_icmp_ge (tgt := 54) F.hx F.hb hv2_ hx1 d_WF_years_30 (by decide) (fun c5 => ?_) (fun c5 => ?_)
    · replace hT := (if_pos c5).symm.trans hT
      refine lv_iload_n F.hx F.hb d_WF_years_54 rfl (lv_at hl 1 rfl) ?_
      refine r_if_le (tgt := 73) F.hx F.hb hx1 d_WF_years_55 (by decide) (fun c6 => ?_) (fun c6 => ?_)
      · replace hT := (if_pos c6).symm.trans hT
        exact k_WF_years_L73 l hlo x1 hx1 F hlk hr M _ _ _ hS (lv_sub hl [0] rfl) hT
      · replace hT := (if_neg c6).symm.trans hT
        refine lv_aload_n F.hx F.hb d_WF_years_58 rfl (lv_at hl 0 rfl) ?_
        refine r_get (v := .ref (b + 70)) (N := 19) (T := T0) (j := 14) F hS (show 0 < 191 by decide) (show shK 0 = 4 from rfl) (show shN 0 = 19 from rfl) rfl (Nat.le_of_ble_eq_true rfl) ing0 mw_564 (fv_sg rfl rfl rfl) d_WF_years_59 ?_
        obtain ⟨q7, hq7⟩ : ∃ q, q = (t_Past_clear M) := ⟨_, rfl⟩
        replace hT := qlet_eq hT hq7
        refine r_backV F hS (r_runV (k := 70) (N := 3) (T := T6) (As := []) F hS (show 70 < 191 by decide) (show shK 70 = 10 from rfl) rfl (c_Past_clear l F.2.2.1 M _ hq7.symm) gs_WF_279 hd_Past_clear ⟨Nat.le_of_ble_eq_true rfl, Nat.le_of_ble_eq_true rfl⟩ rfl hl.1 (Nat.le_of_ble_eq_true rfl) ⟨Nat.zero_le _, Nat.zero_le _⟩ rfl d_WF_years_62) (fun H locs hS => ?_)
        refine lv_aload_n F.hx F.hb d_WF_years_65 rfl (lv_at hl 0 rfl) ?_
        refine r_get (v := .ref (b + 177)) (N := 19) (T := T0) (j := 16) F hS (show 0 < 191 by decide) (show shK 0 = 4 from rfl) (show shN 0 = 19 from rfl) rfl (Nat.le_of_ble_eq_true rfl) ing0 mw_566 (fv_sg rfl rfl rfl) d_WF_years_66 ?_
        refine r_iconst F.hx F.hb d_WF_years_69 ?_
        refine r_putI (N := 9) (T := T4) (j := 8) F hS (show 177 < 191 by decide) (show shK 177 = 8 from rfl) (show shN 177 = 9 from rfl) rfl (Nat.le_of_ble_eq_true rfl) ing4 tyok4 nm4 rfl rfl (nar_z (Or.inl rfl)) (fit_z (Or.inl rfl)) rfl rfl mw_448 (inr_c rfl) d_WF_years_70 (fun H locs hS => ?_)
        obtain ⟨M9, eM9⟩ : ∃ q, q = (setI q7 177 8 0) := ⟨_, rfl⟩
        replace hS : St b C n M9 s H locs := by rw [eM9]; exact hS
        replace hT := qlet_eq hT eM9
        exact k_WF_years_L73 l hlo x1 hx1 F hlk hr M9 _ _ _ hS (lv_sub hl [0] rfl) hT
    · replace hT := (if_neg c5).symm.trans hT
      refine lv_aload_n F.hx F.hb d_WF_years_33 rfl (lv_at hl 0 rfl) ?_
      refine r_get (v := .ref (b + 62)) (N := 19) (T := T0) (j := 11) F hS (show 0 < 191 by decide) (show shK 0 = 4 from rfl) (show shN 0 = 19 from rfl) rfl (Nat.le_of_ble_eq_true rfl) ing0 mw_561 (fv_sg rfl rfl rfl) d_WF_years_34 ?_
      refine lv_aload_n F.hx F.hb d_WF_years_37 rfl (lv_at hl 0 rfl) ?_
      have h10 := St_town hS
      refine r_get (v := .ref (b + ((M.1 0 4).toNat))) (N := 19) (T := T0) (j := 4) F hS (show 0 < 191 by decide) (show shK 0 = 4 from rfl) (show shN 0 = 19 from rfl) rfl (Nat.le_of_ble_eq_true rfl) ing0 mw_554 (fv_town hS) d_WF_years_38 ?_
      refine lv_aload_n F.hx F.hb d_WF_years_41 rfl (lv_at hl 0 rfl) ?_
      refine r_get (v := .ref (b + 47)) (N := 19) (T := T0) (j := 8) F hS (show 0 < 191 by decide) (show shK 0 = 4 from rfl) (show shN 0 = 19 from rfl) rfl (Nat.le_of_ble_eq_true rfl) ing0 mw_558 (fv_sg rfl rfl rfl) d_WF_years_42 ?_
      obtain ⟨q11, hq11, hT⟩ := q_obind hT
      refine r_backV F hS (r_runV (k := 62) (N := 6) (T := T2) (As := [.ref (b + ((M.1 0 4).toNat)), .ref (b + 47)]) F hS (show 62 < 191 by decide) (show shK 62 = 6 from rfl) rfl (c_Chronicle_goOn l F.2.2.1 M 62 ((M.1 0 4).toNat) 47 (by decide : isChronicle 62) h10 (by decide : isScene 47) _ hq11) gs_WF_391 hd_Chronicle_goOn ⟨Nat.le_of_ble_eq_true rfl, Nat.le_of_ble_eq_true rfl⟩ rfl hl.1 (Nat.le_of_ble_eq_true rfl) ⟨Nat.zero_le _, Nat.zero_le _⟩ rfl d_WF_years_45) (fun H locs hS => ?_)
      refine lv_iinc (v := Int32.ofInt (w32 (v2_ + 1))) (lv' := [(2, vI (w32 (v2_ + 1))), (0, .ref (b + 0)), (1, vI x1)]) F.hx F.hb d_WF_years_48 hl (k := 2) rfl (q_of_add _ _) (Nat.le_of_ble_eq_true rfl) rfl (fun ls hl => ?_)
      refine lv_goto (tgt := 28) F.hx F.hb d_WF_years_51 (by decide) ?_
      exact ih q11 (w32 (v2_ + 1)) (inr_w32 _) _ _ _ hS (lv_sub hl [1, 2, 0] rfl) hT
set_option maxHeartbeats 4000000 in
set_option maxRecDepth 100000 in
theorem c_WF_years (l : Launch) {b n : Nat} {C : CT} (hlo : 191 ≤ n) (M : Mem) (x1 : Int) (hx1 : InR x1) (res : Mem × Int) (hT : t_WF_years M x1 = some res) : CM l b C n 6 y_WF_years b_WF_years 3 (some .int) [.ref (b + 0), vI x1] M (QI b C n res.1 res.2) := by
  refine CM.of (lo := 191) (ow := "WardFalls") (by decide) rfl (Nat.le_of_ble_eq_true rfl) hlo (fun p e s m below meth c F hlk hr hS ls hl => ?_)
  have hl : lv_has ls 3 [(0, .ref (b + 0)), (1, vI x1)] := hl
  unfold t_WF_years at hT
  refine lv_iload_n F.hx F.hb d_WF_years_0 rfl (lv_at hl 1 rfl) ?_
  refine r_if_lt (tgt := 24) F.hx F.hb hx1 d_WF_years_1 (by decide) (fun c1 => ?_) (fun c1 => ?_)
  · replace hT := (if_pos c1).symm.trans hT
    refine r_iconst F.hx F.hb d_WF_years_24 ?_
    cases hT
    exact r_iret F hlk hr rfl hS (inr_c rfl) d_WF_years_25
  · replace hT := (if_neg c1).symm.trans hT
    refine lv_iload_n F.hx F.hb d_WF_years_4 rfl (lv_at hl 1 rfl) ?_
    refine r_bipush F.hx F.hb d_WF_years_5 rfl ?_
    refine r_icmp_gt (tgt := 24) F.hx F.hb hx1 (inr_c rfl) d_WF_years_7 (by decide) (fun c2 => ?_) (fun c2 => ?_)
    · replace hT := (if_pos c2).symm.trans hT
      refine r_iconst F.hx F.hb d_WF_years_24 ?_
      cases hT
      exact r_iret F hlk hr rfl hS (inr_c rfl) d_WF_years_25
    · replace hT := (if_neg c2).symm.trans hT
      refine lv_aload_n F.hx F.hb d_WF_years_10 rfl (lv_at hl 0 rfl) ?_
      refine r_get (v := .ref (b + 62)) (N := 19) (T := T0) (j := 11) F hS (show 0 < 191 by decide) (show shK 0 = 4 from rfl) (show shN 0 = 19 from rfl) rfl (Nat.le_of_ble_eq_true rfl) ing0 mw_561 (fv_sg rfl rfl rfl) d_WF_years_11 ?_
      refine r_get (v := vI (M.1 62 3)) (N := 6) (T := T2) (j := 3) F hS (show 62 < 191 by decide) (show shK 62 = 6 from rfl) (show shN 62 = 6 from rfl) rfl (Nat.le_of_ble_eq_true rfl) ing2 mw_321 (fv_int rfl) d_WF_years_14 ?_
      have i3 := hS.rng 62 3
      refine lv_iload_n F.hx F.hb d_WF_years_17 rfl (lv_at hl 1 rfl) ?_
      refine r_iadd F.hx F.hb d_WF_years_18 ?_
      refine r_bipush F.hx F.hb d_WF_years_19 rfl ?_
      refine r_icmp_le (tgt := 26) F.hx F.hb (inr_w32 _) (inr_c rfl) d_WF_years_21 (by decide) (fun c4 => ?_) (fun c4 => ?_)
      · replace hT := (if_pos c4).symm.trans hT
        refine r_iconst F.hx F.hb d_WF_years_26 ?_
        refine lv_istore_n (lv' := [(2, vI 0), (0, .ref (b + 0)), (1, vI x1)]) F.hx F.hb d_WF_years_27 rfl hl (Nat.le_of_ble_eq_true rfl) rfl (fun ls hl => ?_)
        exact k_WF_years_L28 l hlo x1 hx1 F hlk hr FU M 0 (inr_c rfl) _ _ _ hS (lv_sub hl [1, 2, 0] rfl) hT
      · replace hT := (if_neg c4).symm.trans hT
        refine r_iconst F.hx F.hb d_WF_years_24 ?_
        cases hT
        exact r_iret F hlk hr rfl hS (inr_c rfl) d_WF_years_25
theorem d_WF_voted_0 : decode b_WF_voted 0 = .ok (.iload_n 1, 1) := dc_27 (by decide +kernel)
theorem d_WF_voted_1 : decode b_WF_voted 1 = .ok (.ifCond .lt 14, 3) := dc_155 (by decide +kernel)
theorem d_WF_voted_4 : decode b_WF_voted 4 = .ok (.iload_n 1, 1) := dc_27 (by decide +kernel)
theorem d_WF_voted_5 : decode b_WF_voted 5 = .ok (.aload_n 0, 1) := dc_42 (by decide +kernel)
theorem d_WF_voted_6 : decode b_WF_voted 6 = .ok (.getfield 59, 3) := dc_180 (by decide +kernel)
theorem d_WF_voted_9 : decode b_WF_voted 9 = .ok (.getfield 218, 3) := dc_180 (by decide +kernel)
theorem d_WF_voted_12 : decode b_WF_voted 12 = .ok (.if_icmp .lt 5, 3) := dc_161 (by decide +kernel)
theorem d_WF_voted_15 : decode b_WF_voted 15 = .ok (.iconst (-1), 1) := dc_2 (by decide +kernel)
theorem d_WF_voted_16 : decode b_WF_voted 16 = .ok (.ireturn, 1) := dc_172 (by decide +kernel)
theorem d_WF_voted_17 : decode b_WF_voted 17 = .ok (.iload_n 2, 1) := dc_28 (by decide +kernel)
theorem d_WF_voted_18 : decode b_WF_voted 18 = .ok (.tableswitch 62 0 2 #[26, 38, 50], 26) := by decide +kernel
theorem d_WF_voted_44 : decode b_WF_voted 44 = .ok (.aload_n 0, 1) := dc_42 (by decide +kernel)
theorem d_WF_voted_45 : decode b_WF_voted 45 = .ok (.getfield 59, 3) := dc_180 (by decide +kernel)
theorem d_WF_voted_48 : decode b_WF_voted 48 = .ok (.getfield 394, 3) := dc_180 (by decide +kernel)
theorem d_WF_voted_51 : decode b_WF_voted 51 = .ok (.iload_n 1, 1) := dc_27 (by decide +kernel)
theorem d_WF_voted_52 : decode b_WF_voted 52 = .ok (.invokestatic 204, 3) := dc_184 (by decide +kernel)
theorem d_WF_voted_55 : decode b_WF_voted 55 = .ok (.ireturn, 1) := dc_172 (by decide +kernel)
theorem d_WF_voted_56 : decode b_WF_voted 56 = .ok (.aload_n 0, 1) := dc_42 (by decide +kernel)
theorem d_WF_voted_57 : decode b_WF_voted 57 = .ok (.getfield 59, 3) := dc_180 (by decide +kernel)
theorem d_WF_voted_60 : decode b_WF_voted 60 = .ok (.getfield 396, 3) := dc_180 (by decide +kernel)
theorem d_WF_voted_63 : decode b_WF_voted 63 = .ok (.iload_n 1, 1) := dc_27 (by decide +kernel)
theorem d_WF_voted_64 : decode b_WF_voted 64 = .ok (.invokestatic 204, 3) := dc_184 (by decide +kernel)
theorem d_WF_voted_67 : decode b_WF_voted 67 = .ok (.ireturn, 1) := dc_172 (by decide +kernel)
theorem d_WF_voted_68 : decode b_WF_voted 68 = .ok (.aload_n 0, 1) := dc_42 (by decide +kernel)
theorem d_WF_voted_69 : decode b_WF_voted 69 = .ok (.getfield 59, 3) := dc_180 (by decide +kernel)
theorem d_WF_voted_72 : decode b_WF_voted 72 = .ok (.getfield 397, 3) := dc_180 (by decide +kernel)
theorem d_WF_voted_75 : decode b_WF_voted 75 = .ok (.iload_n 1, 1) := dc_27 (by decide +kernel)
theorem d_WF_voted_76 : decode b_WF_voted 76 = .ok (.invokestatic 204, 3) := dc_184 (by decide +kernel)
theorem d_WF_voted_79 : decode b_WF_voted 79 = .ok (.ireturn, 1) := dc_172 (by decide +kernel)
theorem d_WF_voted_80 : decode b_WF_voted 80 = .ok (.iconst (-1), 1) := dc_2 (by decide +kernel)
theorem d_WF_voted_81 : decode b_WF_voted 81 = .ok (.ireturn, 1) := dc_172 (by decide +kernel)
def t_WF_voted (M : Mem) (x1 : Int) (x2 : Int) : Int := (if x1 < 0 then (-1) else (if x1 < (M.1 62 3) then (if x2 = 0 then (qlet (t_WF_look M 63 99 x1) fun q5 => q5) else (if x2 = 1 then (qlet (t_WF_look M 64 99 x1) fun q8 => q8) else (if x2 = 2 then (qlet (t_WF_look M 65 99 x1) fun q11 => q11) else (-1)))) else (-1)))
set_option maxHeartbeats 4000000 in
set_option maxRecDepth 100000 in
theorem c_WF_voted (l : Launch) {b n : Nat} {C : CT} (hlo : 191 ≤ n) (M : Mem) (x1 : Int) (x2 : Int) (hx1 : InR x1) (hx2 : InR x2) (res : Int) (hT : t_WF_voted M x1 x2 = res) : CM l b C n 1 y_WF_voted b_WF_voted 3 (some .int) [.ref (b + 0), vI x1, vI x2] M (QI b C n M res) := by
  refine CM.of (lo := 191) (ow := "WardFalls") (by decide) rfl (Nat.le_of_ble_eq_true rfl) hlo (fun p e s m below meth c F hlk hr hS ls hl => ?_)
  have hl : lv_has ls 3 [(0, .ref (b + 0)), (1, vI x1), (2, vI x2)] := hl
  unfold t_WF_voted at hT
  refine lv_iload_n F.hx F.hb d_WF_voted_0 rfl (lv_at hl 1 rfl) ?_
  refine r_if_lt (tgt := 15) F.hx F.hb hx1 d_WF_voted_1 (by decide) (fun c1 => ?_) (fun c1 => ?_)
  · replace hT := (if_pos c1).symm.trans hT
    refine r_iconst F.hx F.hb d_WF_voted_15 ?_
    subst hT
    exact r_iret F hlk hr rfl hS (inr_c rfl) d_WF_voted_16
  · replace hT := (if_neg c1).symm.trans hT
    refine lv_iload_n F.hx F.hb d_WF_voted_4 rfl (lv_at hl 1 rfl) ?_
    refine lv_aload_n F.hx F.hb d_WF_voted_5 rfl (lv_at hl 0 rfl) ?_
    refine r_get (v := .ref (b + 62)) (N := 19) (T := T0) (j := 11) F hS (show 0 < 191 by decide) (show shK 0 = 4 from rfl) (show shN 0 = 19 from rfl) rfl (Nat.le_of_ble_eq_true rfl) ing0 mw_561 (fv_sg rfl rfl rfl) d_WF_voted_6 ?_
    refine r_get (v := vI (M.1 62 3)) (N := 6) (T := T2) (j := 3) F hS (show 62 < 191 by decide) (show shK 62 = 6 from rfl) (show shN 62 = 6 from rfl) rfl (Nat.le_of_ble_eq_true rfl) ing2 mw_321 (fv_int rfl) d_WF_voted_9 ?_
    have i2 := hS.rng 62 3
    refine r_icmp_lt (tgt := 17) F.hx F.hb hx1 i2 d_WF_voted_12 (by decide) (fun c3 => ?_) (fun c3 => ?_)
    · replace hT := (if_pos c3).symm.trans hT
      refine lv_iload_n F.hx F.hb d_WF_voted_17 rfl (lv_at hl 2 rfl) ?_
      rcases q_ite hT with ⟨c4, hT⟩ | ⟨c4, hT⟩
      · refine r_tableIn (i := 0) (tgt := 44) F.hx F.hb hx2 c4 d_WF_voted_18 (by decide) (by decide) rfl (by decide) ?_
        refine lv_aload_n F.hx F.hb d_WF_voted_44 rfl (lv_at hl 0 rfl) ?_
        refine r_get (v := .ref (b + 62)) (N := 19) (T := T0) (j := 11) F hS (show 0 < 191 by decide) (show shK 0 = 4 from rfl) (show shN 0 = 19 from rfl) rfl (Nat.le_of_ble_eq_true rfl) ing0 mw_561 (fv_sg rfl rfl rfl) d_WF_voted_45 ?_
        refine r_get (v := .ref (b + 63)) (N := 6) (T := T2) (j := 0) F hS (show 62 < 191 by decide) (show shK 62 = 6 from rfl) (show shN 62 = 6 from rfl) rfl (Nat.le_of_ble_eq_true rfl) ing2 mw_315 (fv_sg rfl rfl rfl) d_WF_voted_48 ?_
        refine lv_iload_n F.hx F.hb d_WF_voted_51 rfl (lv_at hl 1 rfl) ?_
        obtain ⟨q5, hq5⟩ : ∃ q, q = (t_WF_look M 63 99 x1) := ⟨_, rfl⟩
        replace hT := qlet_eq hT hq5
        refine r_backI F hS (r_runS (As := [.ref (b + 63), vI x1]) F hS (c_WF_look l F.2.2.1 M 63 99 x1 (show arrP 0 63 99 191 from ⟨rfl, rfl, by decide⟩) hx1 _ hq5.symm) gs_WF_204 hd_WF_look ⟨Nat.le_of_ble_eq_true rfl, Nat.le_of_ble_eq_true rfl⟩ rfl hl.1 (Nat.le_of_ble_eq_true rfl) ⟨Nat.zero_le _, Nat.zero_le _⟩ rfl d_WF_voted_52) (fun H locs hS h6 => ?_)
        subst hT
        exact r_iret F hlk hr rfl hS h6 d_WF_voted_55
      ·
        rcases q_ite hT with ⟨c7, hT⟩ | ⟨c7, hT⟩
        · refine r_tableIn (i := 1) (tgt := 56) F.hx F.hb hx2 c7 d_WF_voted_18 (by decide) (by decide) rfl (by decide) ?_
          refine lv_aload_n F.hx F.hb d_WF_voted_56 rfl (lv_at hl 0 rfl) ?_
          refine r_get (v := .ref (b + 62)) (N := 19) (T := T0) (j := 11) F hS (show 0 < 191 by decide) (show shK 0 = 4 from rfl) (show shN 0 = 19 from rfl) rfl (Nat.le_of_ble_eq_true rfl) ing0 mw_561 (fv_sg rfl rfl rfl) d_WF_voted_57 ?_
          refine r_get (v := .ref (b + 64)) (N := 6) (T := T2) (j := 1) F hS (show 62 < 191 by decide) (show shK 62 = 6 from rfl) (show shN 62 = 6 from rfl) rfl (Nat.le_of_ble_eq_true rfl) ing2 mw_317 (fv_sg rfl rfl rfl) d_WF_voted_60 ?_
          refine lv_iload_n F.hx F.hb d_WF_voted_63 rfl (lv_at hl 1 rfl) ?_
          obtain ⟨q8, hq8⟩ : ∃ q, q = (t_WF_look M 64 99 x1) := ⟨_, rfl⟩
          replace hT := qlet_eq hT hq8
          refine r_backI F hS (r_runS (As := [.ref (b + 64), vI x1]) F hS (c_WF_look l F.2.2.1 M 64 99 x1 (show arrP 0 64 99 191 from ⟨rfl, rfl, by decide⟩) hx1 _ hq8.symm) gs_WF_204 hd_WF_look ⟨Nat.le_of_ble_eq_true rfl, Nat.le_of_ble_eq_true rfl⟩ rfl hl.1 (Nat.le_of_ble_eq_true rfl) ⟨Nat.zero_le _, Nat.zero_le _⟩ rfl d_WF_voted_64) (fun H locs hS h9 => ?_)
          subst hT
          exact r_iret F hlk hr rfl hS h9 d_WF_voted_67
        ·
          rcases q_ite hT with ⟨c10, hT⟩ | ⟨c10, hT⟩
          · refine r_tableIn (i := 2) (tgt := 68) F.hx F.hb hx2 c10 d_WF_voted_18 (by decide) (by decide) rfl (by decide) ?_
            refine lv_aload_n F.hx F.hb d_WF_voted_68 rfl (lv_at hl 0 rfl) ?_
            refine r_get (v := .ref (b + 62)) (N := 19) (T := T0) (j := 11) F hS (show 0 < 191 by decide) (show shK 0 = 4 from rfl) (show shN 0 = 19 from rfl) rfl (Nat.le_of_ble_eq_true rfl) ing0 mw_561 (fv_sg rfl rfl rfl) d_WF_voted_69 ?_
            refine r_get (v := .ref (b + 65)) (N := 6) (T := T2) (j := 2) F hS (show 62 < 191 by decide) (show shK 62 = 6 from rfl) (show shN 62 = 6 from rfl) rfl (Nat.le_of_ble_eq_true rfl) ing2 mw_319 (fv_sg rfl rfl rfl) d_WF_voted_72 ?_
            refine lv_iload_n F.hx F.hb d_WF_voted_75 rfl (lv_at hl 1 rfl) ?_
            obtain ⟨q11, hq11⟩ : ∃ q, q = (t_WF_look M 65 99 x1) := ⟨_, rfl⟩
            replace hT := qlet_eq hT hq11
            refine r_backI F hS (r_runS (As := [.ref (b + 65), vI x1]) F hS (c_WF_look l F.2.2.1 M 65 99 x1 (show arrP 0 65 99 191 from ⟨rfl, rfl, by decide⟩) hx1 _ hq11.symm) gs_WF_204 hd_WF_look ⟨Nat.le_of_ble_eq_true rfl, Nat.le_of_ble_eq_true rfl⟩ rfl hl.1 (Nat.le_of_ble_eq_true rfl) ⟨Nat.zero_le _, Nat.zero_le _⟩ rfl d_WF_voted_76) (fun H locs hS h12 => ?_)
            subst hT
            exact r_iret F hlk hr rfl hS h12 d_WF_voted_79
          ·
            refine r_tableOut (tgt := 80) F.hx F.hb hx2 (by omega) d_WF_voted_18 (by decide) ?_
            refine r_iconst F.hx F.hb d_WF_voted_80 ?_
            subst hT
            exact r_iret F hlk hr rfl hS (inr_c rfl) d_WF_voted_81
    · replace hT := (if_neg c3).symm.trans hT
      refine r_iconst F.hx F.hb d_WF_voted_15 ?_
      subst hT
      exact r_iret F hlk hr rfl hS (inr_c rfl) d_WF_voted_16
end
section
theorem d_WF_canTry_0 : decode b_WF_canTry 0 = .ok (.iload_n 1, 1) := dc_27 (by decide +kernel)
theorem d_WF_canTry_1 : decode b_WF_canTry 1 = .ok (.tableswitch 63 0 4 #[35, 35, 35, 45, 54], 35) := by decide +kernel
theorem d_WF_canTry_36 : decode b_WF_canTry 36 = .ok (.iload_n 2, 1) := dc_28 (by decide +kernel)
theorem d_WF_canTry_37 : decode b_WF_canTry 37 = .ok (.ifCond .ne 7, 3) := dc_154 (by decide +kernel)
theorem d_WF_canTry_40 : decode b_WF_canTry 40 = .ok (.iconst 1, 1) := dc_4 (by decide +kernel)
theorem d_WF_canTry_41 : decode b_WF_canTry 41 = .ok (.goto 4, 3) := dc_167 (by decide +kernel)
theorem d_WF_canTry_44 : decode b_WF_canTry 44 = .ok (.iconst 0, 1) := dc_3 (by decide +kernel)
theorem d_WF_canTry_45 : decode b_WF_canTry 45 = .ok (.ireturn, 1) := dc_172 (by decide +kernel)
theorem d_WF_canTry_46 : decode b_WF_canTry 46 = .ok (.aload_n 0, 1) := dc_42 (by decide +kernel)
theorem d_WF_canTry_47 : decode b_WF_canTry 47 = .ok (.getfield 22, 3) := dc_180 (by decide +kernel)
theorem d_WF_canTry_50 : decode b_WF_canTry 50 = .ok (.iload_n 2, 1) := dc_28 (by decide +kernel)
theorem d_WF_canTry_51 : decode b_WF_canTry 51 = .ok (.invokevirtual 198, 3) := dc_182 (by decide +kernel)
theorem d_WF_canTry_54 : decode b_WF_canTry 54 = .ok (.ireturn, 1) := dc_172 (by decide +kernel)
theorem d_WF_canTry_55 : decode b_WF_canTry 55 = .ok (.aload_n 0, 1) := dc_42 (by decide +kernel)
theorem d_WF_canTry_56 : decode b_WF_canTry 56 = .ok (.getfield 22, 3) := dc_180 (by decide +kernel)
theorem d_WF_canTry_59 : decode b_WF_canTry 59 = .ok (.iload_n 2, 1) := dc_28 (by decide +kernel)
theorem d_WF_canTry_60 : decode b_WF_canTry 60 = .ok (.invokevirtual 225, 3) := dc_182 (by decide +kernel)
theorem d_WF_canTry_63 : decode b_WF_canTry 63 = .ok (.ireturn, 1) := dc_172 (by decide +kernel)
theorem d_WF_canTry_64 : decode b_WF_canTry 64 = .ok (.iconst 0, 1) := dc_3 (by decide +kernel)
theorem d_WF_canTry_65 : decode b_WF_canTry 65 = .ok (.ireturn, 1) := dc_172 (by decide +kernel)
def t_WF_canTry_L36 (x1 : Int) (x2 : Int)  (M : Mem)  : Int := (if x2 = 0 then 1 else 0)
def t_WF_canTry (M : Mem) (x1 : Int) (x2 : Int) : Int := (if x1 = 0 then (t_WF_canTry_L36 x1 x2 M) else (if x1 = 1 then (t_WF_canTry_L36 x1 x2 M) else (if x1 = 2 then (t_WF_canTry_L36 x1 x2 M) else (if x1 = 3 then (qlet (t_Town_hasWard M ((M.1 0 4).toNat) x2) fun q6 => q6) else (if x1 = 4 then (qlet (t_Town_hasThing M ((M.1 0 4).toNat) x2) fun q10 => q10) else 0)))))
set_option maxHeartbeats 4000000 in
set_option maxRecDepth 100000 in
theorem k_WF_canTry_L36 (l : Launch) {p : Program} {e : Env} {s : State} {m : MethodId} {below : List Frame} {meth : Method} {c : Code} {b n : Nat} {C : CT} (hlo : 191 ≤ n) (x1 : Int) (x2 : Int) (hx1 : InR x1) (hx2 : InR x2) (F : Cx b p m c b_WF_canTry 3 s ([.ref (b + 0), vI x1, vI x2] : List Value).toArray "WardFalls" C n 191) (hlk : meth.locks = false) (hr : meth.sig.returnType = some .boolean) {res : Int} (M : Mem)  (H : Heap) (locs : List Loc) (ls : Array Slot) (hS : St b C n M s H locs) (hl : lv_has ls 3 [(2, vI x2)]) (hT : t_WF_canTry_L36 x1 x2 M = res) : W p l e (headSpec (wsM y_WF_canTry b_WF_canTry 3 (some .boolean)) (rmD 1)).room s m ([.ref (b + 0), vI x1, vI x2] : List Value).toArray below meth c H locs 0 0 (MQ below (QZ b C n M res) ([.ref (b + 0), vI x1, vI x2] : List Value).toArray s 0 0 (frb b)) (F0 m 36 ls []) := by
  unfold t_WF_canTry_L36 at hT
  refine lv_iload_n F.hx F.hb d_WF_canTry_36 rfl (lv_at hl 0 rfl) ?_
  refine r_if_ne (tgt := 44) F.hx F.hb hx2 d_WF_canTry_37 (by decide) (fun c12 => ?_) (fun c12 => ?_)
  · replace hT := (if_neg c12).symm.trans hT
    refine r_iconst F.hx F.hb d_WF_canTry_44 ?_
    subst hT
    exact r_zret F hlk hr hS (Or.inl rfl) d_WF_canTry_45
  · replace hT := (if_pos c12).symm.trans hT
    refine r_iconst F.hx F.hb d_WF_canTry_40 ?_
    refine lv_goto (tgt := 45) F.hx F.hb d_WF_canTry_41 (by decide) ?_
    subst hT
    exact r_zret F hlk hr hS (Or.inr rfl) d_WF_canTry_45
set_option maxHeartbeats 4000000 in
set_option maxRecDepth 100000 in
theorem c_WF_canTry (l : Launch) {b n : Nat} {C : CT} (hlo : 191 ≤ n) (M : Mem) (x1 : Int) (x2 : Int) (hx1 : InR x1) (hx2 : InR x2) (res : Int) (hT : t_WF_canTry M x1 x2 = res) : CM l b C n 1 y_WF_canTry b_WF_canTry 3 (some .boolean) [.ref (b + 0), vI x1, vI x2] M (QZ b C n M res) := by
  refine CM.of (lo := 191) (ow := "WardFalls") (by decide) rfl (Nat.le_of_ble_eq_true rfl) hlo (fun p e s m below meth c F hlk hr hS ls hl => ?_)
  have hl : lv_has ls 3 [(0, .ref (b + 0)), (1, vI x1), (2, vI x2)] := hl
  unfold t_WF_canTry at hT
  refine lv_iload_n F.hx F.hb d_WF_canTry_0 rfl (lv_at hl 1 rfl) ?_
  rcases q_ite hT with ⟨c1, hT⟩ | ⟨c1, hT⟩
  · refine r_tableIn (i := 0) (tgt := 36) F.hx F.hb hx1 c1 d_WF_canTry_1 (by decide) (by decide) rfl (by decide) ?_
    exact k_WF_canTry_L36 l hlo x1 x2 hx1 hx2 F hlk hr M _ _ _ hS (lv_sub hl [2] rfl) hT
  ·
    rcases q_ite hT with ⟨c2, hT⟩ | ⟨c2, hT⟩
    · refine r_tableIn (i := 1) (tgt := 36) F.hx F.hb hx1 c2 d_WF_canTry_1 (by decide) (by decide) rfl (by decide) ?_
      exact k_WF_canTry_L36 l hlo x1 x2 hx1 hx2 F hlk hr M _ _ _ hS (lv_sub hl [2] rfl) hT
    ·
      rcases q_ite hT with ⟨c3, hT⟩ | ⟨c3, hT⟩
      · refine r_tableIn (i := 2) (tgt := 36) F.hx F.hb hx1 c3 d_WF_canTry_1 (by decide) (by decide) rfl (by decide) ?_
        exact k_WF_canTry_L36 l hlo x1 x2 hx1 hx2 F hlk hr M _ _ _ hS (lv_sub hl [2] rfl) hT
      ·
        rcases q_ite hT with ⟨c4, hT⟩ | ⟨c4, hT⟩
        · refine r_tableIn (i := 3) (tgt := 46) F.hx F.hb hx1 c4 d_WF_canTry_1 (by decide) (by decide) rfl (by decide) ?_
          refine lv_aload_n F.hx F.hb d_WF_canTry_46 rfl (lv_at hl 0 rfl) ?_
          have h5 := St_town hS
          refine r_get (v := .ref (b + ((M.1 0 4).toNat))) (N := 19) (T := T0) (j := 4) F hS (show 0 < 191 by decide) (show shK 0 = 4 from rfl) (show shN 0 = 19 from rfl) rfl (Nat.le_of_ble_eq_true rfl) ing0 mw_554 (fv_town hS) d_WF_canTry_47 ?_
          refine lv_iload_n F.hx F.hb d_WF_canTry_50 rfl (lv_at hl 2 rfl) ?_
          obtain ⟨q6, hq6⟩ : ∃ q, q = (t_Town_hasWard M ((M.1 0 4).toNat) x2) := ⟨_, rfl⟩
          replace hT := qlet_eq hT hq6
          refine r_backZ F hS (r_runV (k := ((M.1 0 4).toNat)) (N := 20) (T := T11) (As := [vI x2]) F hS (Town_lt h5) (Town_sh h5) rfl (c_Town_hasWard l F.2.2.1 M ((M.1 0 4).toNat) x2 h5 hx2 _ hq6.symm) gs_WF_198 hd_Town_hasWard ⟨Nat.le_of_ble_eq_true rfl, Nat.le_of_ble_eq_true rfl⟩ rfl hl.1 (Nat.le_of_ble_eq_true rfl) ⟨Nat.zero_le _, Nat.zero_le _⟩ rfl d_WF_canTry_51) (fun H locs hS h7 => ?_)
          subst hT
          exact r_zret F hlk hr hS h7 d_WF_canTry_54
        ·
          rcases q_ite hT with ⟨c8, hT⟩ | ⟨c8, hT⟩
          · refine r_tableIn (i := 4) (tgt := 55) F.hx F.hb hx1 c8 d_WF_canTry_1 (by decide) (by decide) rfl (by decide) ?_
            refine lv_aload_n F.hx F.hb d_WF_canTry_55 rfl (lv_at hl 0 rfl) ?_
            have h9 := St_town hS
            refine r_get (v := .ref (b + ((M.1 0 4).toNat))) (N := 19) (T := T0) (j := 4) F hS (show 0 < 191 by decide) (show shK 0 = 4 from rfl) (show shN 0 = 19 from rfl) rfl (Nat.le_of_ble_eq_true rfl) ing0 mw_554 (fv_town hS) d_WF_canTry_56 ?_
            refine lv_iload_n F.hx F.hb d_WF_canTry_59 rfl (lv_at hl 2 rfl) ?_
            obtain ⟨q10, hq10⟩ : ∃ q, q = (t_Town_hasThing M ((M.1 0 4).toNat) x2) := ⟨_, rfl⟩
            replace hT := qlet_eq hT hq10
            refine r_backZ F hS (r_runV (k := ((M.1 0 4).toNat)) (N := 20) (T := T11) (As := [vI x2]) F hS (Town_lt h9) (Town_sh h9) rfl (c_Town_hasThing l F.2.2.1 M ((M.1 0 4).toNat) x2 h9 hx2 _ hq10.symm) gs_WF_225 hd_Town_hasThing ⟨Nat.le_of_ble_eq_true rfl, Nat.le_of_ble_eq_true rfl⟩ rfl hl.1 (Nat.le_of_ble_eq_true rfl) ⟨Nat.zero_le _, Nat.zero_le _⟩ rfl d_WF_canTry_60) (fun H locs hS h11 => ?_)
            subst hT
            exact r_zret F hlk hr hS h11 d_WF_canTry_63
          ·
            refine r_tableOut (tgt := 64) F.hx F.hb hx1 (by omega) d_WF_canTry_1 (by decide) ?_
            refine r_iconst F.hx F.hb d_WF_canTry_64 ?_
            subst hT
            exact r_zret F hlk hr hS (Or.inl rfl) d_WF_canTry_65
theorem wn_WF_tried_0 : ∀ i, i < 34 → bA b_WF_tried (0 + i) = wB [29, 155, 0, 19, 29, 17, 0, 200, 163, 0, 12, 42, 27, 28, 182, 1, 144, 154, 0, 5, 2, 172, 42, 180, 0, 50, 42, 180, 0, 46, 182, 1, 43, 27] i := wB_of (by decide +kernel)
theorem d_WF_tried_0 : decode b_WF_tried 0 = .ok (.iload_n 3, 1) := dc_29 (q0_win (r := 0) wn_WF_tried_0 (by decide +kernel))
theorem d_WF_tried_1 : decode b_WF_tried 1 = .ok (.ifCond .lt 19, 3) := dc_155 (qS2_win (r := 1) wn_WF_tried_0 (by decide +kernel))
theorem d_WF_tried_4 : decode b_WF_tried 4 = .ok (.iload_n 3, 1) := dc_29 (q0_win (r := 4) wn_WF_tried_0 (by decide +kernel))
theorem d_WF_tried_5 : decode b_WF_tried 5 = .ok (.sipush 200, 3) := dc_17 (qS2_win (r := 5) wn_WF_tried_0 (by decide +kernel))
theorem d_WF_tried_8 : decode b_WF_tried 8 = .ok (.if_icmp .gt 12, 3) := dc_163 (qS2_win (r := 8) wn_WF_tried_0 (by decide +kernel))
theorem d_WF_tried_11 : decode b_WF_tried 11 = .ok (.aload_n 0, 1) := dc_42 (q0_win (r := 11) wn_WF_tried_0 (by decide +kernel))
theorem d_WF_tried_12 : decode b_WF_tried 12 = .ok (.iload_n 1, 1) := dc_27 (q0_win (r := 12) wn_WF_tried_0 (by decide +kernel))
theorem d_WF_tried_13 : decode b_WF_tried 13 = .ok (.iload_n 2, 1) := dc_28 (q0_win (r := 13) wn_WF_tried_0 (by decide +kernel))
theorem d_WF_tried_14 : decode b_WF_tried 14 = .ok (.invokevirtual 400, 3) := dc_182 (qU2_win (r := 14) wn_WF_tried_0 (by decide +kernel))
theorem d_WF_tried_17 : decode b_WF_tried 17 = .ok (.ifCond .ne 5, 3) := dc_154 (qS2_win (r := 17) wn_WF_tried_0 (by decide +kernel))
theorem d_WF_tried_20 : decode b_WF_tried 20 = .ok (.iconst (-1), 1) := dc_2 (q0_win (r := 20) wn_WF_tried_0 (by decide +kernel))
theorem d_WF_tried_21 : decode b_WF_tried 21 = .ok (.ireturn, 1) := dc_172 (q0_win (r := 21) wn_WF_tried_0 (by decide +kernel))
theorem d_WF_tried_22 : decode b_WF_tried 22 = .ok (.aload_n 0, 1) := dc_42 (q0_win (r := 22) wn_WF_tried_0 (by decide +kernel))
theorem d_WF_tried_23 : decode b_WF_tried 23 = .ok (.getfield 50, 3) := dc_180 (qU2_win (r := 23) wn_WF_tried_0 (by decide +kernel))
theorem d_WF_tried_26 : decode b_WF_tried 26 = .ok (.aload_n 0, 1) := dc_42 (q0_win (r := 26) wn_WF_tried_0 (by decide +kernel))
theorem d_WF_tried_27 : decode b_WF_tried 27 = .ok (.getfield 46, 3) := dc_180 (qU2_win (r := 27) wn_WF_tried_0 (by decide +kernel))
theorem d_WF_tried_30 : decode b_WF_tried 30 = .ok (.invokevirtual 299, 3) := dc_182 (qU2_win (r := 30) wn_WF_tried_0 (by decide +kernel))
theorem d_WF_tried_33 : decode b_WF_tried 33 = .ok (.iload_n 1, 1) := dc_27 (q0_win (r := 33) wn_WF_tried_0 (by decide +kernel))
theorem d_WF_tried_34 : decode b_WF_tried 34 = .ok (.tableswitch 86 0 4 #[34, 86, 45, 56, 71], 34) := by decide +kernel
theorem wn_WF_tried_68 : ∀ i, i < 96 → bA b_WF_tried (68 + i) = wB [42, 180, 0, 50, 9, 181, 0, 176, 167, 0, 44, 42, 180, 0, 50, 9, 181, 0, 165, 167, 0, 33, 42, 180, 0, 50, 180, 0, 201, 28, 7, 184, 1, 35, 167, 0, 18, 42, 180, 0, 50, 180, 0, 228, 28, 2, 184, 1, 35, 167, 0, 3, 3, 54, 4, 3, 54, 5, 21, 5, 29, 162, 0, 35, 21, 4, 42, 180, 0, 50, 42, 180, 0, 22, 27, 4, 159, 0, 7, 4, 167, 0, 4, 3, 182, 1, 16, 96, 54, 4, 132, 5, 1, 167, 255, 221] i := wB_of (by decide +kernel)
theorem d_WF_tried_68 : decode b_WF_tried 68 = .ok (.aload_n 0, 1) := dc_42 (q0_win (r := 0) wn_WF_tried_68 (by decide +kernel))
theorem d_WF_tried_69 : decode b_WF_tried 69 = .ok (.getfield 50, 3) := dc_180 (qU2_win (r := 1) wn_WF_tried_68 (by decide +kernel))
theorem d_WF_tried_72 : decode b_WF_tried 72 = .ok (.lconst 0, 1) := dc_9 (q0_win (r := 4) wn_WF_tried_68 (by decide +kernel))
theorem d_WF_tried_73 : decode b_WF_tried 73 = .ok (.putfield 176, 3) := dc_181 (qU2_win (r := 5) wn_WF_tried_68 (by decide +kernel))
theorem d_WF_tried_76 : decode b_WF_tried 76 = .ok (.goto 44, 3) := dc_167 (qS2_win (r := 8) wn_WF_tried_68 (by decide +kernel))
theorem d_WF_tried_79 : decode b_WF_tried 79 = .ok (.aload_n 0, 1) := dc_42 (q0_win (r := 11) wn_WF_tried_68 (by decide +kernel))
theorem d_WF_tried_80 : decode b_WF_tried 80 = .ok (.getfield 50, 3) := dc_180 (qU2_win (r := 12) wn_WF_tried_68 (by decide +kernel))
theorem d_WF_tried_83 : decode b_WF_tried 83 = .ok (.lconst 0, 1) := dc_9 (q0_win (r := 15) wn_WF_tried_68 (by decide +kernel))
theorem d_WF_tried_84 : decode b_WF_tried 84 = .ok (.putfield 165, 3) := dc_181 (qU2_win (r := 16) wn_WF_tried_68 (by decide +kernel))
theorem d_WF_tried_87 : decode b_WF_tried 87 = .ok (.goto 33, 3) := dc_167 (qS2_win (r := 19) wn_WF_tried_68 (by decide +kernel))
theorem d_WF_tried_90 : decode b_WF_tried 90 = .ok (.aload_n 0, 1) := dc_42 (q0_win (r := 22) wn_WF_tried_68 (by decide +kernel))
theorem d_WF_tried_91 : decode b_WF_tried 91 = .ok (.getfield 50, 3) := dc_180 (qU2_win (r := 23) wn_WF_tried_68 (by decide +kernel))
theorem d_WF_tried_94 : decode b_WF_tried 94 = .ok (.getfield 201, 3) := dc_180 (qU2_win (r := 26) wn_WF_tried_68 (by decide +kernel))
theorem d_WF_tried_97 : decode b_WF_tried 97 = .ok (.iload_n 2, 1) := dc_28 (q0_win (r := 29) wn_WF_tried_68 (by decide +kernel))
theorem d_WF_tried_98 : decode b_WF_tried 98 = .ok (.iconst 4, 1) := dc_7 (q0_win (r := 30) wn_WF_tried_68 (by decide +kernel))
theorem d_WF_tried_99 : decode b_WF_tried 99 = .ok (.invokestatic 291, 3) := dc_184 (qU2_win (r := 31) wn_WF_tried_68 (by decide +kernel))
theorem d_WF_tried_102 : decode b_WF_tried 102 = .ok (.goto 18, 3) := dc_167 (qS2_win (r := 34) wn_WF_tried_68 (by decide +kernel))
theorem d_WF_tried_105 : decode b_WF_tried 105 = .ok (.aload_n 0, 1) := dc_42 (q0_win (r := 37) wn_WF_tried_68 (by decide +kernel))
theorem d_WF_tried_106 : decode b_WF_tried 106 = .ok (.getfield 50, 3) := dc_180 (qU2_win (r := 38) wn_WF_tried_68 (by decide +kernel))
theorem d_WF_tried_109 : decode b_WF_tried 109 = .ok (.getfield 228, 3) := dc_180 (qU2_win (r := 41) wn_WF_tried_68 (by decide +kernel))
theorem d_WF_tried_112 : decode b_WF_tried 112 = .ok (.iload_n 2, 1) := dc_28 (q0_win (r := 44) wn_WF_tried_68 (by decide +kernel))
theorem d_WF_tried_113 : decode b_WF_tried 113 = .ok (.iconst (-1), 1) := dc_2 (q0_win (r := 45) wn_WF_tried_68 (by decide +kernel))
theorem d_WF_tried_114 : decode b_WF_tried 114 = .ok (.invokestatic 291, 3) := dc_184 (qU2_win (r := 46) wn_WF_tried_68 (by decide +kernel))
theorem d_WF_tried_117 : decode b_WF_tried 117 = .ok (.goto 3, 3) := dc_167 (qS2_win (r := 49) wn_WF_tried_68 (by decide +kernel))
theorem d_WF_tried_120 : decode b_WF_tried 120 = .ok (.iconst 0, 1) := dc_3 (q0_win (r := 52) wn_WF_tried_68 (by decide +kernel))
theorem d_WF_tried_121 : decode b_WF_tried 121 = .ok (.istore 4, 2) := dc_54 (qU1_win (r := 53) wn_WF_tried_68 (by decide +kernel))
theorem d_WF_tried_123 : decode b_WF_tried 123 = .ok (.iconst 0, 1) := dc_3 (q0_win (r := 55) wn_WF_tried_68 (by decide +kernel))
theorem d_WF_tried_124 : decode b_WF_tried 124 = .ok (.istore 5, 2) := dc_54 (qU1_win (r := 56) wn_WF_tried_68 (by decide +kernel))
theorem d_WF_tried_126 : decode b_WF_tried 126 = .ok (.iload 5, 2) := dc_21 (qU1_win (r := 58) wn_WF_tried_68 (by decide +kernel))
theorem d_WF_tried_128 : decode b_WF_tried 128 = .ok (.iload_n 3, 1) := dc_29 (q0_win (r := 60) wn_WF_tried_68 (by decide +kernel))
theorem d_WF_tried_129 : decode b_WF_tried 129 = .ok (.if_icmp .ge 35, 3) := dc_162 (qS2_win (r := 61) wn_WF_tried_68 (by decide +kernel))
theorem d_WF_tried_132 : decode b_WF_tried 132 = .ok (.iload 4, 2) := dc_21 (qU1_win (r := 64) wn_WF_tried_68 (by decide +kernel))
theorem d_WF_tried_134 : decode b_WF_tried 134 = .ok (.aload_n 0, 1) := dc_42 (q0_win (r := 66) wn_WF_tried_68 (by decide +kernel))
theorem d_WF_tried_135 : decode b_WF_tried 135 = .ok (.getfield 50, 3) := dc_180 (qU2_win (r := 67) wn_WF_tried_68 (by decide +kernel))
theorem d_WF_tried_138 : decode b_WF_tried 138 = .ok (.aload_n 0, 1) := dc_42 (q0_win (r := 70) wn_WF_tried_68 (by decide +kernel))
theorem d_WF_tried_139 : decode b_WF_tried 139 = .ok (.getfield 22, 3) := dc_180 (qU2_win (r := 71) wn_WF_tried_68 (by decide +kernel))
theorem d_WF_tried_142 : decode b_WF_tried 142 = .ok (.iload_n 1, 1) := dc_27 (q0_win (r := 74) wn_WF_tried_68 (by decide +kernel))
theorem d_WF_tried_143 : decode b_WF_tried 143 = .ok (.iconst 1, 1) := dc_4 (q0_win (r := 75) wn_WF_tried_68 (by decide +kernel))
theorem d_WF_tried_144 : decode b_WF_tried 144 = .ok (.if_icmp .eq 7, 3) := dc_159 (qS2_win (r := 76) wn_WF_tried_68 (by decide +kernel))
theorem d_WF_tried_147 : decode b_WF_tried 147 = .ok (.iconst 1, 1) := dc_4 (q0_win (r := 79) wn_WF_tried_68 (by decide +kernel))
theorem d_WF_tried_148 : decode b_WF_tried 148 = .ok (.goto 4, 3) := dc_167 (qS2_win (r := 80) wn_WF_tried_68 (by decide +kernel))
theorem d_WF_tried_151 : decode b_WF_tried 151 = .ok (.iconst 0, 1) := dc_3 (q0_win (r := 83) wn_WF_tried_68 (by decide +kernel))
theorem d_WF_tried_152 : decode b_WF_tried 152 = .ok (.invokevirtual 272, 3) := dc_182 (qU2_win (r := 84) wn_WF_tried_68 (by decide +kernel))
theorem d_WF_tried_155 : decode b_WF_tried 155 = .ok (.iadd, 1) := dc_96 (q0_win (r := 87) wn_WF_tried_68 (by decide +kernel))
theorem d_WF_tried_156 : decode b_WF_tried 156 = .ok (.istore 4, 2) := dc_54 (qU1_win (r := 88) wn_WF_tried_68 (by decide +kernel))
theorem d_WF_tried_158 : decode b_WF_tried 158 = .ok (.iinc 5 1, 3) := dc_132 (qI_win (r := 90) wn_WF_tried_68 (by decide +kernel))
theorem d_WF_tried_161 : decode b_WF_tried 161 = .ok (.goto (-35), 3) := dc_167 (qS2_win (r := 93) wn_WF_tried_68 (by decide +kernel))
theorem wn_WF_tried_164 : ∀ i, i < 3 → bA b_WF_tried (164 + i) = wB [21, 4, 172] i := wB_of (by decide +kernel)
theorem d_WF_tried_164 : decode b_WF_tried 164 = .ok (.iload 4, 2) := dc_21 (qU1_win (r := 0) wn_WF_tried_164 (by decide +kernel))
theorem d_WF_tried_166 : decode b_WF_tried 166 = .ok (.ireturn, 1) := dc_172 (q0_win (r := 2) wn_WF_tried_164 (by decide +kernel))
def t_WF_tried_L152 (x1 : Int) (x2 : Int) (x3 : Int) (bk126 : Mem → Int → Int → Option (Mem × Int)) (M : Mem) (v3_ : Int) (v4_ : Int) (u6_ : Nat) (v7_ : Int) : Option (Mem × Int) := (obind (t_Scene_beat M 52 u6_ v7_) fun q22 => (bk126 (q22.1) (w32 (v4_ + (q22.2))) (w32 (v3_ + 1))))
def t_WF_tried_L126 (x1 : Int) (x2 : Int) (x3 : Int)  : Nat → Mem → Int → Int → Option (Mem × Int)
  | 0, _, _, _ => none
  | fu + 1, M, v3_, v4_ => (if x3 ≤ v4_ then (some (M, v3_)) else (if x1 = 1 then (t_WF_tried_L152 x1 x2 x3 (fun a0_ a1_ a2_ => t_WF_tried_L126 x1 x2 x3 fu a0_ a1_ a2_) M v4_ v3_ ((M.1 0 4).toNat) 0) else (t_WF_tried_L152 x1 x2 x3 (fun a0_ a1_ a2_ => t_WF_tried_L126 x1 x2 x3 fu a0_ a1_ a2_) M v4_ v3_ ((M.1 0 4).toNat) 1)))
def t_WF_tried_L120 (x1 : Int) (x2 : Int) (x3 : Int)  (M : Mem)  : Option (Mem × Int) := (t_WF_tried_L126 x1 x2 x3 FU M 0 0)
def t_WF_tried (M : Mem) (x1 : Int) (x2 : Int) (x3 : Int) : Option (Mem × Int) := (if x3 < 0 then (some (M, (-1))) else (if 200 < x3 then (some (M, (-1))) else (qlet (t_WF_canTry M x1 x2) fun q3 => (if q3 = 0 then (some (M, (-1))) else (qlet (t_Scene_copy M 52 47) fun q6 => (if x1 = 0 then (qlet (setL q6 52 5 0) fun M9 => (t_WF_tried_L120 x1 x2 x3 M9)) else (if x1 = 1 then (t_WF_tried_L120 x1 x2 x3 q6) else (if x1 = 2 then (qlet (setL q6 52 4 0) fun M12 => (t_WF_tried_L120 x1 x2 x3 M12)) else (if x1 = 3 then (qlet (t_WF_put q6 53 4 x2 4) fun q14 => (t_WF_tried_L120 x1 x2 x3 q14)) else (if x1 = 4 then (qlet (t_WF_put q6 54 8 x2 (-1)) fun q17 => (t_WF_tried_L120 x1 x2 x3 q17)) else (t_WF_tried_L120 x1 x2 x3 q6)))))))))))
set_option maxHeartbeats 4000000 in
set_option maxRecDepth 100000 in
theorem k_WF_tried_L152 (l : Launch) {p : Program} {e : Env} {s : State} {m : MethodId} {below : List Frame} {meth : Method} {c : Code} {b n : Nat} {C : CT} (hlo : 191 ≤ n) (x1 : Int) (x2 : Int) (x3 : Int) (hx1 : InR x1) (hx2 : InR x2) (hx3 : InR x3) (F : Cx b p m c b_WF_tried 6 s ([.ref (b + 0), vI x1, vI x2, vI x3] : List Value).toArray "WardFalls" C n 191) (hlk : meth.locks = false) (hr : meth.sig.returnType = some .int) {res : Mem × Int} (bk126 : Mem → Int → Int → Option (Mem × Int)) (hbk126 : ∀ (M : Mem) (v3_ : Int) (hv3_ : InR v3_) (v4_ : Int) (hv4_ : InR v4_) (H : Heap) (locs : List Loc) (ls : Array Slot), St b C n M s H locs → lv_has ls 6 [(0, .ref (b + 0)), (1, vI x1), (3, vI x3), (4, vI v3_), (5, vI v4_)] → bk126 M v3_ v4_ = some res → W p l e (headSpec (wsM y_WF_tried b_WF_tried 6 (some .int)) (rmD 4)).room s m ([.ref (b + 0), vI x1, vI x2, vI x3] : List Value).toArray below meth c H locs 0 0 (MQ below (QI b C n res.1 res.2) ([.ref (b + 0), vI x1, vI x2, vI x3] : List Value).toArray s 0 0 (frb b)) (F0 m 126 ls [])) (M : Mem) (v3_ : Int) (hv3_ : InR v3_) (v4_ : Int) (hv4_ : InR v4_) (u6_ : Nat) (hu6_ : isTown u6_) (v7_ : Int) (hv7_ : v7_ = 0 ∨ v7_ = 1) (H : Heap) (locs : List Loc) (ls : Array Slot) (hS : St b C n M s H locs) (hl : lv_has ls 6 [(0, .ref (b + 0)), (1, vI x1), (3, vI x3), (5, vI v3_)]) (hT : t_WF_tried_L152 x1 x2 x3 bk126 M v3_ v4_ u6_ v7_ = some res) : W p l e (headSpec (wsM y_WF_tried b_WF_tried 6 (some .int)) (rmD 4)).room s m ([.ref (b + 0), vI x1, vI x2, vI x3] : List Value).toArray below meth c H locs 0 0 (MQ below (QI b C n res.1 res.2) ([.ref (b + 0), vI x1, vI x2, vI x3] : List Value).toArray s 0 0 (frb b)) (F0 m 152 ls [vI v7_, .ref (b + u6_), .ref (b + 52), vI v4_]) := by
  unfold t_WF_tried_L152 at hT
  obtain ⟨q22, hq22, hT⟩ := q_obind hT
  refine r_backI F hS (r_runV (k := 52) (N := 7) (T := T9) (As := [.ref (b + u6_), vI v7_]) F hS (show 52 < 191 by decide) (show shK 52 = 13 from rfl) rfl (c_Scene_beat l F.2.2.1 M 52 u6_ v7_ (by decide : isScene 52) hu6_ (inr_z hv7_) _ hq22) gs_WF_272 hd_Scene_beat ⟨Nat.le_of_ble_eq_true rfl, Nat.le_of_ble_eq_true rfl⟩ rfl hl.1 (Nat.le_of_ble_eq_true rfl) ⟨Nat.zero_le _, Nat.zero_le _⟩ rfl d_WF_tried_152) (fun H locs hS h23 => ?_)
  refine r_iadd F.hx F.hb d_WF_tried_155 ?_
  refine lv_istore (lv' := [(4, vI (w32 (v4_ + (q22.2)))), (0, .ref (b + 0)), (1, vI x1), (3, vI x3), (5, vI v3_)]) F.hx F.hb d_WF_tried_156 hl (Nat.le_of_ble_eq_true rfl) rfl (fun ls hl => ?_)
  refine lv_iinc (v := Int32.ofInt (w32 (v3_ + 1))) (lv' := [(5, vI (w32 (v3_ + 1))), (4, vI (w32 (v4_ + (q22.2)))), (0, .ref (b + 0)), (1, vI x1), (3, vI x3)]) F.hx F.hb d_WF_tried_158 hl (k := 4) rfl (q_of_add _ _) (Nat.le_of_ble_eq_true rfl) rfl (fun ls hl => ?_)
  refine lv_goto (tgt := 126) F.hx F.hb d_WF_tried_161 (by decide) ?_
  exact hbk126 (q22.1) (w32 (v4_ + (q22.2))) (inr_w32 _) (w32 (v3_ + 1)) (inr_w32 _) _ _ _ hS (lv_sub hl [2, 3, 4, 1, 0] rfl) hT
set_option maxHeartbeats 4000000 in
set_option maxRecDepth 100000 in
theorem k_WF_tried_L126 (l : Launch) {p : Program} {e : Env} {s : State} {m : MethodId} {below : List Frame} {meth : Method} {c : Code} {b n : Nat} {C : CT} (hlo : 191 ≤ n) (x1 : Int) (x2 : Int) (x3 : Int) (hx1 : InR x1) (hx2 : InR x2) (hx3 : InR x3) (F : Cx b p m c b_WF_tried 6 s ([.ref (b + 0), vI x1, vI x2, vI x3] : List Value).toArray "WardFalls" C n 191) (hlk : meth.locks = false) (hr : meth.sig.returnType = some .int) {res : Mem × Int} : ∀ (fu : Nat) (M : Mem) (v3_ : Int) (hv3_ : InR v3_) (v4_ : Int) (hv4_ : InR v4_) (H : Heap) (locs : List Loc) (ls : Array Slot), St b C n M s H locs → lv_has ls 6 [(0, .ref (b + 0)), (1, vI x1), (3, vI x3), (4, vI v3_), (5, vI v4_)] → t_WF_tried_L126 x1 x2 x3 fu M v3_ v4_ = some res → W p l e (headSpec (wsM y_WF_tried b_WF_tried 6 (some .int)) (rmD 4)).room s m ([.ref (b + 0), vI x1, vI x2, vI x3] : List Value).toArray below meth c H locs 0 0 (MQ below (QI b C n res.1 res.2) ([.ref (b + 0), vI x1, vI x2, vI x3] : List Value).toArray s 0 0 (frb b)) (F0 m 126 ls []) := by
  intro fu
  induction fu with
  | zero => intro M v3_ hv3_ v4_ hv4_ H locs ls hS hl hT; exact absurd hT (by simp [t_WF_tried_L126])
  | succ fu ih =>
    intro M v3_ hv3_ v4_ hv4_ H locs ls hS hl hT
    rw [t_WF_tried_L126] at hT
    refine lv_iload F.hx F.hb d_WF_tried_126 (lv_at hl 4 rfl) ?_
    refine lv_iload_n F.hx F.hb d_WF_tried_128 rfl (lv_at hl 2 rfl) ?_
    refine r_icmp_ge (tgt := 164) F.hx F.hb hv4_ hx3 d_WF_tried_129 (by decide) (fun c19 => ?_) (fun c19 => ?_)
    · replace hT := (if_pos c19).symm.trans hT
      refine lv_iload F.hx F.hb d_WF_tried_164 (lv_at hl 3 rfl) ?_
      cases hT
      exact r_iret F hlk hr rfl hS hv3_ d_WF_tried_166
    · replace hT := (if_neg c19).symm.trans hT
      refine lv_iload F.hx F.hb d_WF_tried_132 (lv_at hl 3 rfl) ?_
      refine lv_aload_n F.hx F.hb d_WF_tried_134 rfl (lv_at hl 0 rfl) ?_
      refine r_get (v := .ref (b + 52)) (N := 19) (T := T0) (j := 9) F hS (show 0 < 191 by decide) (show shK 0 = 4 from rfl) (show shN 0 = 19 from rfl) rfl (Nat.le_of_ble_eq_true rfl) ing0 mw_559 (fv_sg rfl rfl rfl) d_WF_tried_135 ?_
      refine lv_aload_n F.hx F.hb d_WF_tried_138 rfl (lv_at hl 0 rfl) ?_
      have h20 := St_town hS
      refine r_get (v := .ref (b + ((M.1 0 4).toNat))) (N := 19) (T := T0) (j := 4) F hS (show 0 < 191 by decide) (show shK 0 = 4 from rfl) (show shN 0 = 19 from rfl) rfl (Nat.le_of_ble_eq_true rfl) ing0 mw_554 (fv_town hS) d_WF_tried_139 ?_
      refine lv_iload_n F.hx F.hb d_WF_tried_142 rfl (lv_at hl 1 rfl) ?_
      refine r_iconst F.hx F.hb d_WF_tried_143 ?_
      refine r_icmp_eq (tgt := 151) F.hx F.hb hx1 (inr_c rfl) d_WF_tried_144 (by decide) (fun c21 => ?_) (fun c21 => ?_)
      · replace hT := (if_pos c21).symm.trans hT
        refine r_iconst F.hx F.hb d_WF_tried_151 ?_
        exact k_WF_tried_L152 l hlo x1 x2 x3 hx1 hx2 hx3 F hlk hr (fun a0_ a1_ a2_ => t_WF_tried_L126 x1 x2 x3 fu a0_ a1_ a2_) ih M v4_ hv4_ v3_ hv3_ ((M.1 0 4).toNat) h20 0 (Or.inl rfl) _ _ _ hS (lv_sub hl [0, 1, 2, 4] rfl) hT
      · replace hT := (if_neg c21).symm.trans hT
        refine r_iconst F.hx F.hb d_WF_tried_147 ?_
        refine lv_goto (tgt := 152) F.hx F.hb d_WF_tried_148 (by decide) ?_
        exact k_WF_tried_L152 l hlo x1 x2 x3 hx1 hx2 hx3 F hlk hr (fun a0_ a1_ a2_ => t_WF_tried_L126 x1 x2 x3 fu a0_ a1_ a2_) ih M v4_ hv4_ v3_ hv3_ ((M.1 0 4).toNat) h20 1 (Or.inr rfl) _ _ _ hS (lv_sub hl [0, 1, 2, 4] rfl) hT
set_option maxHeartbeats 4000000 in
set_option maxRecDepth 100000 in
theorem k_WF_tried_L120 (l : Launch) {p : Program} {e : Env} {s : State} {m : MethodId} {below : List Frame} {meth : Method} {c : Code} {b n : Nat} {C : CT} (hlo : 191 ≤ n) (x1 : Int) (x2 : Int) (x3 : Int) (hx1 : InR x1) (hx2 : InR x2) (hx3 : InR x3) (F : Cx b p m c b_WF_tried 6 s ([.ref (b + 0), vI x1, vI x2, vI x3] : List Value).toArray "WardFalls" C n 191) (hlk : meth.locks = false) (hr : meth.sig.returnType = some .int) {res : Mem × Int} (M : Mem)  (H : Heap) (locs : List Loc) (ls : Array Slot) (hS : St b C n M s H locs) (hl : lv_has ls 6 [(0, .ref (b + 0)), (1, vI x1), (3, vI x3)]) (hT : t_WF_tried_L120 x1 x2 x3 M = some res) : W p l e (headSpec (wsM y_WF_tried b_WF_tried 6 (some .int)) (rmD 4)).room s m ([.ref (b + 0), vI x1, vI x2, vI x3] : List Value).toArray below meth c H locs 0 0 (MQ below (QI b C n res.1 res.2) ([.ref (b + 0), vI x1, vI x2, vI x3] : List Value).toArray s 0 0 (frb b)) (F0 m 120 ls []) := by
  unfold t_WF_tried_L120 at hT
  refine r_iconst F.hx F.hb d_WF_tried_120 ?_
  refine lv_istore (lv' := [(4, vI 0), (0, .ref (b + 0)), (1, vI x1), (3, vI x3)]) F.hx F.hb d_WF_tried_121 hl (Nat.le_of_ble_eq_true rfl) rfl (fun ls hl => ?_)
  refine r_iconst F.hx F.hb d_WF_tried_123 ?_
  refine lv_istore (lv' := [(5, vI 0), (4, vI 0), (0, .ref (b + 0)), (1, vI x1), (3, vI x3)]) F.hx F.hb d_WF_tried_124 hl (Nat.le_of_ble_eq_true rfl) rfl (fun ls hl => ?_)
  exact k_WF_tried_L126 l hlo x1 x2 x3 hx1 hx2 hx3 F hlk hr FU M 0 (inr_c rfl) 0 (inr_c rfl) _ _ _ hS (lv_sub hl [2, 3, 4, 1, 0] rfl) hT
set_option maxHeartbeats 4000000 in
set_option maxRecDepth 100000 in
theorem c_WF_tried (l : Launch) {b n : Nat} {C : CT} (hlo : 191 ≤ n) (M : Mem) (x1 : Int) (x2 : Int) (x3 : Int) (hx1 : InR x1) (hx2 : InR x2) (hx3 : InR x3) (res : Mem × Int) (hT : t_WF_tried M x1 x2 x3 = some res) : CM l b C n 4 y_WF_tried b_WF_tried 6 (some .int) [.ref (b + 0), vI x1, vI x2, vI x3] M (QI b C n res.1 res.2) := by
  refine CM.of (lo := 191) (ow := "WardFalls") (by decide) rfl (Nat.le_of_ble_eq_true rfl) hlo (fun p e s m below meth c F hlk hr hS ls hl => ?_)
  have hl : lv_has ls 6 [(0, .ref (b + 0)), (1, vI x1), (2, vI x2), (3, vI x3)] := hl
  unfold t_WF_tried at hT
  refine lv_iload_n F.hx F.hb d_WF_tried_0 rfl (lv_at hl 3 rfl) ?_
  refine r_if_lt (tgt := 20) F.hx F.hb hx3 d_WF_tried_1 (by decide) (fun c1 => ?_) (fun c1 => ?_)
  · replace hT := (if_pos c1).symm.trans hT
    refine r_iconst F.hx F.hb d_WF_tried_20 ?_
    cases hT
    exact r_iret F hlk hr rfl hS (inr_c rfl) d_WF_tried_21
  · replace hT := (if_neg c1).symm.trans hT
    refine lv_iload_n F.hx F.hb d_WF_tried_4 rfl (lv_at hl 3 rfl) ?_
    refine r_sipush F.hx F.hb d_WF_tried_5 rfl ?_
    refine r_icmp_gt (tgt := 20) F.hx F.hb hx3 (inr_c rfl) d_WF_tried_8 (by decide) (fun c2 => ?_) (fun c2 => ?_)
    · replace hT := (if_pos c2).symm.trans hT
      refine r_iconst F.hx F.hb d_WF_tried_20 ?_
      cases hT
      exact r_iret F hlk hr rfl hS (inr_c rfl) d_WF_tried_21
    · replace hT := (if_neg c2).symm.trans hT
      refine lv_aload_n F.hx F.hb d_WF_tried_11 rfl (lv_at hl 0 rfl) ?_
      refine lv_iload_n F.hx F.hb d_WF_tried_12 rfl (lv_at hl 1 rfl) ?_
      refine lv_iload_n F.hx F.hb d_WF_tried_13 rfl (lv_at hl 2 rfl) ?_
      obtain ⟨q3, hq3⟩ : ∃ q, q = (t_WF_canTry M x1 x2) := ⟨_, rfl⟩
      replace hT := qlet_eq hT hq3
      refine r_backZ F hS (r_runV (k := 0) (N := 19) (T := T0) (As := [vI x1, vI x2]) F hS (show 0 < 191 by decide) (show shK 0 = 4 from rfl) rfl (c_WF_canTry l F.2.2.1 M x1 x2 hx1 hx2 _ hq3.symm) gs_WF_400 hd_WF_canTry ⟨Nat.le_of_ble_eq_true rfl, Nat.le_of_ble_eq_true rfl⟩ rfl hl.1 (Nat.le_of_ble_eq_true rfl) ⟨Nat.zero_le _, Nat.zero_le _⟩ rfl d_WF_tried_14) (fun H locs hS h4 => ?_)
      refine r_if_ne (tgt := 22) F.hx F.hb (inr_z h4) d_WF_tried_17 (by decide) (fun c5 => ?_) (fun c5 => ?_)
      · replace hT := (if_neg c5).symm.trans hT
        refine lv_aload_n F.hx F.hb d_WF_tried_22 rfl (lv_at hl 0 rfl) ?_
        refine r_get (v := .ref (b + 52)) (N := 19) (T := T0) (j := 9) F hS (show 0 < 191 by decide) (show shK 0 = 4 from rfl) (show shN 0 = 19 from rfl) rfl (Nat.le_of_ble_eq_true rfl) ing0 mw_559 (fv_sg rfl rfl rfl) d_WF_tried_23 ?_
        refine lv_aload_n F.hx F.hb d_WF_tried_26 rfl (lv_at hl 0 rfl) ?_
        refine r_get (v := .ref (b + 47)) (N := 19) (T := T0) (j := 8) F hS (show 0 < 191 by decide) (show shK 0 = 4 from rfl) (show shN 0 = 19 from rfl) rfl (Nat.le_of_ble_eq_true rfl) ing0 mw_558 (fv_sg rfl rfl rfl) d_WF_tried_27 ?_
        obtain ⟨q6, hq6⟩ : ∃ q, q = (t_Scene_copy M 52 47) := ⟨_, rfl⟩
        replace hT := qlet_eq hT hq6
        refine r_backV F hS (r_runV (k := 52) (N := 7) (T := T9) (As := [.ref (b + 47)]) F hS (show 52 < 191 by decide) (show shK 52 = 13 from rfl) rfl (c_Scene_copy l F.2.2.1 M 52 47 (by decide : isScene 52) (by decide : isScene 47) _ hq6.symm) gs_WF_299 hd_Scene_copy ⟨Nat.le_of_ble_eq_true rfl, Nat.le_of_ble_eq_true rfl⟩ rfl hl.1 (Nat.le_of_ble_eq_true rfl) ⟨Nat.zero_le _, Nat.zero_le _⟩ rfl d_WF_tried_30) (fun H locs hS => ?_)
        refine lv_iload_n F.hx F.hb d_WF_tried_33 rfl (lv_at hl 1 rfl) ?_
        rcases q_ite hT with ⟨c8, hT⟩ | ⟨c8, hT⟩
        · refine r_tableIn (i := 0) (tgt := 68) F.hx F.hb hx1 c8 d_WF_tried_34 (by decide) (by decide) rfl (by decide) ?_
          refine lv_aload_n F.hx F.hb d_WF_tried_68 rfl (lv_at hl 0 rfl) ?_
          refine r_get (v := .ref (b + 52)) (N := 19) (T := T0) (j := 9) F hS (show 0 < 191 by decide) (show shK 0 = 4 from rfl) (show shN 0 = 19 from rfl) rfl (Nat.le_of_ble_eq_true rfl) ing0 mw_559 (fv_sg rfl rfl rfl) d_WF_tried_69 ?_
          refine lv_lconst (v := 0) F.hx F.hb d_WF_tried_72 rfl ?_
          refine r_putL (N := 7) (T := T9) (j := 5) F hS (show 52 < 191 by decide) (show shK 52 = 13 from rfl) (show shN 52 = 7 from rfl) rfl (Nat.le_of_ble_eq_true rfl) ing9 tyok9 nm9 rfl rfl rfl mw_290 d_WF_tried_73 (fun H locs hS => ?_)
          obtain ⟨M9, eM9⟩ : ∃ q, q = (setL q6 52 5 0) := ⟨_, rfl⟩
          replace hS : St b C n M9 s H locs := by rw [eM9]; exact hS
          replace hT := qlet_eq hT eM9
          refine lv_goto (tgt := 120) F.hx F.hb d_WF_tried_76 (by decide) ?_
          exact k_WF_tried_L120 l hlo x1 x2 x3 hx1 hx2 hx3 F hlk hr M9 _ _ _ hS (lv_sub hl [0, 1, 3] rfl) hT
        ·
          rcases q_ite hT with ⟨c10, hT⟩ | ⟨c10, hT⟩
          · refine r_tableIn (i := 1) (tgt := 120) F.hx F.hb hx1 c10 d_WF_tried_34 (by decide) (by decide) rfl (by decide) ?_
            exact k_WF_tried_L120 l hlo x1 x2 x3 hx1 hx2 hx3 F hlk hr q6 _ _ _ hS (lv_sub hl [0, 1, 3] rfl) hT
          ·
            rcases q_ite hT with ⟨c11, hT⟩ | ⟨c11, hT⟩
            · refine r_tableIn (i := 2) (tgt := 79) F.hx F.hb hx1 c11 d_WF_tried_34 (by decide) (by decide) rfl (by decide) ?_
              refine lv_aload_n F.hx F.hb d_WF_tried_79 rfl (lv_at hl 0 rfl) ?_
              refine r_get (v := .ref (b + 52)) (N := 19) (T := T0) (j := 9) F hS (show 0 < 191 by decide) (show shK 0 = 4 from rfl) (show shN 0 = 19 from rfl) rfl (Nat.le_of_ble_eq_true rfl) ing0 mw_559 (fv_sg rfl rfl rfl) d_WF_tried_80 ?_
              refine lv_lconst (v := 0) F.hx F.hb d_WF_tried_83 rfl ?_
              refine r_putL (N := 7) (T := T9) (j := 4) F hS (show 52 < 191 by decide) (show shK 52 = 13 from rfl) (show shN 52 = 7 from rfl) rfl (Nat.le_of_ble_eq_true rfl) ing9 tyok9 nm9 rfl rfl rfl mw_287 d_WF_tried_84 (fun H locs hS => ?_)
              obtain ⟨M12, eM12⟩ : ∃ q, q = (setL q6 52 4 0) := ⟨_, rfl⟩
              replace hS : St b C n M12 s H locs := by rw [eM12]; exact hS
              replace hT := qlet_eq hT eM12
              refine lv_goto (tgt := 120) F.hx F.hb d_WF_tried_87 (by decide) ?_
              exact k_WF_tried_L120 l hlo x1 x2 x3 hx1 hx2 hx3 F hlk hr M12 _ _ _ hS (lv_sub hl [0, 1, 3] rfl) hT
            ·
              rcases q_ite hT with ⟨c13, hT⟩ | ⟨c13, hT⟩
              · refine r_tableIn (i := 3) (tgt := 90) F.hx F.hb hx1 c13 d_WF_tried_34 (by decide) (by decide) rfl (by decide) ?_
                refine lv_aload_n F.hx F.hb d_WF_tried_90 rfl (lv_at hl 0 rfl) ?_
                refine r_get (v := .ref (b + 52)) (N := 19) (T := T0) (j := 9) F hS (show 0 < 191 by decide) (show shK 0 = 4 from rfl) (show shN 0 = 19 from rfl) rfl (Nat.le_of_ble_eq_true rfl) ing0 mw_559 (fv_sg rfl rfl rfl) d_WF_tried_91 ?_
                refine r_get (v := .ref (b + 53)) (N := 7) (T := T9) (j := 0) F hS (show 52 < 191 by decide) (show shK 52 = 13 from rfl) (show shN 52 = 7 from rfl) rfl (Nat.le_of_ble_eq_true rfl) ing9 mw_276 (fv_sg rfl rfl rfl) d_WF_tried_94 ?_
                refine lv_iload_n F.hx F.hb d_WF_tried_97 rfl (lv_at hl 2 rfl) ?_
                refine r_iconst F.hx F.hb d_WF_tried_98 ?_
                obtain ⟨q14, hq14⟩ : ∃ q, q = (t_WF_put q6 53 4 x2 4) := ⟨_, rfl⟩
                replace hT := qlet_eq hT hq14
                refine r_backV F hS (r_runS (As := [.ref (b + 53), vI x2, vI 4]) F hS (c_WF_put l F.2.2.1 q6 53 4 x2 4 (show arrP 0 53 4 191 from ⟨rfl, rfl, by decide⟩) hx2 (inr_c rfl) _ hq14.symm) gs_WF_291 hd_WF_put ⟨Nat.le_of_ble_eq_true rfl, Nat.le_of_ble_eq_true rfl⟩ rfl hl.1 (Nat.le_of_ble_eq_true rfl) ⟨Nat.zero_le _, Nat.zero_le _⟩ rfl d_WF_tried_99) (fun H locs hS => ?_)
                refine lv_goto (tgt := 120) F.hx F.hb d_WF_tried_102 (by decide) ?_
                exact k_WF_tried_L120 l hlo x1 x2 x3 hx1 hx2 hx3 F hlk hr q14 _ _ _ hS (lv_sub hl [0, 1, 3] rfl) hT
              ·
                rcases q_ite hT with ⟨c16, hT⟩ | ⟨c16, hT⟩
                · refine r_tableIn (i := 4) (tgt := 105) F.hx F.hb hx1 c16 d_WF_tried_34 (by decide) (by decide) rfl (by decide) ?_
                  refine lv_aload_n F.hx F.hb d_WF_tried_105 rfl (lv_at hl 0 rfl) ?_
                  refine r_get (v := .ref (b + 52)) (N := 19) (T := T0) (j := 9) F hS (show 0 < 191 by decide) (show shK 0 = 4 from rfl) (show shN 0 = 19 from rfl) rfl (Nat.le_of_ble_eq_true rfl) ing0 mw_559 (fv_sg rfl rfl rfl) d_WF_tried_106 ?_
                  refine r_get (v := .ref (b + 54)) (N := 7) (T := T9) (j := 1) F hS (show 52 < 191 by decide) (show shK 52 = 13 from rfl) (show shN 52 = 7 from rfl) rfl (Nat.le_of_ble_eq_true rfl) ing9 mw_280 (fv_sg rfl rfl rfl) d_WF_tried_109 ?_
                  refine lv_iload_n F.hx F.hb d_WF_tried_112 rfl (lv_at hl 2 rfl) ?_
                  refine r_iconst F.hx F.hb d_WF_tried_113 ?_
                  obtain ⟨q17, hq17⟩ : ∃ q, q = (t_WF_put q6 54 8 x2 (-1)) := ⟨_, rfl⟩
                  replace hT := qlet_eq hT hq17
                  refine r_backV F hS (r_runS (As := [.ref (b + 54), vI x2, vI (-1)]) F hS (c_WF_put l F.2.2.1 q6 54 8 x2 (-1) (show arrP 0 54 8 191 from ⟨rfl, rfl, by decide⟩) hx2 (inr_c rfl) _ hq17.symm) gs_WF_291 hd_WF_put ⟨Nat.le_of_ble_eq_true rfl, Nat.le_of_ble_eq_true rfl⟩ rfl hl.1 (Nat.le_of_ble_eq_true rfl) ⟨Nat.zero_le _, Nat.zero_le _⟩ rfl d_WF_tried_114) (fun H locs hS => ?_)
                  refine lv_goto (tgt := 120) F.hx F.hb d_WF_tried_117 (by decide) ?_
                  exact k_WF_tried_L120 l hlo x1 x2 x3 hx1 hx2 hx3 F hlk hr q17 _ _ _ hS (lv_sub hl [0, 1, 3] rfl) hT
                ·
                  refine r_tableOut (tgt := 120) F.hx F.hb hx1 (by omega) d_WF_tried_34 (by decide) ?_
                  exact k_WF_tried_L120 l hlo x1 x2 x3 hx1 hx2 hx3 F hlk hr q6 _ _ _ hS (lv_sub hl [0, 1, 3] rfl) hT
      · replace hT := (if_pos c5).symm.trans hT
        refine r_iconst F.hx F.hb d_WF_tried_20 ?_
        cases hT
        exact r_iret F hlk hr rfl hS (inr_c rfl) d_WF_tried_21
theorem d_Past_takeBack_0 : decode b_Past_takeBack 0 = .ok (.aload_n 0, 1) := dc_42 (by decide +kernel)
theorem d_Past_takeBack_1 : decode b_Past_takeBack 1 = .ok (.getfield 18, 3) := dc_180 (by decide +kernel)
theorem d_Past_takeBack_4 : decode b_Past_takeBack 4 = .ok (.ifCond .ne 5, 3) := dc_154 (by decide +kernel)
theorem d_Past_takeBack_7 : decode b_Past_takeBack 7 = .ok (.iconst 0, 1) := dc_3 (by decide +kernel)
theorem d_Past_takeBack_8 : decode b_Past_takeBack 8 = .ok (.ireturn, 1) := dc_172 (by decide +kernel)
theorem d_Past_takeBack_9 : decode b_Past_takeBack 9 = .ok (.aload_n 0, 1) := dc_42 (by decide +kernel)
theorem d_Past_takeBack_10 : decode b_Past_takeBack 10 = .ok (.getfield 22, 3) := dc_180 (by decide +kernel)
theorem d_Past_takeBack_13 : decode b_Past_takeBack 13 = .ok (.ifCond .lt 40, 3) := dc_155 (by decide +kernel)
theorem d_Past_takeBack_16 : decode b_Past_takeBack 16 = .ok (.aload_n 0, 1) := dc_42 (by decide +kernel)
theorem d_Past_takeBack_17 : decode b_Past_takeBack 17 = .ok (.getfield 22, 3) := dc_180 (by decide +kernel)
theorem d_Past_takeBack_20 : decode b_Past_takeBack 20 = .ok (.aload_n 0, 1) := dc_42 (by decide +kernel)
theorem d_Past_takeBack_21 : decode b_Past_takeBack 21 = .ok (.getfield 11, 3) := dc_180 (by decide +kernel)
theorem d_Past_takeBack_24 : decode b_Past_takeBack 24 = .ok (.arraylength, 1) := dc_190 (by decide +kernel)
theorem d_Past_takeBack_25 : decode b_Past_takeBack 25 = .ok (.if_icmp .ge 28, 3) := dc_162 (by decide +kernel)
theorem d_Past_takeBack_28 : decode b_Past_takeBack 28 = .ok (.aload_n 0, 1) := dc_42 (by decide +kernel)
theorem d_Past_takeBack_29 : decode b_Past_takeBack 29 = .ok (.getfield 11, 3) := dc_180 (by decide +kernel)
theorem d_Past_takeBack_32 : decode b_Past_takeBack 32 = .ok (.aload_n 0, 1) := dc_42 (by decide +kernel)
theorem d_Past_takeBack_33 : decode b_Past_takeBack 33 = .ok (.getfield 22, 3) := dc_180 (by decide +kernel)
theorem d_Past_takeBack_36 : decode b_Past_takeBack 36 = .ok (.aaload, 1) := dc_50 (by decide +kernel)
theorem d_Past_takeBack_37 : decode b_Past_takeBack 37 = .ok (.ifnull 16, 3) := dc_198 (by decide +kernel)
theorem d_Past_takeBack_40 : decode b_Past_takeBack 40 = .ok (.aload_n 1, 1) := dc_43 (by decide +kernel)
theorem d_Past_takeBack_41 : decode b_Past_takeBack 41 = .ok (.aload_n 0, 1) := dc_42 (by decide +kernel)
theorem d_Past_takeBack_42 : decode b_Past_takeBack 42 = .ok (.getfield 11, 3) := dc_180 (by decide +kernel)
theorem d_Past_takeBack_45 : decode b_Past_takeBack 45 = .ok (.aload_n 0, 1) := dc_42 (by decide +kernel)
theorem d_Past_takeBack_46 : decode b_Past_takeBack 46 = .ok (.getfield 22, 3) := dc_180 (by decide +kernel)
theorem d_Past_takeBack_49 : decode b_Past_takeBack 49 = .ok (.aaload, 1) := dc_50 (by decide +kernel)
theorem d_Past_takeBack_50 : decode b_Past_takeBack 50 = .ok (.invokevirtual 25, 3) := dc_182 (by decide +kernel)
theorem d_Past_takeBack_53 : decode b_Past_takeBack 53 = .ok (.aload_n 0, 1) := dc_42 (by decide +kernel)
theorem d_Past_takeBack_54 : decode b_Past_takeBack 54 = .ok (.aload_n 0, 1) := dc_42 (by decide +kernel)
theorem d_Past_takeBack_55 : decode b_Past_takeBack 55 = .ok (.getfield 22, 3) := dc_180 (by decide +kernel)
theorem d_Past_takeBack_58 : decode b_Past_takeBack 58 = .ok (.ifCond .le 12, 3) := dc_158 (by decide +kernel)
theorem d_Past_takeBack_61 : decode b_Past_takeBack 61 = .ok (.aload_n 0, 1) := dc_42 (by decide +kernel)
theorem d_Past_takeBack_62 : decode b_Past_takeBack 62 = .ok (.getfield 22, 3) := dc_180 (by decide +kernel)
theorem d_Past_takeBack_65 : decode b_Past_takeBack 65 = .ok (.iconst 1, 1) := dc_4 (by decide +kernel)
theorem d_Past_takeBack_66 : decode b_Past_takeBack 66 = .ok (.isub, 1) := dc_100 (by decide +kernel)
theorem d_Past_takeBack_67 : decode b_Past_takeBack 67 = .ok (.goto 10, 3) := dc_167 (by decide +kernel)
theorem d_Past_takeBack_70 : decode b_Past_takeBack 70 = .ok (.aload_n 0, 1) := dc_42 (by decide +kernel)
theorem d_Past_takeBack_71 : decode b_Past_takeBack 71 = .ok (.getfield 11, 3) := dc_180 (by decide +kernel)
theorem d_Past_takeBack_74 : decode b_Past_takeBack 74 = .ok (.arraylength, 1) := dc_190 (by decide +kernel)
theorem d_Past_takeBack_75 : decode b_Past_takeBack 75 = .ok (.iconst 1, 1) := dc_4 (by decide +kernel)
theorem d_Past_takeBack_76 : decode b_Past_takeBack 76 = .ok (.isub, 1) := dc_100 (by decide +kernel)
theorem d_Past_takeBack_77 : decode b_Past_takeBack 77 = .ok (.putfield 22, 3) := dc_181 (by decide +kernel)
theorem d_Past_takeBack_80 : decode b_Past_takeBack 80 = .ok (.aload_n 0, 1) := dc_42 (by decide +kernel)
theorem d_Past_takeBack_81 : decode b_Past_takeBack 81 = .ok (.dup, 1) := dc_89 (by decide +kernel)
theorem d_Past_takeBack_82 : decode b_Past_takeBack 82 = .ok (.getfield 18, 3) := dc_180 (by decide +kernel)
theorem d_Past_takeBack_85 : decode b_Past_takeBack 85 = .ok (.iconst 1, 1) := dc_4 (by decide +kernel)
theorem d_Past_takeBack_86 : decode b_Past_takeBack 86 = .ok (.isub, 1) := dc_100 (by decide +kernel)
theorem d_Past_takeBack_87 : decode b_Past_takeBack 87 = .ok (.putfield 18, 3) := dc_181 (by decide +kernel)
theorem d_Past_takeBack_90 : decode b_Past_takeBack 90 = .ok (.iconst 1, 1) := dc_4 (by decide +kernel)
theorem d_Past_takeBack_91 : decode b_Past_takeBack 91 = .ok (.ireturn, 1) := dc_172 (by decide +kernel)
def t_Past_takeBack_L77 (k1 : Nat)  (M : Mem) (v2_ : Int) : Mem × Int := (qlet (setI M 70 1 v2_) fun M16 => (qlet (setI M16 70 2 (w32 ((M16.1 70 2) - 1))) fun M18 => (M18, 1)))
def t_Past_takeBack_L53 (k1 : Nat)  (M : Mem)  : Mem × Int := (if (M.1 70 1) ≤ 0 then (t_Past_takeBack_L77 k1 M (w32 (20 - 1))) else (t_Past_takeBack_L77 k1 M (w32 ((M.1 70 1) - 1))))
def t_Past_takeBack (M : Mem) (k1 : Nat) : Mem × Int := (if (M.1 70 2) = 0 then (M, 0) else (if (M.1 70 1) < 0 then (t_Past_takeBack_L53 k1 M) else (if 20 ≤ (M.1 70 1) then (t_Past_takeBack_L53 k1 M) else (qlet (t_Scene_copy M k1 (72 + 5 * ((M.1 70 1)).toNat)) fun q11 => (t_Past_takeBack_L53 k1 q11)))))
set_option maxHeartbeats 4000000 in
set_option maxRecDepth 100000 in
theorem k_Past_takeBack_L77 (l : Launch) {p : Program} {e : Env} {s : State} {m : MethodId} {below : List Frame} {meth : Method} {c : Code} {b n : Nat} {C : CT} (hlo : 191 ≤ n) (k1 : Nat) (hk1 : isScene k1) (F : Cx b p m c b_Past_takeBack 2 s ([.ref (b + 70), .ref (b + k1)] : List Value).toArray "WardFalls$Past" C n 191) (hlk : meth.locks = false) (hr : meth.sig.returnType = some .boolean) {res : Mem × Int} (M : Mem) (v2_ : Int) (hv2_ : InR v2_) (H : Heap) (locs : List Loc) (ls : Array Slot) (hS : St b C n M s H locs) (hl : lv_has ls 2 [(0, .ref (b + 70))]) (hT : t_Past_takeBack_L77 k1 M v2_ = res) : W p l e (headSpec (wsM y_Past_takeBack b_Past_takeBack 2 (some .boolean)) (rmD 4)).room s m ([.ref (b + 70), .ref (b + k1)] : List Value).toArray below meth c H locs 0 0 (MQ below (QZ b C n res.1 res.2) ([.ref (b + 70), .ref (b + k1)] : List Value).toArray s 0 0 (frb b)) (F0 m 77 ls [vI v2_, .ref (b + 70)]) := by
  unfold t_Past_takeBack_L77 at hT
  refine r_putI (N := 3) (T := T6) (j := 1) F hS (show 70 < 191 by decide) (show shK 70 = 10 from rfl) (show shN 70 = 3 from rfl) rfl (Nat.le_of_ble_eq_true rfl) ing6 tyok6 nm6 rfl rfl rfl rfl rfl rfl mw_348 hv2_ d_Past_takeBack_77 (fun H locs hS => ?_)
  obtain ⟨M16, eM16⟩ : ∃ q, q = (setI M 70 1 v2_) := ⟨_, rfl⟩
  replace hS : St b C n M16 s H locs := by rw [eM16]; exact hS
  replace hT := qlet_eq hT eM16
  refine lv_aload_n F.hx F.hb d_Past_takeBack_80 rfl (lv_at hl 0 rfl) ?_
  refine lv_dup F.hx F.hb d_Past_takeBack_81 rfl ?_
  refine r_get (v := vI (M16.1 70 2)) (N := 3) (T := T6) (j := 2) F hS (show 70 < 191 by decide) (show shK 70 = 10 from rfl) (show shN 70 = 3 from rfl) rfl (Nat.le_of_ble_eq_true rfl) ing6 mw_349 (fv_int rfl) d_Past_takeBack_82 ?_
  have i17 := hS.rng 70 2
  refine r_iconst F.hx F.hb d_Past_takeBack_85 ?_
  refine r_isub F.hx F.hb d_Past_takeBack_86 ?_
  refine r_putI (N := 3) (T := T6) (j := 2) F hS (show 70 < 191 by decide) (show shK 70 = 10 from rfl) (show shN 70 = 3 from rfl) rfl (Nat.le_of_ble_eq_true rfl) ing6 tyok6 nm6 rfl rfl rfl rfl rfl rfl mw_349 (inr_w32 _) d_Past_takeBack_87 (fun H locs hS => ?_)
  obtain ⟨M18, eM18⟩ : ∃ q, q = (setI M16 70 2 (w32 ((M16.1 70 2) - 1))) := ⟨_, rfl⟩
  replace hS : St b C n M18 s H locs := by rw [eM18]; exact hS
  replace hT := qlet_eq hT eM18
  refine r_iconst F.hx F.hb d_Past_takeBack_90 ?_
  subst hT
  exact r_zret F hlk hr hS (Or.inr rfl) d_Past_takeBack_91
set_option maxHeartbeats 4000000 in
set_option maxRecDepth 100000 in
theorem k_Past_takeBack_L53 (l : Launch) {p : Program} {e : Env} {s : State} {m : MethodId} {below : List Frame} {meth : Method} {c : Code} {b n : Nat} {C : CT} (hlo : 191 ≤ n) (k1 : Nat) (hk1 : isScene k1) (F : Cx b p m c b_Past_takeBack 2 s ([.ref (b + 70), .ref (b + k1)] : List Value).toArray "WardFalls$Past" C n 191) (hlk : meth.locks = false) (hr : meth.sig.returnType = some .boolean) {res : Mem × Int} (M : Mem)  (H : Heap) (locs : List Loc) (ls : Array Slot) (hS : St b C n M s H locs) (hl : lv_has ls 2 [(0, .ref (b + 70))]) (hT : t_Past_takeBack_L53 k1 M = res) : W p l e (headSpec (wsM y_Past_takeBack b_Past_takeBack 2 (some .boolean)) (rmD 4)).room s m ([.ref (b + 70), .ref (b + k1)] : List Value).toArray below meth c H locs 0 0 (MQ below (QZ b C n res.1 res.2) ([.ref (b + 70), .ref (b + k1)] : List Value).toArray s 0 0 (frb b)) (F0 m 53 ls []) := by
  unfold t_Past_takeBack_L53 at hT
  refine lv_aload_n F.hx F.hb d_Past_takeBack_53 rfl (lv_at hl 0 rfl) ?_
  refine lv_aload_n F.hx F.hb d_Past_takeBack_54 rfl (lv_at hl 0 rfl) ?_
  refine r_get (v := vI (M.1 70 1)) (N := 3) (T := T6) (j := 1) F hS (show 70 < 191 by decide) (show shK 70 = 10 from rfl) (show shN 70 = 3 from rfl) rfl (Nat.le_of_ble_eq_true rfl) ing6 mw_348 (fv_int rfl) d_Past_takeBack_55 ?_
  have i13 := hS.rng 70 1
  refine r_if_le (tgt := 70) F.hx F.hb i13 d_Past_takeBack_58 (by decide) (fun c14 => ?_) (fun c14 => ?_)
  · replace hT := (if_pos c14).symm.trans hT
    refine lv_aload_n F.hx F.hb d_Past_takeBack_70 rfl (lv_at hl 0 rfl) ?_
    refine r_get (v := .ref (b + 71)) (N := 3) (T := T6) (j := 0) F hS (show 70 < 191 by decide) (show shK 70 = 10 from rfl) (show shN 70 = 3 from rfl) rfl (Nat.le_of_ble_eq_true rfl) ing6 mw_347 (fv_sg rfl rfl rfl) d_Past_takeBack_71 ?_
    refine r_alen3 F hS (show 71 < 191 by decide) (show shK 71 = 3 from rfl) (show shN 71 = 20 from rfl) d_Past_takeBack_74 rfl ?_
    refine r_iconst F.hx F.hb d_Past_takeBack_75 ?_
    refine r_isub F.hx F.hb d_Past_takeBack_76 ?_
    exact k_Past_takeBack_L77 l hlo k1 hk1 F hlk hr M (w32 (20 - 1)) (inr_w32 _) _ _ _ hS (lv_sub hl [0] rfl) hT
  · replace hT := (if_neg c14).symm.trans hT
    refine lv_aload_n F.hx F.hb d_Past_takeBack_61 rfl (lv_at hl 0 rfl) ?_
    refine r_get (v := vI (M.1 70 1)) (N := 3) (T := T6) (j := 1) F hS (show 70 < 191 by decide) (show shK 70 = 10 from rfl) (show shN 70 = 3 from rfl) rfl (Nat.le_of_ble_eq_true rfl) ing6 mw_348 (fv_int rfl) d_Past_takeBack_62 ?_
    have i15 := hS.rng 70 1
    refine r_iconst F.hx F.hb d_Past_takeBack_65 ?_
    refine r_isub F.hx F.hb d_Past_takeBack_66 ?_
    refine lv_goto (tgt := 77) F.hx F.hb d_Past_takeBack_67 (by decide) ?_
    exact k_Past_takeBack_L77 l hlo k1 hk1 F hlk hr M (w32 ((M.1 70 1) - 1)) (inr_w32 _) _ _ _ hS (lv_sub hl [0] rfl) hT
set_option maxHeartbeats 4000000 in
set_option maxRecDepth 100000 in
theorem c_Past_takeBack (l : Launch) {b n : Nat} {C : CT} (hlo : 191 ≤ n) (M : Mem) (k1 : Nat) (hk1 : isScene k1) (res : Mem × Int) (hT : t_Past_takeBack M k1 = res) : CM l b C n 4 y_Past_takeBack b_Past_takeBack 2 (some .boolean) [.ref (b + 70), .ref (b + k1)] M (QZ b C n res.1 res.2) := by
  refine CM.of (lo := 191) (ow := "WardFalls$Past") (by decide) rfl (Nat.le_of_ble_eq_true rfl) hlo (fun p e s m below meth c F hlk hr hS ls hl => ?_)
  have hl : lv_has ls 2 [(0, .ref (b + 70)), (1, .ref (b + k1))] := hl
  unfold t_Past_takeBack at hT
  refine lv_aload_n F.hx F.hb d_Past_takeBack_0 rfl (lv_at hl 0 rfl) ?_
  refine r_get (v := vI (M.1 70 2)) (N := 3) (T := T6) (j := 2) F hS (show 70 < 191 by decide) (show shK 70 = 10 from rfl) (show shN 70 = 3 from rfl) rfl (Nat.le_of_ble_eq_true rfl) ing6 mw_349 (fv_int rfl) d_Past_takeBack_1 ?_
  have i1 := hS.rng 70 2
  refine r_if_ne (tgt := 9) F.hx F.hb i1 d_Past_takeBack_4 (by decide) (fun c2 => ?_) (fun c2 => ?_)
  · replace hT := (if_neg c2).symm.trans hT
    refine lv_aload_n F.hx F.hb d_Past_takeBack_9 rfl (lv_at hl 0 rfl) ?_
    refine r_get (v := vI (M.1 70 1)) (N := 3) (T := T6) (j := 1) F hS (show 70 < 191 by decide) (show shK 70 = 10 from rfl) (show shN 70 = 3 from rfl) rfl (Nat.le_of_ble_eq_true rfl) ing6 mw_348 (fv_int rfl) d_Past_takeBack_10 ?_
    have i3 := hS.rng 70 1
    refine r_if_lt (tgt := 53) F.hx F.hb i3 d_Past_takeBack_13 (by decide) (fun c4 => ?_) (fun c4 => ?_)
    · replace hT := (if_pos c4).symm.trans hT
      exact k_Past_takeBack_L53 l hlo k1 hk1 F hlk hr M _ _ _ hS (lv_sub hl [0] rfl) hT
    · replace hT := (if_neg c4).symm.trans hT
      refine lv_aload_n F.hx F.hb d_Past_takeBack_16 rfl (lv_at hl 0 rfl) ?_
      refine r_get (v := vI (M.1 70 1)) (N := 3) (T := T6) (j := 1) F hS (show 70 < 191 by decide) (show shK 70 = 10 from rfl) (show shN 70 = 3 from rfl) rfl (Nat.le_of_ble_eq_true rfl) ing6 mw_348 (fv_int rfl) d_Past_takeBack_17 ?_
      have i5 := hS.rng 70 1
      refine lv_aload_n F.hx F.hb d_Past_takeBack_20 rfl (lv_at hl 0 rfl) ?_
      refine r_get (v := .ref (b + 71)) (N := 3) (T := T6) (j := 0) F hS (show 70 < 191 by decide) (show shK 70 = 10 from rfl) (show shN 70 = 3 from rfl) rfl (Nat.le_of_ble_eq_true rfl) ing6 mw_347 (fv_sg rfl rfl rfl) d_Past_takeBack_21 ?_
      refine r_alen3 F hS (show 71 < 191 by decide) (show shK 71 = 3 from rfl) (show shN 71 = 20 from rfl) d_Past_takeBack_24 rfl ?_
      refine r_icmp_ge (tgt := 53) F.hx F.hb i5 (inr_c rfl) d_Past_takeBack_25 (by decide) (fun c6 => ?_) (fun c6 => ?_)
      · replace hT := (if_pos c6).symm.trans hT
        exact k_Past_takeBack_L53 l hlo k1 hk1 F hlk hr M _ _ _ hS (lv_sub hl [0] rfl) hT
      · replace hT := (if_neg c6).symm.trans hT
        refine lv_aload_n F.hx F.hb d_Past_takeBack_28 rfl (lv_at hl 0 rfl) ?_
        refine r_get (v := .ref (b + 71)) (N := 3) (T := T6) (j := 0) F hS (show 70 < 191 by decide) (show shK 70 = 10 from rfl) (show shN 70 = 3 from rfl) rfl (Nat.le_of_ble_eq_true rfl) ing6 mw_347 (fv_sg rfl rfl rfl) d_Past_takeBack_29 ?_
        refine lv_aload_n F.hx F.hb d_Past_takeBack_32 rfl (lv_at hl 0 rfl) ?_
        refine r_get (v := vI (M.1 70 1)) (N := 3) (T := T6) (j := 1) F hS (show 70 < 191 by decide) (show shK 70 = 10 from rfl) (show shN 70 = 3 from rfl) rfl (Nat.le_of_ble_eq_true rfl) ing6 mw_348 (fv_int rfl) d_Past_takeBack_33 ?_
        have i7 := hS.rng 70 1
        have h8 : isScene (72 + 5 * ((M.1 70 1)).toNat) := scenes_at (by omega) (by omega)
        refine r_scn F hS i7 (by omega) (by omega) d_Past_takeBack_36 ?_
        refine lv_ifnull F.hx F.hb d_Past_takeBack_37 ?_
        refine lv_aload_n F.hx F.hb d_Past_takeBack_40 rfl (lv_at hl 1 rfl) ?_
        refine lv_aload_n F.hx F.hb d_Past_takeBack_41 rfl (lv_at hl 0 rfl) ?_
        refine r_get (v := .ref (b + 71)) (N := 3) (T := T6) (j := 0) F hS (show 70 < 191 by decide) (show shK 70 = 10 from rfl) (show shN 70 = 3 from rfl) rfl (Nat.le_of_ble_eq_true rfl) ing6 mw_347 (fv_sg rfl rfl rfl) d_Past_takeBack_42 ?_
        refine lv_aload_n F.hx F.hb d_Past_takeBack_45 rfl (lv_at hl 0 rfl) ?_
        refine r_get (v := vI (M.1 70 1)) (N := 3) (T := T6) (j := 1) F hS (show 70 < 191 by decide) (show shK 70 = 10 from rfl) (show shN 70 = 3 from rfl) rfl (Nat.le_of_ble_eq_true rfl) ing6 mw_348 (fv_int rfl) d_Past_takeBack_46 ?_
        have i9 := hS.rng 70 1
        have h10 : isScene (72 + 5 * ((M.1 70 1)).toNat) := scenes_at (by omega) (by omega)
        refine r_scn F hS i9 (by omega) (by omega) d_Past_takeBack_49 ?_
        obtain ⟨q11, hq11⟩ : ∃ q, q = (t_Scene_copy M k1 (72 + 5 * ((M.1 70 1)).toNat)) := ⟨_, rfl⟩
        replace hT := qlet_eq hT hq11
        refine r_backV F hS (r_runV (k := k1) (N := 7) (T := T9) (As := [.ref (b + (72 + 5 * ((M.1 70 1)).toNat))]) F hS (Scene_lt hk1) (Scene_sh hk1) rfl (c_Scene_copy l F.2.2.1 M k1 (72 + 5 * ((M.1 70 1)).toNat) hk1 h10 _ hq11.symm) gs_Past_25 hd_Scene_copy ⟨Nat.le_of_ble_eq_true rfl, Nat.le_of_ble_eq_true rfl⟩ rfl hl.1 (Nat.le_of_ble_eq_true rfl) ⟨Nat.zero_le _, Nat.zero_le _⟩ rfl d_Past_takeBack_50) (fun H locs hS => ?_)
        exact k_Past_takeBack_L53 l hlo k1 hk1 F hlk hr q11 _ _ _ hS (lv_sub hl [0] rfl) hT
  · replace hT := (if_pos c2).symm.trans hT
    refine r_iconst F.hx F.hb d_Past_takeBack_7 ?_
    subst hT
    exact r_zret F hlk hr hS (Or.inl rfl) d_Past_takeBack_8
theorem d_WF_undo_0 : decode b_WF_undo 0 = .ok (.aload_n 0, 1) := dc_42 (by decide +kernel)
theorem d_WF_undo_1 : decode b_WF_undo 1 = .ok (.getfield 69, 3) := dc_180 (by decide +kernel)
theorem d_WF_undo_4 : decode b_WF_undo 4 = .ok (.aload_n 0, 1) := dc_42 (by decide +kernel)
theorem d_WF_undo_5 : decode b_WF_undo 5 = .ok (.getfield 46, 3) := dc_180 (by decide +kernel)
theorem d_WF_undo_8 : decode b_WF_undo 8 = .ok (.invokevirtual 403, 3) := dc_182 (by decide +kernel)
theorem d_WF_undo_11 : decode b_WF_undo 11 = .ok (.ifCond .ne 5, 3) := dc_154 (by decide +kernel)
theorem d_WF_undo_14 : decode b_WF_undo 14 = .ok (.iconst (-1), 1) := dc_2 (by decide +kernel)
theorem d_WF_undo_15 : decode b_WF_undo 15 = .ok (.ireturn, 1) := dc_172 (by decide +kernel)
theorem d_WF_undo_16 : decode b_WF_undo 16 = .ok (.aload_n 0, 1) := dc_42 (by decide +kernel)
theorem d_WF_undo_17 : decode b_WF_undo 17 = .ok (.getfield 83, 3) := dc_180 (by decide +kernel)
theorem d_WF_undo_20 : decode b_WF_undo 20 = .ok (.iconst 0, 1) := dc_3 (by decide +kernel)
theorem d_WF_undo_21 : decode b_WF_undo 21 = .ok (.putfield 280, 3) := dc_181 (by decide +kernel)
theorem d_WF_undo_24 : decode b_WF_undo 24 = .ok (.aload_n 0, 1) := dc_42 (by decide +kernel)
theorem d_WF_undo_25 : decode b_WF_undo 25 = .ok (.getfield 69, 3) := dc_180 (by decide +kernel)
theorem d_WF_undo_28 : decode b_WF_undo 28 = .ok (.getfield 407, 3) := dc_180 (by decide +kernel)
theorem d_WF_undo_31 : decode b_WF_undo 31 = .ok (.ireturn, 1) := dc_172 (by decide +kernel)
def t_WF_undo (M : Mem)  : Mem × Int := (qlet (t_Past_takeBack M 47) fun q1 => (if (q1.2) = 0 then ((q1.1), (-1)) else (qlet (setI (q1.1) 177 8 0) fun M4 => (M4, (M4.1 70 2)))))
set_option maxHeartbeats 4000000 in
set_option maxRecDepth 100000 in
theorem c_WF_undo (l : Launch) {b n : Nat} {C : CT} (hlo : 191 ≤ n) (M : Mem)   (res : Mem × Int) (hT : t_WF_undo M  = res) : CM l b C n 5 y_WF_undo b_WF_undo 1 (some .int) [.ref (b + 0)] M (QI b C n res.1 res.2) := by
  refine CM.of (lo := 191) (ow := "WardFalls") (by decide) rfl (Nat.le_of_ble_eq_true rfl) hlo (fun p e s m below meth c F hlk hr hS ls hl => ?_)
  have hl : lv_has ls 1 [(0, .ref (b + 0))] := hl
  unfold t_WF_undo at hT
  refine lv_aload_n F.hx F.hb d_WF_undo_0 rfl (lv_at hl 0 rfl) ?_
  refine r_get (v := .ref (b + 70)) (N := 19) (T := T0) (j := 14) F hS (show 0 < 191 by decide) (show shK 0 = 4 from rfl) (show shN 0 = 19 from rfl) rfl (Nat.le_of_ble_eq_true rfl) ing0 mw_564 (fv_sg rfl rfl rfl) d_WF_undo_1 ?_
  refine lv_aload_n F.hx F.hb d_WF_undo_4 rfl (lv_at hl 0 rfl) ?_
  refine r_get (v := .ref (b + 47)) (N := 19) (T := T0) (j := 8) F hS (show 0 < 191 by decide) (show shK 0 = 4 from rfl) (show shN 0 = 19 from rfl) rfl (Nat.le_of_ble_eq_true rfl) ing0 mw_558 (fv_sg rfl rfl rfl) d_WF_undo_5 ?_
  obtain ⟨q1, hq1⟩ : ∃ q, q = (t_Past_takeBack M 47) := ⟨_, rfl⟩
  replace hT := qlet_eq hT hq1
  refine r_backZ F hS (r_runV (k := 70) (N := 3) (T := T6) (As := [.ref (b + 47)]) F hS (show 70 < 191 by decide) (show shK 70 = 10 from rfl) rfl (c_Past_takeBack l F.2.2.1 M 47 (by decide : isScene 47) _ hq1.symm) gs_WF_403 hd_Past_takeBack ⟨Nat.le_of_ble_eq_true rfl, Nat.le_of_ble_eq_true rfl⟩ rfl hl.1 (Nat.le_of_ble_eq_true rfl) ⟨Nat.zero_le _, Nat.zero_le _⟩ rfl d_WF_undo_8) (fun H locs hS h2 => ?_)
  refine r_if_ne (tgt := 16) F.hx F.hb (inr_z h2) d_WF_undo_11 (by decide) (fun c3 => ?_) (fun c3 => ?_)
  · replace hT := (if_neg c3).symm.trans hT
    refine lv_aload_n F.hx F.hb d_WF_undo_16 rfl (lv_at hl 0 rfl) ?_
    refine r_get (v := .ref (b + 177)) (N := 19) (T := T0) (j := 16) F hS (show 0 < 191 by decide) (show shK 0 = 4 from rfl) (show shN 0 = 19 from rfl) rfl (Nat.le_of_ble_eq_true rfl) ing0 mw_566 (fv_sg rfl rfl rfl) d_WF_undo_17 ?_
    refine r_iconst F.hx F.hb d_WF_undo_20 ?_
    refine r_putI (N := 9) (T := T4) (j := 8) F hS (show 177 < 191 by decide) (show shK 177 = 8 from rfl) (show shN 177 = 9 from rfl) rfl (Nat.le_of_ble_eq_true rfl) ing4 tyok4 nm4 rfl rfl (nar_z (Or.inl rfl)) (fit_z (Or.inl rfl)) rfl rfl mw_448 (inr_c rfl) d_WF_undo_21 (fun H locs hS => ?_)
    obtain ⟨M4, eM4⟩ : ∃ q, q = (setI (q1.1) 177 8 0) := ⟨_, rfl⟩
    replace hS : St b C n M4 s H locs := by rw [eM4]; exact hS
    replace hT := qlet_eq hT eM4
    refine lv_aload_n F.hx F.hb d_WF_undo_24 rfl (lv_at hl 0 rfl) ?_
    refine r_get (v := .ref (b + 70)) (N := 19) (T := T0) (j := 14) F hS (show 0 < 191 by decide) (show shK 0 = 4 from rfl) (show shN 0 = 19 from rfl) rfl (Nat.le_of_ble_eq_true rfl) ing0 mw_564 (fv_sg rfl rfl rfl) d_WF_undo_25 ?_
    refine r_get (v := vI (M4.1 70 2)) (N := 3) (T := T6) (j := 2) F hS (show 70 < 191 by decide) (show shK 70 = 10 from rfl) (show shN 70 = 3 from rfl) rfl (Nat.le_of_ble_eq_true rfl) ing6 mw_350 (fv_int rfl) d_WF_undo_28 ?_
    have i5 := hS.rng 70 2
    subst hT
    exact r_iret F hlk hr rfl hS i5 d_WF_undo_31
  · replace hT := (if_pos c3).symm.trans hT
    refine r_iconst F.hx F.hb d_WF_undo_14 ?_
    subst hT
    exact r_iret F hlk hr rfl hS (inr_c rfl) d_WF_undo_15
theorem d_Chronicle_copy_0 : decode b_Chronicle_copy 0 = .ok (.aload_n 1, 1) := dc_43 (by decide +kernel)
theorem d_Chronicle_copy_1 : decode b_Chronicle_copy 1 = .ok (.getfield 9, 3) := dc_180 (by decide +kernel)
theorem d_Chronicle_copy_4 : decode b_Chronicle_copy 4 = .ok (.aload_n 0, 1) := dc_42 (by decide +kernel)
theorem d_Chronicle_copy_5 : decode b_Chronicle_copy 5 = .ok (.getfield 9, 3) := dc_180 (by decide +kernel)
theorem d_Chronicle_copy_8 : decode b_Chronicle_copy 8 = .ok (.invokestatic 37, 3) := dc_184 (by decide +kernel)
theorem d_Chronicle_copy_11 : decode b_Chronicle_copy 11 = .ok (.aload_n 1, 1) := dc_43 (by decide +kernel)
theorem d_Chronicle_copy_12 : decode b_Chronicle_copy 12 = .ok (.getfield 15, 3) := dc_180 (by decide +kernel)
theorem d_Chronicle_copy_15 : decode b_Chronicle_copy 15 = .ok (.aload_n 0, 1) := dc_42 (by decide +kernel)
theorem d_Chronicle_copy_16 : decode b_Chronicle_copy 16 = .ok (.getfield 15, 3) := dc_180 (by decide +kernel)
theorem d_Chronicle_copy_19 : decode b_Chronicle_copy 19 = .ok (.invokestatic 37, 3) := dc_184 (by decide +kernel)
theorem d_Chronicle_copy_22 : decode b_Chronicle_copy 22 = .ok (.aload_n 1, 1) := dc_43 (by decide +kernel)
theorem d_Chronicle_copy_23 : decode b_Chronicle_copy 23 = .ok (.getfield 18, 3) := dc_180 (by decide +kernel)
theorem d_Chronicle_copy_26 : decode b_Chronicle_copy 26 = .ok (.aload_n 0, 1) := dc_42 (by decide +kernel)
theorem d_Chronicle_copy_27 : decode b_Chronicle_copy 27 = .ok (.getfield 18, 3) := dc_180 (by decide +kernel)
theorem d_Chronicle_copy_30 : decode b_Chronicle_copy 30 = .ok (.invokestatic 37, 3) := dc_184 (by decide +kernel)
theorem d_Chronicle_copy_33 : decode b_Chronicle_copy 33 = .ok (.aload_n 0, 1) := dc_42 (by decide +kernel)
theorem d_Chronicle_copy_34 : decode b_Chronicle_copy 34 = .ok (.aload_n 1, 1) := dc_43 (by decide +kernel)
theorem d_Chronicle_copy_35 : decode b_Chronicle_copy 35 = .ok (.getfield 21, 3) := dc_180 (by decide +kernel)
theorem d_Chronicle_copy_38 : decode b_Chronicle_copy 38 = .ok (.putfield 21, 3) := dc_181 (by decide +kernel)
theorem d_Chronicle_copy_41 : decode b_Chronicle_copy 41 = .ok (.aload_n 0, 1) := dc_42 (by decide +kernel)
theorem d_Chronicle_copy_42 : decode b_Chronicle_copy 42 = .ok (.aload_n 1, 1) := dc_43 (by decide +kernel)
theorem d_Chronicle_copy_43 : decode b_Chronicle_copy 43 = .ok (.getfield 25, 3) := dc_180 (by decide +kernel)
theorem d_Chronicle_copy_46 : decode b_Chronicle_copy 46 = .ok (.putfield 25, 3) := dc_181 (by decide +kernel)
theorem d_Chronicle_copy_49 : decode b_Chronicle_copy 49 = .ok (.aload_n 0, 1) := dc_42 (by decide +kernel)
theorem d_Chronicle_copy_50 : decode b_Chronicle_copy 50 = .ok (.aload_n 1, 1) := dc_43 (by decide +kernel)
theorem d_Chronicle_copy_51 : decode b_Chronicle_copy 51 = .ok (.getfield 33, 3) := dc_180 (by decide +kernel)
theorem d_Chronicle_copy_54 : decode b_Chronicle_copy 54 = .ok (.putfield 33, 3) := dc_181 (by decide +kernel)
theorem d_Chronicle_copy_57 : decode b_Chronicle_copy 57 = .ok (.return_, 1) := dc_177 (by decide +kernel)
def t_Chronicle_copy (M : Mem) (k0 : Nat) (k1 : Nat) : Mem := (qlet (t_WF_copyRow M (k1 + 1) 99 (k0 + 1) 99) fun q1 => (qlet (t_WF_copyRow q1 (k1 + 2) 99 (k0 + 2) 99) fun q3 => (qlet (t_WF_copyRow q3 (k1 + 3) 99 (k0 + 3) 99) fun q5 => (qlet (setI q5 k0 3 (q5.1 k1 3)) fun M8 => (qlet (setI M8 k0 4 (M8.1 k1 4)) fun M10 => (qlet (setL M10 k0 5 (M10.2 k1 5)) fun M11 => M11))))))
set_option maxHeartbeats 4000000 in
set_option maxRecDepth 100000 in
theorem c_Chronicle_copy (l : Launch) {b n : Nat} {C : CT} (hlo : 191 ≤ n) (M : Mem) (k0 : Nat) (k1 : Nat) (hk0 : isChronicle k0) (hk1 : isChronicle k1) (res : Mem) (hT : t_Chronicle_copy M k0 k1 = res) : CM l b C n 3 y_Chronicle_copy b_Chronicle_copy 2 (none) [.ref (b + k0), .ref (b + k1)] M (QV b C n res) := by
  refine CM.of (lo := 191) (ow := "WardFalls$Chronicle") (by decide) rfl (Nat.le_of_ble_eq_true rfl) hlo (fun p e s m below meth c F hlk hr hS ls hl => ?_)
  have hl : lv_has ls 2 [(0, .ref (b + k0)), (1, .ref (b + k1))] := hl
  unfold t_Chronicle_copy at hT
  refine lv_aload_n F.hx F.hb d_Chronicle_copy_0 rfl (lv_at hl 1 rfl) ?_
  refine r_get (v := .ref (b + (k1 + 1))) (N := 6) (T := T2) (j := 0) F hS (Chronicle_lt hk1) (Chronicle_sh hk1) (Chronicle_N hk1) rfl (Nat.le_of_ble_eq_true rfl) ing2 mw_314 (Chronicle_g0 hk1 _) d_Chronicle_copy_1 ?_
  refine lv_aload_n F.hx F.hb d_Chronicle_copy_4 rfl (lv_at hl 0 rfl) ?_
  refine r_get (v := .ref (b + (k0 + 1))) (N := 6) (T := T2) (j := 0) F hS (Chronicle_lt hk0) (Chronicle_sh hk0) (Chronicle_N hk0) rfl (Nat.le_of_ble_eq_true rfl) ing2 mw_314 (Chronicle_g0 hk0 _) d_Chronicle_copy_5 ?_
  obtain ⟨q1, hq1⟩ : ∃ q, q = (t_WF_copyRow M (k1 + 1) 99 (k0 + 1) 99) := ⟨_, rfl⟩
  replace hT := qlet_eq hT hq1
  refine r_backV F hS (r_runSN (As := [.ref (b + (k1 + 1)), .ref (b + (k0 + 1))]) F hS (c_WF_copyRow l F.2.2.1 M (k1 + 1) 99 (k0 + 1) 99 (Chronicle_f0 hk1) (Chronicle_f0 hk0) _ hq1.symm) mw_530 mw_529 mw_1 gs_Chronicle_37 hd_WF_copyRow ⟨Nat.le_of_ble_eq_true rfl, Nat.le_of_ble_eq_true rfl⟩ rfl hl.1 (Nat.le_of_ble_eq_true rfl) ⟨Nat.zero_le _, Nat.zero_le _⟩ rfl d_Chronicle_copy_8) (fun H locs hS => ?_)
  refine lv_aload_n F.hx F.hb d_Chronicle_copy_11 rfl (lv_at hl 1 rfl) ?_
  refine r_get (v := .ref (b + (k1 + 2))) (N := 6) (T := T2) (j := 1) F hS (Chronicle_lt hk1) (Chronicle_sh hk1) (Chronicle_N hk1) rfl (Nat.le_of_ble_eq_true rfl) ing2 mw_316 (Chronicle_g1 hk1 _) d_Chronicle_copy_12 ?_
  refine lv_aload_n F.hx F.hb d_Chronicle_copy_15 rfl (lv_at hl 0 rfl) ?_
  refine r_get (v := .ref (b + (k0 + 2))) (N := 6) (T := T2) (j := 1) F hS (Chronicle_lt hk0) (Chronicle_sh hk0) (Chronicle_N hk0) rfl (Nat.le_of_ble_eq_true rfl) ing2 mw_316 (Chronicle_g1 hk0 _) d_Chronicle_copy_16 ?_
  obtain ⟨q3, hq3⟩ : ∃ q, q = (t_WF_copyRow q1 (k1 + 2) 99 (k0 + 2) 99) := ⟨_, rfl⟩
  replace hT := qlet_eq hT hq3
  refine r_backV F hS (r_runSN (As := [.ref (b + (k1 + 2)), .ref (b + (k0 + 2))]) F hS (c_WF_copyRow l F.2.2.1 q1 (k1 + 2) 99 (k0 + 2) 99 (Chronicle_f1 hk1) (Chronicle_f1 hk0) _ hq3.symm) mw_530 mw_529 mw_1 gs_Chronicle_37 hd_WF_copyRow ⟨Nat.le_of_ble_eq_true rfl, Nat.le_of_ble_eq_true rfl⟩ rfl hl.1 (Nat.le_of_ble_eq_true rfl) ⟨Nat.zero_le _, Nat.zero_le _⟩ rfl d_Chronicle_copy_19) (fun H locs hS => ?_)
  refine lv_aload_n F.hx F.hb d_Chronicle_copy_22 rfl (lv_at hl 1 rfl) ?_
  refine r_get (v := .ref (b + (k1 + 3))) (N := 6) (T := T2) (j := 2) F hS (Chronicle_lt hk1) (Chronicle_sh hk1) (Chronicle_N hk1) rfl (Nat.le_of_ble_eq_true rfl) ing2 mw_318 (Chronicle_g2 hk1 _) d_Chronicle_copy_23 ?_
  refine lv_aload_n F.hx F.hb d_Chronicle_copy_26 rfl (lv_at hl 0 rfl) ?_
  refine r_get (v := .ref (b + (k0 + 3))) (N := 6) (T := T2) (j := 2) F hS (Chronicle_lt hk0) (Chronicle_sh hk0) (Chronicle_N hk0) rfl (Nat.le_of_ble_eq_true rfl) ing2 mw_318 (Chronicle_g2 hk0 _) d_Chronicle_copy_27 ?_
  obtain ⟨q5, hq5⟩ : ∃ q, q = (t_WF_copyRow q3 (k1 + 3) 99 (k0 + 3) 99) := ⟨_, rfl⟩
  replace hT := qlet_eq hT hq5
  refine r_backV F hS (r_runSN (As := [.ref (b + (k1 + 3)), .ref (b + (k0 + 3))]) F hS (c_WF_copyRow l F.2.2.1 q3 (k1 + 3) 99 (k0 + 3) 99 (Chronicle_f2 hk1) (Chronicle_f2 hk0) _ hq5.symm) mw_530 mw_529 mw_1 gs_Chronicle_37 hd_WF_copyRow ⟨Nat.le_of_ble_eq_true rfl, Nat.le_of_ble_eq_true rfl⟩ rfl hl.1 (Nat.le_of_ble_eq_true rfl) ⟨Nat.zero_le _, Nat.zero_le _⟩ rfl d_Chronicle_copy_30) (fun H locs hS => ?_)
  refine lv_aload_n F.hx F.hb d_Chronicle_copy_33 rfl (lv_at hl 0 rfl) ?_
  refine lv_aload_n F.hx F.hb d_Chronicle_copy_34 rfl (lv_at hl 1 rfl) ?_
  refine r_get (v := vI (q5.1 k1 3)) (N := 6) (T := T2) (j := 3) F hS (Chronicle_lt hk1) (Chronicle_sh hk1) (Chronicle_N hk1) rfl (Nat.le_of_ble_eq_true rfl) ing2 mw_320 (fv_int rfl) d_Chronicle_copy_35 ?_
  have i7 := hS.rng k1 3
  refine r_putI (N := 6) (T := T2) (j := 3) F hS (Chronicle_lt hk0) (Chronicle_sh hk0) (Chronicle_N hk0) rfl (Nat.le_of_ble_eq_true rfl) ing2 tyok2 nm2 rfl rfl rfl rfl rfl (Chronicle_dyn hk0 _) mw_320 i7 d_Chronicle_copy_38 (fun H locs hS => ?_)
  obtain ⟨M8, eM8⟩ : ∃ q, q = (setI q5 k0 3 (q5.1 k1 3)) := ⟨_, rfl⟩
  replace hS : St b C n M8 s H locs := by rw [eM8]; exact hS
  replace hT := qlet_eq hT eM8
  refine lv_aload_n F.hx F.hb d_Chronicle_copy_41 rfl (lv_at hl 0 rfl) ?_
  refine lv_aload_n F.hx F.hb d_Chronicle_copy_42 rfl (lv_at hl 1 rfl) ?_
  refine r_get (v := vI (M8.1 k1 4)) (N := 6) (T := T2) (j := 4) F hS (Chronicle_lt hk1) (Chronicle_sh hk1) (Chronicle_N hk1) rfl (Nat.le_of_ble_eq_true rfl) ing2 mw_322 (fv_int rfl) d_Chronicle_copy_43 ?_
  have i9 := hS.rng k1 4
  refine r_putI (N := 6) (T := T2) (j := 4) F hS (Chronicle_lt hk0) (Chronicle_sh hk0) (Chronicle_N hk0) rfl (Nat.le_of_ble_eq_true rfl) ing2 tyok2 nm2 rfl rfl rfl rfl rfl (Chronicle_dyn hk0 _) mw_322 i9 d_Chronicle_copy_46 (fun H locs hS => ?_)
  obtain ⟨M10, eM10⟩ : ∃ q, q = (setI M8 k0 4 (M8.1 k1 4)) := ⟨_, rfl⟩
  replace hS : St b C n M10 s H locs := by rw [eM10]; exact hS
  replace hT := qlet_eq hT eM10
  refine lv_aload_n F.hx F.hb d_Chronicle_copy_49 rfl (lv_at hl 0 rfl) ?_
  refine lv_aload_n F.hx F.hb d_Chronicle_copy_50 rfl (lv_at hl 1 rfl) ?_
  refine r_get (v := .long (M10.2 k1 5)) (N := 6) (T := T2) (j := 5) F hS (Chronicle_lt hk1) (Chronicle_sh hk1) (Chronicle_N hk1) rfl (Nat.le_of_ble_eq_true rfl) ing2 mw_324 (fv_long rfl) d_Chronicle_copy_51 ?_
  refine r_putL (N := 6) (T := T2) (j := 5) F hS (Chronicle_lt hk0) (Chronicle_sh hk0) (Chronicle_N hk0) rfl (Nat.le_of_ble_eq_true rfl) ing2 tyok2 nm2 rfl rfl rfl mw_324 d_Chronicle_copy_54 (fun H locs hS => ?_)
  obtain ⟨M11, eM11⟩ : ∃ q, q = (setL M10 k0 5 (M10.2 k1 5)) := ⟨_, rfl⟩
  replace hS : St b C n M11 s H locs := by rw [eM11]; exact hS
  replace hT := qlet_eq hT eM11
  subst hT
  exact r_vret F hlk hr hS d_Chronicle_copy_57
theorem d_WF_keep_0 : decode b_WF_keep 0 = .ok (.aload_n 0, 1) := dc_42 (by decide +kernel)
theorem d_WF_keep_1 : decode b_WF_keep 1 = .ok (.getfield 53, 3) := dc_180 (by decide +kernel)
theorem d_WF_keep_4 : decode b_WF_keep 4 = .ok (.aload_n 0, 1) := dc_42 (by decide +kernel)
theorem d_WF_keep_5 : decode b_WF_keep 5 = .ok (.getfield 46, 3) := dc_180 (by decide +kernel)
theorem d_WF_keep_8 : decode b_WF_keep 8 = .ok (.invokevirtual 299, 3) := dc_182 (by decide +kernel)
theorem d_WF_keep_11 : decode b_WF_keep 11 = .ok (.aload_n 0, 1) := dc_42 (by decide +kernel)
theorem d_WF_keep_12 : decode b_WF_keep 12 = .ok (.getfield 63, 3) := dc_180 (by decide +kernel)
theorem d_WF_keep_15 : decode b_WF_keep 15 = .ok (.aload_n 0, 1) := dc_42 (by decide +kernel)
theorem d_WF_keep_16 : decode b_WF_keep 16 = .ok (.getfield 59, 3) := dc_180 (by decide +kernel)
theorem d_WF_keep_19 : decode b_WF_keep 19 = .ok (.invokevirtual 408, 3) := dc_182 (by decide +kernel)
theorem d_WF_keep_22 : decode b_WF_keep 22 = .ok (.aload_n 0, 1) := dc_42 (by decide +kernel)
theorem d_WF_keep_23 : decode b_WF_keep 23 = .ok (.iconst 1, 1) := dc_4 (by decide +kernel)
theorem d_WF_keep_24 : decode b_WF_keep 24 = .ok (.putfield 411, 3) := dc_181 (by decide +kernel)
theorem d_WF_keep_27 : decode b_WF_keep 27 = .ok (.aload_n 0, 1) := dc_42 (by decide +kernel)
theorem d_WF_keep_28 : decode b_WF_keep 28 = .ok (.getfield 59, 3) := dc_180 (by decide +kernel)
theorem d_WF_keep_31 : decode b_WF_keep 31 = .ok (.getfield 218, 3) := dc_180 (by decide +kernel)
theorem d_WF_keep_34 : decode b_WF_keep 34 = .ok (.ireturn, 1) := dc_172 (by decide +kernel)
def t_WF_keep (M : Mem)  : Mem × Int := (qlet (t_Scene_copy M 57 47) fun q1 => (qlet (t_Chronicle_copy q1 66 62) fun q3 => (qlet (setI q3 0 13 1) fun M5 => (M5, (M5.1 62 3)))))
set_option maxHeartbeats 4000000 in
set_option maxRecDepth 100000 in
theorem c_WF_keep (l : Launch) {b n : Nat} {C : CT} (hlo : 191 ≤ n) (M : Mem)   (res : Mem × Int) (hT : t_WF_keep M  = res) : CM l b C n 4 y_WF_keep b_WF_keep 1 (some .int) [.ref (b + 0)] M (QI b C n res.1 res.2) := by
  refine CM.of (lo := 191) (ow := "WardFalls") (by decide) rfl (Nat.le_of_ble_eq_true rfl) hlo (fun p e s m below meth c F hlk hr hS ls hl => ?_)
  have hl : lv_has ls 1 [(0, .ref (b + 0))] := hl
  unfold t_WF_keep at hT
  refine lv_aload_n F.hx F.hb d_WF_keep_0 rfl (lv_at hl 0 rfl) ?_
  refine r_get (v := .ref (b + 57)) (N := 19) (T := T0) (j := 10) F hS (show 0 < 191 by decide) (show shK 0 = 4 from rfl) (show shN 0 = 19 from rfl) rfl (Nat.le_of_ble_eq_true rfl) ing0 mw_560 (fv_sg rfl rfl rfl) d_WF_keep_1 ?_
  refine lv_aload_n F.hx F.hb d_WF_keep_4 rfl (lv_at hl 0 rfl) ?_
  refine r_get (v := .ref (b + 47)) (N := 19) (T := T0) (j := 8) F hS (show 0 < 191 by decide) (show shK 0 = 4 from rfl) (show shN 0 = 19 from rfl) rfl (Nat.le_of_ble_eq_true rfl) ing0 mw_558 (fv_sg rfl rfl rfl) d_WF_keep_5 ?_
  obtain ⟨q1, hq1⟩ : ∃ q, q = (t_Scene_copy M 57 47) := ⟨_, rfl⟩
  replace hT := qlet_eq hT hq1
  refine r_backV F hS (r_runV (k := 57) (N := 7) (T := T9) (As := [.ref (b + 47)]) F hS (show 57 < 191 by decide) (show shK 57 = 13 from rfl) rfl (c_Scene_copy l F.2.2.1 M 57 47 (by decide : isScene 57) (by decide : isScene 47) _ hq1.symm) gs_WF_299 hd_Scene_copy ⟨Nat.le_of_ble_eq_true rfl, Nat.le_of_ble_eq_true rfl⟩ rfl hl.1 (Nat.le_of_ble_eq_true rfl) ⟨Nat.zero_le _, Nat.zero_le _⟩ rfl d_WF_keep_8) (fun H locs hS => ?_)
  refine lv_aload_n F.hx F.hb d_WF_keep_11 rfl (lv_at hl 0 rfl) ?_
  refine r_get (v := .ref (b + 66)) (N := 19) (T := T0) (j := 12) F hS (show 0 < 191 by decide) (show shK 0 = 4 from rfl) (show shN 0 = 19 from rfl) rfl (Nat.le_of_ble_eq_true rfl) ing0 mw_562 (fv_sg rfl rfl rfl) d_WF_keep_12 ?_
  refine lv_aload_n F.hx F.hb d_WF_keep_15 rfl (lv_at hl 0 rfl) ?_
  refine r_get (v := .ref (b + 62)) (N := 19) (T := T0) (j := 11) F hS (show 0 < 191 by decide) (show shK 0 = 4 from rfl) (show shN 0 = 19 from rfl) rfl (Nat.le_of_ble_eq_true rfl) ing0 mw_561 (fv_sg rfl rfl rfl) d_WF_keep_16 ?_
  obtain ⟨q3, hq3⟩ : ∃ q, q = (t_Chronicle_copy q1 66 62) := ⟨_, rfl⟩
  replace hT := qlet_eq hT hq3
  refine r_backV F hS (r_runV (k := 66) (N := 6) (T := T2) (As := [.ref (b + 62)]) F hS (show 66 < 191 by decide) (show shK 66 = 6 from rfl) rfl (c_Chronicle_copy l F.2.2.1 q1 66 62 (by decide : isChronicle 66) (by decide : isChronicle 62) _ hq3.symm) gs_WF_408 hd_Chronicle_copy ⟨Nat.le_of_ble_eq_true rfl, Nat.le_of_ble_eq_true rfl⟩ rfl hl.1 (Nat.le_of_ble_eq_true rfl) ⟨Nat.zero_le _, Nat.zero_le _⟩ rfl d_WF_keep_19) (fun H locs hS => ?_)
  refine lv_aload_n F.hx F.hb d_WF_keep_22 rfl (lv_at hl 0 rfl) ?_
  refine r_iconst F.hx F.hb d_WF_keep_23 ?_
  refine r_putI (N := 19) (T := T0) (j := 13) F hS (show 0 < 191 by decide) (show shK 0 = 4 from rfl) (show shN 0 = 19 from rfl) rfl (Nat.le_of_ble_eq_true rfl) ing0 tyok0 nm0 rfl rfl (nar_z (Or.inr rfl)) (fit_z (Or.inr rfl)) rfl rfl mw_563 (inr_c rfl) d_WF_keep_24 (fun H locs hS => ?_)
  obtain ⟨M5, eM5⟩ : ∃ q, q = (setI q3 0 13 1) := ⟨_, rfl⟩
  replace hS : St b C n M5 s H locs := by rw [eM5]; exact hS
  replace hT := qlet_eq hT eM5
  refine lv_aload_n F.hx F.hb d_WF_keep_27 rfl (lv_at hl 0 rfl) ?_
  refine r_get (v := .ref (b + 62)) (N := 19) (T := T0) (j := 11) F hS (show 0 < 191 by decide) (show shK 0 = 4 from rfl) (show shN 0 = 19 from rfl) rfl (Nat.le_of_ble_eq_true rfl) ing0 mw_561 (fv_sg rfl rfl rfl) d_WF_keep_28 ?_
  refine r_get (v := vI (M5.1 62 3)) (N := 6) (T := T2) (j := 3) F hS (show 62 < 191 by decide) (show shK 62 = 6 from rfl) (show shN 62 = 6 from rfl) rfl (Nat.le_of_ble_eq_true rfl) ing2 mw_321 (fv_int rfl) d_WF_keep_31 ?_
  have i6 := hS.rng 62 3
  subst hT
  exact r_iret F hlk hr rfl hS i6 d_WF_keep_34
theorem d_WF_back_0 : decode b_WF_back 0 = .ok (.aload_n 0, 1) := dc_42 (by decide +kernel)
theorem d_WF_back_1 : decode b_WF_back 1 = .ok (.getfield 411, 3) := dc_180 (by decide +kernel)
theorem d_WF_back_4 : decode b_WF_back 4 = .ok (.ifCond .ne 5, 3) := dc_154 (by decide +kernel)
theorem d_WF_back_7 : decode b_WF_back 7 = .ok (.iconst (-1), 1) := dc_2 (by decide +kernel)
theorem d_WF_back_8 : decode b_WF_back 8 = .ok (.ireturn, 1) := dc_172 (by decide +kernel)
theorem d_WF_back_9 : decode b_WF_back 9 = .ok (.aload_n 0, 1) := dc_42 (by decide +kernel)
theorem d_WF_back_10 : decode b_WF_back 10 = .ok (.getfield 46, 3) := dc_180 (by decide +kernel)
theorem d_WF_back_13 : decode b_WF_back 13 = .ok (.aload_n 0, 1) := dc_42 (by decide +kernel)
theorem d_WF_back_14 : decode b_WF_back 14 = .ok (.getfield 53, 3) := dc_180 (by decide +kernel)
theorem d_WF_back_17 : decode b_WF_back 17 = .ok (.invokevirtual 299, 3) := dc_182 (by decide +kernel)
theorem d_WF_back_20 : decode b_WF_back 20 = .ok (.aload_n 0, 1) := dc_42 (by decide +kernel)
theorem d_WF_back_21 : decode b_WF_back 21 = .ok (.getfield 59, 3) := dc_180 (by decide +kernel)
theorem d_WF_back_24 : decode b_WF_back 24 = .ok (.aload_n 0, 1) := dc_42 (by decide +kernel)
theorem d_WF_back_25 : decode b_WF_back 25 = .ok (.getfield 63, 3) := dc_180 (by decide +kernel)
theorem d_WF_back_28 : decode b_WF_back 28 = .ok (.invokevirtual 408, 3) := dc_182 (by decide +kernel)
theorem d_WF_back_31 : decode b_WF_back 31 = .ok (.aload_n 0, 1) := dc_42 (by decide +kernel)
theorem d_WF_back_32 : decode b_WF_back 32 = .ok (.getfield 69, 3) := dc_180 (by decide +kernel)
theorem d_WF_back_35 : decode b_WF_back 35 = .ok (.invokevirtual 279, 3) := dc_182 (by decide +kernel)
theorem d_WF_back_38 : decode b_WF_back 38 = .ok (.aload_n 0, 1) := dc_42 (by decide +kernel)
theorem d_WF_back_39 : decode b_WF_back 39 = .ok (.getfield 83, 3) := dc_180 (by decide +kernel)
theorem d_WF_back_42 : decode b_WF_back 42 = .ok (.iconst 0, 1) := dc_3 (by decide +kernel)
theorem d_WF_back_43 : decode b_WF_back 43 = .ok (.putfield 280, 3) := dc_181 (by decide +kernel)
theorem d_WF_back_46 : decode b_WF_back 46 = .ok (.aload_n 0, 1) := dc_42 (by decide +kernel)
theorem d_WF_back_47 : decode b_WF_back 47 = .ok (.getfield 59, 3) := dc_180 (by decide +kernel)
theorem d_WF_back_50 : decode b_WF_back 50 = .ok (.getfield 218, 3) := dc_180 (by decide +kernel)
theorem d_WF_back_53 : decode b_WF_back 53 = .ok (.ireturn, 1) := dc_172 (by decide +kernel)
def t_WF_back (M : Mem)  : Mem × Int := (if (M.1 0 13) = 0 then (M, (-1)) else (qlet (t_Scene_copy M 47 57) fun q3 => (qlet (t_Chronicle_copy q3 62 66) fun q5 => (qlet (t_Past_clear q5) fun q7 => (qlet (setI q7 177 8 0) fun M9 => (M9, (M9.1 62 3)))))))
set_option maxHeartbeats 4000000 in
set_option maxRecDepth 100000 in
theorem c_WF_back (l : Launch) {b n : Nat} {C : CT} (hlo : 191 ≤ n) (M : Mem)   (res : Mem × Int) (hT : t_WF_back M  = res) : CM l b C n 4 y_WF_back b_WF_back 1 (some .int) [.ref (b + 0)] M (QI b C n res.1 res.2) := by
  refine CM.of (lo := 191) (ow := "WardFalls") (by decide) rfl (Nat.le_of_ble_eq_true rfl) hlo (fun p e s m below meth c F hlk hr hS ls hl => ?_)
  have hl : lv_has ls 1 [(0, .ref (b + 0))] := hl
  unfold t_WF_back at hT
  refine lv_aload_n F.hx F.hb d_WF_back_0 rfl (lv_at hl 0 rfl) ?_
  refine r_get (v := vI (M.1 0 13)) (N := 19) (T := T0) (j := 13) F hS (show 0 < 191 by decide) (show shK 0 = 4 from rfl) (show shN 0 = 19 from rfl) rfl (Nat.le_of_ble_eq_true rfl) ing0 mw_563 (fv_int rfl) d_WF_back_1 ?_
  have i1 := hS.rng 0 13
  refine r_if_ne (tgt := 9) F.hx F.hb i1 d_WF_back_4 (by decide) (fun c2 => ?_) (fun c2 => ?_)
  · replace hT := (if_neg c2).symm.trans hT
    refine lv_aload_n F.hx F.hb d_WF_back_9 rfl (lv_at hl 0 rfl) ?_
    refine r_get (v := .ref (b + 47)) (N := 19) (T := T0) (j := 8) F hS (show 0 < 191 by decide) (show shK 0 = 4 from rfl) (show shN 0 = 19 from rfl) rfl (Nat.le_of_ble_eq_true rfl) ing0 mw_558 (fv_sg rfl rfl rfl) d_WF_back_10 ?_
    refine lv_aload_n F.hx F.hb d_WF_back_13 rfl (lv_at hl 0 rfl) ?_
    refine r_get (v := .ref (b + 57)) (N := 19) (T := T0) (j := 10) F hS (show 0 < 191 by decide) (show shK 0 = 4 from rfl) (show shN 0 = 19 from rfl) rfl (Nat.le_of_ble_eq_true rfl) ing0 mw_560 (fv_sg rfl rfl rfl) d_WF_back_14 ?_
    obtain ⟨q3, hq3⟩ : ∃ q, q = (t_Scene_copy M 47 57) := ⟨_, rfl⟩
    replace hT := qlet_eq hT hq3
    refine r_backV F hS (r_runV (k := 47) (N := 7) (T := T9) (As := [.ref (b + 57)]) F hS (show 47 < 191 by decide) (show shK 47 = 13 from rfl) rfl (c_Scene_copy l F.2.2.1 M 47 57 (by decide : isScene 47) (by decide : isScene 57) _ hq3.symm) gs_WF_299 hd_Scene_copy ⟨Nat.le_of_ble_eq_true rfl, Nat.le_of_ble_eq_true rfl⟩ rfl hl.1 (Nat.le_of_ble_eq_true rfl) ⟨Nat.zero_le _, Nat.zero_le _⟩ rfl d_WF_back_17) (fun H locs hS => ?_)
    refine lv_aload_n F.hx F.hb d_WF_back_20 rfl (lv_at hl 0 rfl) ?_
    refine r_get (v := .ref (b + 62)) (N := 19) (T := T0) (j := 11) F hS (show 0 < 191 by decide) (show shK 0 = 4 from rfl) (show shN 0 = 19 from rfl) rfl (Nat.le_of_ble_eq_true rfl) ing0 mw_561 (fv_sg rfl rfl rfl) d_WF_back_21 ?_
    refine lv_aload_n F.hx F.hb d_WF_back_24 rfl (lv_at hl 0 rfl) ?_
    refine r_get (v := .ref (b + 66)) (N := 19) (T := T0) (j := 12) F hS (show 0 < 191 by decide) (show shK 0 = 4 from rfl) (show shN 0 = 19 from rfl) rfl (Nat.le_of_ble_eq_true rfl) ing0 mw_562 (fv_sg rfl rfl rfl) d_WF_back_25 ?_
    obtain ⟨q5, hq5⟩ : ∃ q, q = (t_Chronicle_copy q3 62 66) := ⟨_, rfl⟩
    replace hT := qlet_eq hT hq5
    refine r_backV F hS (r_runV (k := 62) (N := 6) (T := T2) (As := [.ref (b + 66)]) F hS (show 62 < 191 by decide) (show shK 62 = 6 from rfl) rfl (c_Chronicle_copy l F.2.2.1 q3 62 66 (by decide : isChronicle 62) (by decide : isChronicle 66) _ hq5.symm) gs_WF_408 hd_Chronicle_copy ⟨Nat.le_of_ble_eq_true rfl, Nat.le_of_ble_eq_true rfl⟩ rfl hl.1 (Nat.le_of_ble_eq_true rfl) ⟨Nat.zero_le _, Nat.zero_le _⟩ rfl d_WF_back_28) (fun H locs hS => ?_)
    refine lv_aload_n F.hx F.hb d_WF_back_31 rfl (lv_at hl 0 rfl) ?_
    refine r_get (v := .ref (b + 70)) (N := 19) (T := T0) (j := 14) F hS (show 0 < 191 by decide) (show shK 0 = 4 from rfl) (show shN 0 = 19 from rfl) rfl (Nat.le_of_ble_eq_true rfl) ing0 mw_564 (fv_sg rfl rfl rfl) d_WF_back_32 ?_
    obtain ⟨q7, hq7⟩ : ∃ q, q = (t_Past_clear q5) := ⟨_, rfl⟩
    replace hT := qlet_eq hT hq7
    refine r_backV F hS (r_runV (k := 70) (N := 3) (T := T6) (As := []) F hS (show 70 < 191 by decide) (show shK 70 = 10 from rfl) rfl (c_Past_clear l F.2.2.1 q5 _ hq7.symm) gs_WF_279 hd_Past_clear ⟨Nat.le_of_ble_eq_true rfl, Nat.le_of_ble_eq_true rfl⟩ rfl hl.1 (Nat.le_of_ble_eq_true rfl) ⟨Nat.zero_le _, Nat.zero_le _⟩ rfl d_WF_back_35) (fun H locs hS => ?_)
    refine lv_aload_n F.hx F.hb d_WF_back_38 rfl (lv_at hl 0 rfl) ?_
    refine r_get (v := .ref (b + 177)) (N := 19) (T := T0) (j := 16) F hS (show 0 < 191 by decide) (show shK 0 = 4 from rfl) (show shN 0 = 19 from rfl) rfl (Nat.le_of_ble_eq_true rfl) ing0 mw_566 (fv_sg rfl rfl rfl) d_WF_back_39 ?_
    refine r_iconst F.hx F.hb d_WF_back_42 ?_
    refine r_putI (N := 9) (T := T4) (j := 8) F hS (show 177 < 191 by decide) (show shK 177 = 8 from rfl) (show shN 177 = 9 from rfl) rfl (Nat.le_of_ble_eq_true rfl) ing4 tyok4 nm4 rfl rfl (nar_z (Or.inl rfl)) (fit_z (Or.inl rfl)) rfl rfl mw_448 (inr_c rfl) d_WF_back_43 (fun H locs hS => ?_)
    obtain ⟨M9, eM9⟩ : ∃ q, q = (setI q7 177 8 0) := ⟨_, rfl⟩
    replace hS : St b C n M9 s H locs := by rw [eM9]; exact hS
    replace hT := qlet_eq hT eM9
    refine lv_aload_n F.hx F.hb d_WF_back_46 rfl (lv_at hl 0 rfl) ?_
    refine r_get (v := .ref (b + 62)) (N := 19) (T := T0) (j := 11) F hS (show 0 < 191 by decide) (show shK 0 = 4 from rfl) (show shN 0 = 19 from rfl) rfl (Nat.le_of_ble_eq_true rfl) ing0 mw_561 (fv_sg rfl rfl rfl) d_WF_back_47 ?_
    refine r_get (v := vI (M9.1 62 3)) (N := 6) (T := T2) (j := 3) F hS (show 62 < 191 by decide) (show shK 62 = 6 from rfl) (show shN 62 = 6 from rfl) rfl (Nat.le_of_ble_eq_true rfl) ing2 mw_321 (fv_int rfl) d_WF_back_50 ?_
    have i10 := hS.rng 62 3
    subst hT
    exact r_iret F hlk hr rfl hS i10 d_WF_back_53
  · replace hT := (if_pos c2).symm.trans hT
    refine r_iconst F.hx F.hb d_WF_back_7 ?_
    subst hT
    exact r_iret F hlk hr rfl hS (inr_c rfl) d_WF_back_8
theorem d_Scene_thingsToGo_0 : decode b_Scene_thingsToGo 0 = .ok (.iconst 0, 1) := dc_3 (by decide +kernel)
theorem d_Scene_thingsToGo_1 : decode b_Scene_thingsToGo 1 = .ok (.istore_n 2, 1) := dc_61 (by decide +kernel)
theorem d_Scene_thingsToGo_2 : decode b_Scene_thingsToGo 2 = .ok (.iconst 0, 1) := dc_3 (by decide +kernel)
theorem d_Scene_thingsToGo_3 : decode b_Scene_thingsToGo 3 = .ok (.istore_n 3, 1) := dc_62 (by decide +kernel)
theorem d_Scene_thingsToGo_4 : decode b_Scene_thingsToGo 4 = .ok (.iload_n 3, 1) := dc_29 (by decide +kernel)
theorem d_Scene_thingsToGo_5 : decode b_Scene_thingsToGo 5 = .ok (.aload_n 1, 1) := dc_43 (by decide +kernel)
theorem d_Scene_thingsToGo_6 : decode b_Scene_thingsToGo 6 = .ok (.getfield 72, 3) := dc_180 (by decide +kernel)
theorem d_Scene_thingsToGo_9 : decode b_Scene_thingsToGo 9 = .ok (.if_icmp .ge 28, 3) := dc_162 (by decide +kernel)
theorem d_Scene_thingsToGo_12 : decode b_Scene_thingsToGo 12 = .ok (.aload_n 0, 1) := dc_42 (by decide +kernel)
theorem d_Scene_thingsToGo_13 : decode b_Scene_thingsToGo 13 = .ok (.aload_n 1, 1) := dc_43 (by decide +kernel)
theorem d_Scene_thingsToGo_14 : decode b_Scene_thingsToGo 14 = .ok (.aload_n 0, 1) := dc_42 (by decide +kernel)
theorem d_Scene_thingsToGo_15 : decode b_Scene_thingsToGo 15 = .ok (.getfield 15, 3) := dc_180 (by decide +kernel)
theorem d_Scene_thingsToGo_18 : decode b_Scene_thingsToGo 18 = .ok (.iload_n 3, 1) := dc_29 (by decide +kernel)
theorem d_Scene_thingsToGo_19 : decode b_Scene_thingsToGo 19 = .ok (.invokestatic 56, 3) := dc_184 (by decide +kernel)
theorem d_Scene_thingsToGo_22 : decode b_Scene_thingsToGo 22 = .ok (.invokevirtual 83, 3) := dc_182 (by decide +kernel)
theorem d_Scene_thingsToGo_25 : decode b_Scene_thingsToGo 25 = .ok (.ifCond .lt 6, 3) := dc_155 (by decide +kernel)
theorem d_Scene_thingsToGo_28 : decode b_Scene_thingsToGo 28 = .ok (.iinc 2 1, 3) := dc_132 (by decide +kernel)
theorem d_Scene_thingsToGo_31 : decode b_Scene_thingsToGo 31 = .ok (.iinc 3 1, 3) := dc_132 (by decide +kernel)
theorem d_Scene_thingsToGo_34 : decode b_Scene_thingsToGo 34 = .ok (.goto (-30), 3) := dc_167 (by decide +kernel)
theorem d_Scene_thingsToGo_37 : decode b_Scene_thingsToGo 37 = .ok (.iload_n 2, 1) := dc_28 (by decide +kernel)
theorem d_Scene_thingsToGo_38 : decode b_Scene_thingsToGo 38 = .ok (.ireturn, 1) := dc_172 (by decide +kernel)
def t_Scene_thingsToGo_L31 (k0 : Nat) (k1 : Nat) (bk4 : Mem → Int → Int → Option (Int)) (M : Mem) (v2_ : Int) (v3_ : Int) : Option (Int) := (bk4 M v2_ (w32 (v3_ + 1)))
def t_Scene_thingsToGo_L4 (k0 : Nat) (k1 : Nat)  : Nat → Mem → Int → Int → Option (Int)
  | 0, _, _, _ => none
  | fu + 1, M, v2_, v3_ => (if (M.1 k1 15) ≤ v3_ then (some v2_) else (qlet (t_WF_look M (k0 + 2) 8 v3_) fun q3 => (qlet (t_Scene_nextOf M k0 k1 q3) fun q5 => (if q5 < 0 then (t_Scene_thingsToGo_L31 k0 k1 (fun a0_ a1_ a2_ => t_Scene_thingsToGo_L4 k0 k1 fu a0_ a1_ a2_) M v2_ v3_) else (t_Scene_thingsToGo_L31 k0 k1 (fun a0_ a1_ a2_ => t_Scene_thingsToGo_L4 k0 k1 fu a0_ a1_ a2_) M (w32 (v2_ + 1)) v3_)))))
def t_Scene_thingsToGo (M : Mem) (k0 : Nat) (k1 : Nat) : Option (Int) := (t_Scene_thingsToGo_L4 k0 k1 FU M 0 0)
set_option maxHeartbeats 4000000 in
set_option maxRecDepth 100000 in
theorem k_Scene_thingsToGo_L31 (l : Launch) {p : Program} {e : Env} {s : State} {m : MethodId} {below : List Frame} {meth : Method} {c : Code} {b n : Nat} {C : CT} (hlo : 191 ≤ n) (k0 : Nat) (k1 : Nat) (hk0 : isScene k0) (hk1 : isTown k1) (F : Cx b p m c b_Scene_thingsToGo 4 s ([.ref (b + k0), .ref (b + k1)] : List Value).toArray "WardFalls$Scene" C n 191) (hlk : meth.locks = false) (hr : meth.sig.returnType = some .int) {res : Int} (bk4 : Mem → Int → Int → Option (Int)) (hbk4 : ∀ (M : Mem) (v2_ : Int) (hv2_ : InR v2_) (v3_ : Int) (hv3_ : InR v3_) (H : Heap) (locs : List Loc) (ls : Array Slot), St b C n M s H locs → lv_has ls 4 [(0, .ref (b + k0)), (1, .ref (b + k1)), (2, vI v2_), (3, vI v3_)] → bk4 M v2_ v3_ = some res → W p l e (headSpec (wsM y_Scene_thingsToGo b_Scene_thingsToGo 4 (some .int)) (rmD 3)).room s m ([.ref (b + k0), .ref (b + k1)] : List Value).toArray below meth c H locs 0 0 (MQ below (QI b C n M res) ([.ref (b + k0), .ref (b + k1)] : List Value).toArray s 0 0 (frb b)) (F0 m 4 ls [])) (M : Mem) (v2_ : Int) (hv2_ : InR v2_) (v3_ : Int) (hv3_ : InR v3_) (H : Heap) (locs : List Loc) (ls : Array Slot) (hS : St b C n M s H locs) (hl : lv_has ls 4 [(0, .ref (b + k0)), (1, .ref (b + k1)), (2, vI v2_), (3, vI v3_)]) (hT : t_Scene_thingsToGo_L31 k0 k1 bk4 M v2_ v3_ = some res) : W p l e (headSpec (wsM y_Scene_thingsToGo b_Scene_thingsToGo 4 (some .int)) (rmD 3)).room s m ([.ref (b + k0), .ref (b + k1)] : List Value).toArray below meth c H locs 0 0 (MQ below (QI b C n M res) ([.ref (b + k0), .ref (b + k1)] : List Value).toArray s 0 0 (frb b)) (F0 m 31 ls []) := by
  unfold t_Scene_thingsToGo_L31 at hT
  refine lv_iinc (v := Int32.ofInt (w32 (v3_ + 1))) (lv' := [(3, vI (w32 (v3_ + 1))), (0, .ref (b + k0)), (1, .ref (b + k1)), (2, vI v2_)]) F.hx F.hb d_Scene_thingsToGo_31 hl (k := 3) rfl (q_of_add _ _) (Nat.le_of_ble_eq_true rfl) rfl (fun ls hl => ?_)
  refine lv_goto (tgt := 4) F.hx F.hb d_Scene_thingsToGo_34 (by decide) ?_
  exact hbk4 M v2_ hv2_ (w32 (v3_ + 1)) (inr_w32 _) _ _ _ hS (lv_sub hl [1, 2, 3, 0] rfl) hT
set_option maxHeartbeats 4000000 in
set_option maxRecDepth 100000 in
theorem k_Scene_thingsToGo_L4 (l : Launch) {p : Program} {e : Env} {s : State} {m : MethodId} {below : List Frame} {meth : Method} {c : Code} {b n : Nat} {C : CT} (hlo : 191 ≤ n) (k0 : Nat) (k1 : Nat) (hk0 : isScene k0) (hk1 : isTown k1) (F : Cx b p m c b_Scene_thingsToGo 4 s ([.ref (b + k0), .ref (b + k1)] : List Value).toArray "WardFalls$Scene" C n 191) (hlk : meth.locks = false) (hr : meth.sig.returnType = some .int) {res : Int} : ∀ (fu : Nat) (M : Mem) (v2_ : Int) (hv2_ : InR v2_) (v3_ : Int) (hv3_ : InR v3_) (H : Heap) (locs : List Loc) (ls : Array Slot), St b C n M s H locs → lv_has ls 4 [(0, .ref (b + k0)), (1, .ref (b + k1)), (2, vI v2_), (3, vI v3_)] → t_Scene_thingsToGo_L4 k0 k1 fu M v2_ v3_ = some res → W p l e (headSpec (wsM y_Scene_thingsToGo b_Scene_thingsToGo 4 (some .int)) (rmD 3)).room s m ([.ref (b + k0), .ref (b + k1)] : List Value).toArray below meth c H locs 0 0 (MQ below (QI b C n M res) ([.ref (b + k0), .ref (b + k1)] : List Value).toArray s 0 0 (frb b)) (F0 m 4 ls []) := by
  intro fu
  induction fu with
  | zero => intro M v2_ hv2_ v3_ hv3_ H locs ls hS hl hT; exact absurd hT (by simp [t_Scene_thingsToGo_L4])
  | succ fu ih =>
    intro M v2_ hv2_ v3_ hv3_ H locs ls hS hl hT
    rw [t_Scene_thingsToGo_L4] at hT
    refine lv_iload_n F.hx F.hb d_Scene_thingsToGo_4 rfl (lv_at hl 3 rfl) ?_
    refine lv_aload_n F.hx F.hb d_Scene_thingsToGo_5 rfl (lv_at hl 1 rfl) ?_
    refine r_get (v := vI (M.1 k1 15)) (N := 20) (T := T11) (j := 15) F hS (Town_lt hk1) (Town_sh hk1) (Town_N hk1) rfl (Nat.le_of_ble_eq_true rfl) ing11 mw_144 (fv_int rfl) d_Scene_thingsToGo_6 ?_
    have i1 := hS.rng k1 15
    refine r_icmp_ge (tgt := 37) F.hx F.hb hv3_ i1 d_Scene_thingsToGo_9 (by decide) (fun c2 => ?_) (fun c2 => ?_)
    · replace hT := (if_pos c2).symm.trans hT
      refine lv_iload_n F.hx F.hb d_Scene_thingsToGo_37 rfl (lv_at hl 2 rfl) ?_
      cases hT
      exact r_iret F hlk hr rfl hS hv2_ d_Scene_thingsToGo_38
    · replace hT := (if_neg c2).symm.trans hT
      refine lv_aload_n F.hx F.hb d_Scene_thingsToGo_12 rfl (lv_at hl 0 rfl) ?_
      refine lv_aload_n F.hx F.hb d_Scene_thingsToGo_13 rfl (lv_at hl 1 rfl) ?_
      refine lv_aload_n F.hx F.hb d_Scene_thingsToGo_14 rfl (lv_at hl 0 rfl) ?_
      refine r_get (v := .ref (b + (k0 + 2))) (N := 7) (T := T9) (j := 1) F hS (Scene_lt hk0) (Scene_sh hk0) (Scene_N hk0) rfl (Nat.le_of_ble_eq_true rfl) ing9 mw_278 (Scene_g1 hk0 _) d_Scene_thingsToGo_15 ?_
      refine lv_iload_n F.hx F.hb d_Scene_thingsToGo_18 rfl (lv_at hl 3 rfl) ?_
      obtain ⟨q3, hq3⟩ : ∃ q, q = (t_WF_look M (k0 + 2) 8 v3_) := ⟨_, rfl⟩
      replace hT := qlet_eq hT hq3
      refine r_backI F hS (r_runSN (As := [.ref (b + (k0 + 2)), vI v3_]) F hS (c_WF_look l F.2.2.1 M (k0 + 2) 8 v3_ (Scene_f1 hk0) hv3_ _ hq3.symm) mw_519 mw_518 mw_1 gs_Scene_56 hd_WF_look ⟨Nat.le_of_ble_eq_true rfl, Nat.le_of_ble_eq_true rfl⟩ rfl hl.1 (Nat.le_of_ble_eq_true rfl) ⟨Nat.zero_le _, Nat.zero_le _⟩ rfl d_Scene_thingsToGo_19) (fun H locs hS h4 => ?_)
      obtain ⟨q5, hq5⟩ : ∃ q, q = (t_Scene_nextOf M k0 k1 q3) := ⟨_, rfl⟩
      replace hT := qlet_eq hT hq5
      refine r_backI F hS (r_runV (k := k0) (N := 7) (T := T9) (As := [.ref (b + k1), vI q3]) F hS (Scene_lt hk0) (Scene_sh hk0) rfl (c_Scene_nextOf l F.2.2.1 M k0 k1 q3 hk0 hk1 h4 _ hq5.symm) gs_Scene_83 hd_Scene_nextOf ⟨Nat.le_of_ble_eq_true rfl, Nat.le_of_ble_eq_true rfl⟩ rfl hl.1 (Nat.le_of_ble_eq_true rfl) ⟨Nat.zero_le _, Nat.zero_le _⟩ rfl d_Scene_thingsToGo_22) (fun H locs hS h6 => ?_)
      refine r_if_lt (tgt := 31) F.hx F.hb h6 d_Scene_thingsToGo_25 (by decide) (fun c7 => ?_) (fun c7 => ?_)
      · replace hT := (if_pos c7).symm.trans hT
        exact k_Scene_thingsToGo_L31 l hlo k0 k1 hk0 hk1 F hlk hr (fun a0_ a1_ a2_ => t_Scene_thingsToGo_L4 k0 k1 fu a0_ a1_ a2_) ih M v2_ hv2_ v3_ hv3_ _ _ _ hS (lv_sub hl [0, 1, 2, 3] rfl) hT
      · replace hT := (if_neg c7).symm.trans hT
        refine lv_iinc (v := Int32.ofInt (w32 (v2_ + 1))) (lv' := [(2, vI (w32 (v2_ + 1))), (0, .ref (b + k0)), (1, .ref (b + k1)), (3, vI v3_)]) F.hx F.hb d_Scene_thingsToGo_28 hl (k := 2) rfl (q_of_add _ _) (Nat.le_of_ble_eq_true rfl) rfl (fun ls hl => ?_)
        exact k_Scene_thingsToGo_L31 l hlo k0 k1 hk0 hk1 F hlk hr (fun a0_ a1_ a2_ => t_Scene_thingsToGo_L4 k0 k1 fu a0_ a1_ a2_) ih M (w32 (v2_ + 1)) (inr_w32 _) v3_ hv3_ _ _ _ hS (lv_sub hl [1, 2, 0, 3] rfl) hT
set_option maxHeartbeats 4000000 in
set_option maxRecDepth 100000 in
theorem c_Scene_thingsToGo (l : Launch) {b n : Nat} {C : CT} (hlo : 191 ≤ n) (M : Mem) (k0 : Nat) (k1 : Nat) (hk0 : isScene k0) (hk1 : isTown k1) (res : Int) (hT : t_Scene_thingsToGo M k0 k1 = some res) : CM l b C n 3 y_Scene_thingsToGo b_Scene_thingsToGo 4 (some .int) [.ref (b + k0), .ref (b + k1)] M (QI b C n M res) := by
  refine CM.of (lo := 191) (ow := "WardFalls$Scene") (by decide) rfl (Nat.le_of_ble_eq_true rfl) hlo (fun p e s m below meth c F hlk hr hS ls hl => ?_)
  have hl : lv_has ls 4 [(0, .ref (b + k0)), (1, .ref (b + k1))] := hl
  unfold t_Scene_thingsToGo at hT
  refine r_iconst F.hx F.hb d_Scene_thingsToGo_0 ?_
  refine lv_istore_n (lv' := [(2, vI 0), (0, .ref (b + k0)), (1, .ref (b + k1))]) F.hx F.hb d_Scene_thingsToGo_1 rfl hl (Nat.le_of_ble_eq_true rfl) rfl (fun ls hl => ?_)
  refine r_iconst F.hx F.hb d_Scene_thingsToGo_2 ?_
  refine lv_istore_n (lv' := [(3, vI 0), (2, vI 0), (0, .ref (b + k0)), (1, .ref (b + k1))]) F.hx F.hb d_Scene_thingsToGo_3 rfl hl (Nat.le_of_ble_eq_true rfl) rfl (fun ls hl => ?_)
  exact k_Scene_thingsToGo_L4 l hlo k0 k1 hk0 hk1 F hlk hr FU M 0 (inr_c rfl) 0 (inr_c rfl) _ _ _ hS (lv_sub hl [2, 3, 1, 0] rfl) hT
theorem wn_WF_count_0 : ∀ i, i < 1 → bA b_WF_count (0 + i) = wB [27] i := wB_of (by decide +kernel)
theorem d_WF_count_0 : decode b_WF_count 0 = .ok (.iload_n 1, 1) := dc_27 (q0_win (r := 0) wn_WF_count_0 (by decide +kernel))
theorem d_WF_count_1 : decode b_WF_count 1 = .ok (.tableswitch 181 0 12 #[67, 75, 83, 91, 99, 107, 115, 123, 131, 139, 147, 158, 169], 67) := by decide +kernel
theorem wn_WF_count_68 : ∀ i, i < 95 → bA b_WF_count (68 + i) = wB [42, 180, 0, 22, 180, 1, 158, 172, 42, 180, 0, 22, 180, 1, 161, 172, 42, 180, 0, 22, 180, 0, 137, 172, 42, 180, 0, 22, 180, 0, 147, 172, 42, 180, 0, 22, 180, 1, 164, 172, 42, 180, 0, 59, 180, 0, 218, 172, 42, 180, 0, 59, 180, 1, 20, 172, 42, 180, 0, 76, 180, 1, 119, 172, 42, 180, 0, 76, 182, 1, 167, 172, 42, 180, 0, 69, 180, 1, 151, 172, 42, 180, 0, 46, 180, 0, 179, 184, 1, 49, 172, 42, 180, 0, 46] i := wB_of (by decide +kernel)
theorem d_WF_count_68 : decode b_WF_count 68 = .ok (.aload_n 0, 1) := dc_42 (q0_win (r := 0) wn_WF_count_68 (by decide +kernel))
theorem d_WF_count_69 : decode b_WF_count 69 = .ok (.getfield 22, 3) := dc_180 (qU2_win (r := 1) wn_WF_count_68 (by decide +kernel))
theorem d_WF_count_72 : decode b_WF_count 72 = .ok (.getfield 414, 3) := dc_180 (qU2_win (r := 4) wn_WF_count_68 (by decide +kernel))
theorem d_WF_count_75 : decode b_WF_count 75 = .ok (.ireturn, 1) := dc_172 (q0_win (r := 7) wn_WF_count_68 (by decide +kernel))
theorem d_WF_count_76 : decode b_WF_count 76 = .ok (.aload_n 0, 1) := dc_42 (q0_win (r := 8) wn_WF_count_68 (by decide +kernel))
theorem d_WF_count_77 : decode b_WF_count 77 = .ok (.getfield 22, 3) := dc_180 (qU2_win (r := 9) wn_WF_count_68 (by decide +kernel))
theorem d_WF_count_80 : decode b_WF_count 80 = .ok (.getfield 417, 3) := dc_180 (qU2_win (r := 12) wn_WF_count_68 (by decide +kernel))
theorem d_WF_count_83 : decode b_WF_count 83 = .ok (.ireturn, 1) := dc_172 (q0_win (r := 15) wn_WF_count_68 (by decide +kernel))
theorem d_WF_count_84 : decode b_WF_count 84 = .ok (.aload_n 0, 1) := dc_42 (q0_win (r := 16) wn_WF_count_68 (by decide +kernel))
theorem d_WF_count_85 : decode b_WF_count 85 = .ok (.getfield 22, 3) := dc_180 (qU2_win (r := 17) wn_WF_count_68 (by decide +kernel))
theorem d_WF_count_88 : decode b_WF_count 88 = .ok (.getfield 137, 3) := dc_180 (qU2_win (r := 20) wn_WF_count_68 (by decide +kernel))
theorem d_WF_count_91 : decode b_WF_count 91 = .ok (.ireturn, 1) := dc_172 (q0_win (r := 23) wn_WF_count_68 (by decide +kernel))
theorem d_WF_count_92 : decode b_WF_count 92 = .ok (.aload_n 0, 1) := dc_42 (q0_win (r := 24) wn_WF_count_68 (by decide +kernel))
theorem d_WF_count_93 : decode b_WF_count 93 = .ok (.getfield 22, 3) := dc_180 (qU2_win (r := 25) wn_WF_count_68 (by decide +kernel))
theorem d_WF_count_96 : decode b_WF_count 96 = .ok (.getfield 147, 3) := dc_180 (qU2_win (r := 28) wn_WF_count_68 (by decide +kernel))
theorem d_WF_count_99 : decode b_WF_count 99 = .ok (.ireturn, 1) := dc_172 (q0_win (r := 31) wn_WF_count_68 (by decide +kernel))
theorem d_WF_count_100 : decode b_WF_count 100 = .ok (.aload_n 0, 1) := dc_42 (q0_win (r := 32) wn_WF_count_68 (by decide +kernel))
theorem d_WF_count_101 : decode b_WF_count 101 = .ok (.getfield 22, 3) := dc_180 (qU2_win (r := 33) wn_WF_count_68 (by decide +kernel))
theorem d_WF_count_104 : decode b_WF_count 104 = .ok (.getfield 420, 3) := dc_180 (qU2_win (r := 36) wn_WF_count_68 (by decide +kernel))
theorem d_WF_count_107 : decode b_WF_count 107 = .ok (.ireturn, 1) := dc_172 (q0_win (r := 39) wn_WF_count_68 (by decide +kernel))
theorem d_WF_count_108 : decode b_WF_count 108 = .ok (.aload_n 0, 1) := dc_42 (q0_win (r := 40) wn_WF_count_68 (by decide +kernel))
theorem d_WF_count_109 : decode b_WF_count 109 = .ok (.getfield 59, 3) := dc_180 (qU2_win (r := 41) wn_WF_count_68 (by decide +kernel))
theorem d_WF_count_112 : decode b_WF_count 112 = .ok (.getfield 218, 3) := dc_180 (qU2_win (r := 44) wn_WF_count_68 (by decide +kernel))
theorem d_WF_count_115 : decode b_WF_count 115 = .ok (.ireturn, 1) := dc_172 (q0_win (r := 47) wn_WF_count_68 (by decide +kernel))
theorem d_WF_count_116 : decode b_WF_count 116 = .ok (.aload_n 0, 1) := dc_42 (q0_win (r := 48) wn_WF_count_68 (by decide +kernel))
theorem d_WF_count_117 : decode b_WF_count 117 = .ok (.getfield 59, 3) := dc_180 (qU2_win (r := 49) wn_WF_count_68 (by decide +kernel))
theorem d_WF_count_120 : decode b_WF_count 120 = .ok (.getfield 276, 3) := dc_180 (qU2_win (r := 52) wn_WF_count_68 (by decide +kernel))
theorem d_WF_count_123 : decode b_WF_count 123 = .ok (.ireturn, 1) := dc_172 (q0_win (r := 55) wn_WF_count_68 (by decide +kernel))
theorem d_WF_count_124 : decode b_WF_count 124 = .ok (.aload_n 0, 1) := dc_42 (q0_win (r := 56) wn_WF_count_68 (by decide +kernel))
theorem d_WF_count_125 : decode b_WF_count 125 = .ok (.getfield 76, 3) := dc_180 (qU2_win (r := 57) wn_WF_count_68 (by decide +kernel))
theorem d_WF_count_128 : decode b_WF_count 128 = .ok (.getfield 375, 3) := dc_180 (qU2_win (r := 60) wn_WF_count_68 (by decide +kernel))
theorem d_WF_count_131 : decode b_WF_count 131 = .ok (.ireturn, 1) := dc_172 (q0_win (r := 63) wn_WF_count_68 (by decide +kernel))
theorem d_WF_count_132 : decode b_WF_count 132 = .ok (.aload_n 0, 1) := dc_42 (q0_win (r := 64) wn_WF_count_68 (by decide +kernel))
theorem d_WF_count_133 : decode b_WF_count 133 = .ok (.getfield 76, 3) := dc_180 (qU2_win (r := 65) wn_WF_count_68 (by decide +kernel))
theorem d_WF_count_136 : decode b_WF_count 136 = .ok (.invokevirtual 423, 3) := dc_182 (qU2_win (r := 68) wn_WF_count_68 (by decide +kernel))
theorem d_WF_count_139 : decode b_WF_count 139 = .ok (.ireturn, 1) := dc_172 (q0_win (r := 71) wn_WF_count_68 (by decide +kernel))
theorem d_WF_count_140 : decode b_WF_count 140 = .ok (.aload_n 0, 1) := dc_42 (q0_win (r := 72) wn_WF_count_68 (by decide +kernel))
theorem d_WF_count_141 : decode b_WF_count 141 = .ok (.getfield 69, 3) := dc_180 (qU2_win (r := 73) wn_WF_count_68 (by decide +kernel))
theorem d_WF_count_144 : decode b_WF_count 144 = .ok (.getfield 407, 3) := dc_180 (qU2_win (r := 76) wn_WF_count_68 (by decide +kernel))
theorem d_WF_count_147 : decode b_WF_count 147 = .ok (.ireturn, 1) := dc_172 (q0_win (r := 79) wn_WF_count_68 (by decide +kernel))
theorem d_WF_count_148 : decode b_WF_count 148 = .ok (.aload_n 0, 1) := dc_42 (q0_win (r := 80) wn_WF_count_68 (by decide +kernel))
theorem d_WF_count_149 : decode b_WF_count 149 = .ok (.getfield 46, 3) := dc_180 (qU2_win (r := 81) wn_WF_count_68 (by decide +kernel))
theorem d_WF_count_152 : decode b_WF_count 152 = .ok (.getfield 179, 3) := dc_180 (qU2_win (r := 84) wn_WF_count_68 (by decide +kernel))
theorem d_WF_count_155 : decode b_WF_count 155 = .ok (.invokestatic 305, 3) := dc_184 (qU2_win (r := 87) wn_WF_count_68 (by decide +kernel))
theorem d_WF_count_158 : decode b_WF_count 158 = .ok (.ireturn, 1) := dc_172 (q0_win (r := 90) wn_WF_count_68 (by decide +kernel))
theorem d_WF_count_159 : decode b_WF_count 159 = .ok (.aload_n 0, 1) := dc_42 (q0_win (r := 91) wn_WF_count_68 (by decide +kernel))
theorem d_WF_count_160 : decode b_WF_count 160 = .ok (.getfield 46, 3) := dc_180 (qU2_win (r := 92) wn_WF_count_68 (by decide +kernel))
theorem wn_WF_count_163 : ∀ i, i < 21 → bA b_WF_count (163 + i) = wB [180, 0, 176, 184, 1, 49, 172, 42, 180, 0, 46, 42, 180, 0, 22, 182, 1, 170, 172, 2, 172] i := wB_of (by decide +kernel)
theorem d_WF_count_163 : decode b_WF_count 163 = .ok (.getfield 176, 3) := dc_180 (qU2_win (r := 0) wn_WF_count_163 (by decide +kernel))
theorem d_WF_count_166 : decode b_WF_count 166 = .ok (.invokestatic 305, 3) := dc_184 (qU2_win (r := 3) wn_WF_count_163 (by decide +kernel))
theorem d_WF_count_169 : decode b_WF_count 169 = .ok (.ireturn, 1) := dc_172 (q0_win (r := 6) wn_WF_count_163 (by decide +kernel))
theorem d_WF_count_170 : decode b_WF_count 170 = .ok (.aload_n 0, 1) := dc_42 (q0_win (r := 7) wn_WF_count_163 (by decide +kernel))
theorem d_WF_count_171 : decode b_WF_count 171 = .ok (.getfield 46, 3) := dc_180 (qU2_win (r := 8) wn_WF_count_163 (by decide +kernel))
theorem d_WF_count_174 : decode b_WF_count 174 = .ok (.aload_n 0, 1) := dc_42 (q0_win (r := 11) wn_WF_count_163 (by decide +kernel))
theorem d_WF_count_175 : decode b_WF_count 175 = .ok (.getfield 22, 3) := dc_180 (qU2_win (r := 12) wn_WF_count_163 (by decide +kernel))
theorem d_WF_count_178 : decode b_WF_count 178 = .ok (.invokevirtual 426, 3) := dc_182 (qU2_win (r := 15) wn_WF_count_163 (by decide +kernel))
theorem d_WF_count_181 : decode b_WF_count 181 = .ok (.ireturn, 1) := dc_172 (q0_win (r := 18) wn_WF_count_163 (by decide +kernel))
theorem d_WF_count_182 : decode b_WF_count 182 = .ok (.iconst (-1), 1) := dc_2 (q0_win (r := 19) wn_WF_count_163 (by decide +kernel))
theorem d_WF_count_183 : decode b_WF_count 183 = .ok (.ireturn, 1) := dc_172 (q0_win (r := 20) wn_WF_count_163 (by decide +kernel))
def t_WF_count (M : Mem) (x1 : Int) : Option (Int) := (if x1 = 0 then (some (M.1 ((M.1 0 4).toNat) 11)) else (if x1 = 1 then (some (M.1 ((M.1 0 4).toNat) 12)) else (if x1 = 2 then (some (M.1 ((M.1 0 4).toNat) 14)) else (if x1 = 3 then (some (M.1 ((M.1 0 4).toNat) 15)) else (if x1 = 4 then (some (M.1 ((M.1 0 4).toNat) 16)) else (if x1 = 5 then (some (M.1 62 3)) else (if x1 = 6 then (some (M.1 62 4)) else (if x1 = 7 then (some (M.1 172 5)) else (if x1 = 8 then (qlet (t_Notes_knownBy M) fun q23 => (some q23)) else (if x1 = 9 then (some (M.1 70 2)) else (if x1 = 10 then (qlet (t_Long_bitCount M (M.2 47 6)) fun q28 => (some q28)) else (if x1 = 11 then (qlet (t_Long_bitCount M (M.2 47 5)) fun q31 => (some q31)) else (if x1 = 12 then (obind (t_Scene_thingsToGo M 47 ((M.1 0 4).toNat)) fun q35 => (some q35)) else (some (-1)))))))))))))))
set_option maxHeartbeats 4000000 in
set_option maxRecDepth 100000 in
theorem c_WF_count (l : Launch) {b n : Nat} {C : CT} (hlo : 191 ≤ n) (M : Mem) (x1 : Int) (hx1 : InR x1) (res : Int) (hT : t_WF_count M x1 = some res) : CM l b C n 4 y_WF_count b_WF_count 2 (some .int) [.ref (b + 0), vI x1] M (QI b C n M res) := by
  refine CM.of (lo := 191) (ow := "WardFalls") (by decide) rfl (Nat.le_of_ble_eq_true rfl) hlo (fun p e s m below meth c F hlk hr hS ls hl => ?_)
  have hl : lv_has ls 2 [(0, .ref (b + 0)), (1, vI x1)] := hl
  unfold t_WF_count at hT
  refine lv_iload_n F.hx F.hb d_WF_count_0 rfl (lv_at hl 1 rfl) ?_
  rcases q_ite hT with ⟨c1, hT⟩ | ⟨c1, hT⟩
  · refine r_tableIn (i := 0) (tgt := 68) F.hx F.hb hx1 c1 d_WF_count_1 (by decide) (by decide) rfl (by decide) ?_
    refine lv_aload_n F.hx F.hb d_WF_count_68 rfl (lv_at hl 0 rfl) ?_
    have h2 := St_town hS
    refine r_get (v := .ref (b + ((M.1 0 4).toNat))) (N := 19) (T := T0) (j := 4) F hS (show 0 < 191 by decide) (show shK 0 = 4 from rfl) (show shN 0 = 19 from rfl) rfl (Nat.le_of_ble_eq_true rfl) ing0 mw_554 (fv_town hS) d_WF_count_69 ?_
    refine r_get (v := vI (M.1 ((M.1 0 4).toNat) 11)) (N := 20) (T := T11) (j := 11) F hS (Town_lt h2) (Town_sh h2) (Town_N h2) rfl (Nat.le_of_ble_eq_true rfl) ing11 mw_123 (fv_int rfl) d_WF_count_72 ?_
    have i3 := hS.rng ((M.1 0 4).toNat) 11
    cases hT
    exact r_iret F hlk hr rfl hS i3 d_WF_count_75
  ·
    rcases q_ite hT with ⟨c4, hT⟩ | ⟨c4, hT⟩
    · refine r_tableIn (i := 1) (tgt := 76) F.hx F.hb hx1 c4 d_WF_count_1 (by decide) (by decide) rfl (by decide) ?_
      refine lv_aload_n F.hx F.hb d_WF_count_76 rfl (lv_at hl 0 rfl) ?_
      have h5 := St_town hS
      refine r_get (v := .ref (b + ((M.1 0 4).toNat))) (N := 19) (T := T0) (j := 4) F hS (show 0 < 191 by decide) (show shK 0 = 4 from rfl) (show shN 0 = 19 from rfl) rfl (Nat.le_of_ble_eq_true rfl) ing0 mw_554 (fv_town hS) d_WF_count_77 ?_
      refine r_get (v := vI (M.1 ((M.1 0 4).toNat) 12)) (N := 20) (T := T11) (j := 12) F hS (Town_lt h5) (Town_sh h5) (Town_N h5) rfl (Nat.le_of_ble_eq_true rfl) ing11 mw_126 (fv_int rfl) d_WF_count_80 ?_
      have i6 := hS.rng ((M.1 0 4).toNat) 12
      cases hT
      exact r_iret F hlk hr rfl hS i6 d_WF_count_83
    ·
      rcases q_ite hT with ⟨c7, hT⟩ | ⟨c7, hT⟩
      · refine r_tableIn (i := 2) (tgt := 84) F.hx F.hb hx1 c7 d_WF_count_1 (by decide) (by decide) rfl (by decide) ?_
        refine lv_aload_n F.hx F.hb d_WF_count_84 rfl (lv_at hl 0 rfl) ?_
        have h8 := St_town hS
        refine r_get (v := .ref (b + ((M.1 0 4).toNat))) (N := 19) (T := T0) (j := 4) F hS (show 0 < 191 by decide) (show shK 0 = 4 from rfl) (show shN 0 = 19 from rfl) rfl (Nat.le_of_ble_eq_true rfl) ing0 mw_554 (fv_town hS) d_WF_count_85 ?_
        refine r_get (v := vI (M.1 ((M.1 0 4).toNat) 14)) (N := 20) (T := T11) (j := 14) F hS (Town_lt h8) (Town_sh h8) (Town_N h8) rfl (Nat.le_of_ble_eq_true rfl) ing11 mw_137 (fv_int rfl) d_WF_count_88 ?_
        have i9 := hS.rng ((M.1 0 4).toNat) 14
        cases hT
        exact r_iret F hlk hr rfl hS i9 d_WF_count_91
      ·
        rcases q_ite hT with ⟨c10, hT⟩ | ⟨c10, hT⟩
        · refine r_tableIn (i := 3) (tgt := 92) F.hx F.hb hx1 c10 d_WF_count_1 (by decide) (by decide) rfl (by decide) ?_
          refine lv_aload_n F.hx F.hb d_WF_count_92 rfl (lv_at hl 0 rfl) ?_
          have h11 := St_town hS
          refine r_get (v := .ref (b + ((M.1 0 4).toNat))) (N := 19) (T := T0) (j := 4) F hS (show 0 < 191 by decide) (show shK 0 = 4 from rfl) (show shN 0 = 19 from rfl) rfl (Nat.le_of_ble_eq_true rfl) ing0 mw_554 (fv_town hS) d_WF_count_93 ?_
          refine r_get (v := vI (M.1 ((M.1 0 4).toNat) 15)) (N := 20) (T := T11) (j := 15) F hS (Town_lt h11) (Town_sh h11) (Town_N h11) rfl (Nat.le_of_ble_eq_true rfl) ing11 mw_143 (fv_int rfl) d_WF_count_96 ?_
          have i12 := hS.rng ((M.1 0 4).toNat) 15
          cases hT
          exact r_iret F hlk hr rfl hS i12 d_WF_count_99
        ·
          rcases q_ite hT with ⟨c13, hT⟩ | ⟨c13, hT⟩
          · refine r_tableIn (i := 4) (tgt := 100) F.hx F.hb hx1 c13 d_WF_count_1 (by decide) (by decide) rfl (by decide) ?_
            refine lv_aload_n F.hx F.hb d_WF_count_100 rfl (lv_at hl 0 rfl) ?_
            have h14 := St_town hS
            refine r_get (v := .ref (b + ((M.1 0 4).toNat))) (N := 19) (T := T0) (j := 4) F hS (show 0 < 191 by decide) (show shK 0 = 4 from rfl) (show shN 0 = 19 from rfl) rfl (Nat.le_of_ble_eq_true rfl) ing0 mw_554 (fv_town hS) d_WF_count_101 ?_
            refine r_get (v := vI (M.1 ((M.1 0 4).toNat) 16)) (N := 20) (T := T11) (j := 16) F hS (Town_lt h14) (Town_sh h14) (Town_N h14) rfl (Nat.le_of_ble_eq_true rfl) ing11 mw_147 (fv_int rfl) d_WF_count_104 ?_
            have i15 := hS.rng ((M.1 0 4).toNat) 16
            cases hT
            exact r_iret F hlk hr rfl hS i15 d_WF_count_107
          ·
            rcases q_ite hT with ⟨c16, hT⟩ | ⟨c16, hT⟩
            · refine r_tableIn (i := 5) (tgt := 108) F.hx F.hb hx1 c16 d_WF_count_1 (by decide) (by decide) rfl (by decide) ?_
              refine lv_aload_n F.hx F.hb d_WF_count_108 rfl (lv_at hl 0 rfl) ?_
              refine r_get (v := .ref (b + 62)) (N := 19) (T := T0) (j := 11) F hS (show 0 < 191 by decide) (show shK 0 = 4 from rfl) (show shN 0 = 19 from rfl) rfl (Nat.le_of_ble_eq_true rfl) ing0 mw_561 (fv_sg rfl rfl rfl) d_WF_count_109 ?_
              refine r_get (v := vI (M.1 62 3)) (N := 6) (T := T2) (j := 3) F hS (show 62 < 191 by decide) (show shK 62 = 6 from rfl) (show shN 62 = 6 from rfl) rfl (Nat.le_of_ble_eq_true rfl) ing2 mw_321 (fv_int rfl) d_WF_count_112 ?_
              have i17 := hS.rng 62 3
              cases hT
              exact r_iret F hlk hr rfl hS i17 d_WF_count_115
            ·
              rcases q_ite hT with ⟨c18, hT⟩ | ⟨c18, hT⟩
              · refine r_tableIn (i := 6) (tgt := 116) F.hx F.hb hx1 c18 d_WF_count_1 (by decide) (by decide) rfl (by decide) ?_
                refine lv_aload_n F.hx F.hb d_WF_count_116 rfl (lv_at hl 0 rfl) ?_
                refine r_get (v := .ref (b + 62)) (N := 19) (T := T0) (j := 11) F hS (show 0 < 191 by decide) (show shK 0 = 4 from rfl) (show shN 0 = 19 from rfl) rfl (Nat.le_of_ble_eq_true rfl) ing0 mw_561 (fv_sg rfl rfl rfl) d_WF_count_117 ?_
                refine r_get (v := vI (M.1 62 4)) (N := 6) (T := T2) (j := 4) F hS (show 62 < 191 by decide) (show shK 62 = 6 from rfl) (show shN 62 = 6 from rfl) rfl (Nat.le_of_ble_eq_true rfl) ing2 mw_323 (fv_int rfl) d_WF_count_120 ?_
                have i19 := hS.rng 62 4
                cases hT
                exact r_iret F hlk hr rfl hS i19 d_WF_count_123
              ·
                rcases q_ite hT with ⟨c20, hT⟩ | ⟨c20, hT⟩
                · refine r_tableIn (i := 7) (tgt := 124) F.hx F.hb hx1 c20 d_WF_count_1 (by decide) (by decide) rfl (by decide) ?_
                  refine lv_aload_n F.hx F.hb d_WF_count_124 rfl (lv_at hl 0 rfl) ?_
                  refine r_get (v := .ref (b + 172)) (N := 19) (T := T0) (j := 15) F hS (show 0 < 191 by decide) (show shK 0 = 4 from rfl) (show shN 0 = 19 from rfl) rfl (Nat.le_of_ble_eq_true rfl) ing0 mw_565 (fv_sg rfl rfl rfl) d_WF_count_125 ?_
                  refine r_get (v := vI (M.1 172 5)) (N := 7) (T := T5) (j := 5) F hS (show 172 < 191 by decide) (show shK 172 = 9 from rfl) (show shN 172 = 7 from rfl) rfl (Nat.le_of_ble_eq_true rfl) ing5 mw_372 (fv_int rfl) d_WF_count_128 ?_
                  have i21 := hS.rng 172 5
                  cases hT
                  exact r_iret F hlk hr rfl hS i21 d_WF_count_131
                ·
                  rcases q_ite hT with ⟨c22, hT⟩ | ⟨c22, hT⟩
                  · refine r_tableIn (i := 8) (tgt := 132) F.hx F.hb hx1 c22 d_WF_count_1 (by decide) (by decide) rfl (by decide) ?_
                    refine lv_aload_n F.hx F.hb d_WF_count_132 rfl (lv_at hl 0 rfl) ?_
                    refine r_get (v := .ref (b + 172)) (N := 19) (T := T0) (j := 15) F hS (show 0 < 191 by decide) (show shK 0 = 4 from rfl) (show shN 0 = 19 from rfl) rfl (Nat.le_of_ble_eq_true rfl) ing0 mw_565 (fv_sg rfl rfl rfl) d_WF_count_133 ?_
                    obtain ⟨q23, hq23⟩ : ∃ q, q = (t_Notes_knownBy M) := ⟨_, rfl⟩
                    replace hT := qlet_eq hT hq23
                    refine r_backI F hS (r_runV (k := 172) (N := 7) (T := T5) (As := []) F hS (show 172 < 191 by decide) (show shK 172 = 9 from rfl) rfl (c_Notes_knownBy l F.2.2.1 M _ hq23.symm) gs_WF_423 hd_Notes_knownBy ⟨Nat.le_of_ble_eq_true rfl, Nat.le_of_ble_eq_true rfl⟩ rfl hl.1 (Nat.le_of_ble_eq_true rfl) ⟨Nat.zero_le _, Nat.zero_le _⟩ rfl d_WF_count_136) (fun H locs hS h24 => ?_)
                    cases hT
                    exact r_iret F hlk hr rfl hS h24 d_WF_count_139
                  ·
                    rcases q_ite hT with ⟨c25, hT⟩ | ⟨c25, hT⟩
                    · refine r_tableIn (i := 9) (tgt := 140) F.hx F.hb hx1 c25 d_WF_count_1 (by decide) (by decide) rfl (by decide) ?_
                      refine lv_aload_n F.hx F.hb d_WF_count_140 rfl (lv_at hl 0 rfl) ?_
                      refine r_get (v := .ref (b + 70)) (N := 19) (T := T0) (j := 14) F hS (show 0 < 191 by decide) (show shK 0 = 4 from rfl) (show shN 0 = 19 from rfl) rfl (Nat.le_of_ble_eq_true rfl) ing0 mw_564 (fv_sg rfl rfl rfl) d_WF_count_141 ?_
                      refine r_get (v := vI (M.1 70 2)) (N := 3) (T := T6) (j := 2) F hS (show 70 < 191 by decide) (show shK 70 = 10 from rfl) (show shN 70 = 3 from rfl) rfl (Nat.le_of_ble_eq_true rfl) ing6 mw_350 (fv_int rfl) d_WF_count_144 ?_
                      have i26 := hS.rng 70 2
                      cases hT
                      exact r_iret F hlk hr rfl hS i26 d_WF_count_147
                    ·
                      rcases q_ite hT with ⟨c27, hT⟩ | ⟨c27, hT⟩
                      · refine r_tableIn (i := 10) (tgt := 148) F.hx F.hb hx1 c27 d_WF_count_1 (by decide) (by decide) rfl (by decide) ?_
                        refine lv_aload_n F.hx F.hb d_WF_count_148 rfl (lv_at hl 0 rfl) ?_
                        refine r_get (v := .ref (b + 47)) (N := 19) (T := T0) (j := 8) F hS (show 0 < 191 by decide) (show shK 0 = 4 from rfl) (show shN 0 = 19 from rfl) rfl (Nat.le_of_ble_eq_true rfl) ing0 mw_558 (fv_sg rfl rfl rfl) d_WF_count_149 ?_
                        refine r_get (v := .long (M.2 47 6)) (N := 7) (T := T9) (j := 6) F hS (show 47 < 191 by decide) (show shK 47 = 13 from rfl) (show shN 47 = 7 from rfl) rfl (Nat.le_of_ble_eq_true rfl) ing9 mw_292 (fv_long rfl) d_WF_count_152 ?_
                        obtain ⟨q28, hq28⟩ : ∃ q, q = (t_Long_bitCount M (M.2 47 6)) := ⟨_, rfl⟩
                        replace hT := qlet_eq hT hq28
                        refine r_backI F hS (r_runS (As := [.long (M.2 47 6)]) F hS (c_Long_bitCount l (Nat.zero_le _) M (M.2 47 6) _ hq28.symm) gs_WF_305 hd_Long_bitCount ⟨Nat.le_of_ble_eq_true rfl, Nat.le_of_ble_eq_true rfl⟩ rfl hl.1 (Nat.le_of_ble_eq_true rfl) ⟨Nat.zero_le _, Nat.zero_le _⟩ rfl d_WF_count_155) (fun H locs hS h29 => ?_)
                        cases hT
                        exact r_iret F hlk hr rfl hS h29 d_WF_count_158
                      ·
                        rcases q_ite hT with ⟨c30, hT⟩ | ⟨c30, hT⟩
                        · refine r_tableIn (i := 11) (tgt := 159) F.hx F.hb hx1 c30 d_WF_count_1 (by decide) (by decide) rfl (by decide) ?_
                          refine lv_aload_n F.hx F.hb d_WF_count_159 rfl (lv_at hl 0 rfl) ?_
                          refine r_get (v := .ref (b + 47)) (N := 19) (T := T0) (j := 8) F hS (show 0 < 191 by decide) (show shK 0 = 4 from rfl) (show shN 0 = 19 from rfl) rfl (Nat.le_of_ble_eq_true rfl) ing0 mw_558 (fv_sg rfl rfl rfl) d_WF_count_160 ?_
                          refine r_get (v := .long (M.2 47 5)) (N := 7) (T := T9) (j := 5) F hS (show 47 < 191 by decide) (show shK 47 = 13 from rfl) (show shN 47 = 7 from rfl) rfl (Nat.le_of_ble_eq_true rfl) ing9 mw_290 (fv_long rfl) d_WF_count_163 ?_
                          obtain ⟨q31, hq31⟩ : ∃ q, q = (t_Long_bitCount M (M.2 47 5)) := ⟨_, rfl⟩
                          replace hT := qlet_eq hT hq31
                          refine r_backI F hS (r_runS (As := [.long (M.2 47 5)]) F hS (c_Long_bitCount l (Nat.zero_le _) M (M.2 47 5) _ hq31.symm) gs_WF_305 hd_Long_bitCount ⟨Nat.le_of_ble_eq_true rfl, Nat.le_of_ble_eq_true rfl⟩ rfl hl.1 (Nat.le_of_ble_eq_true rfl) ⟨Nat.zero_le _, Nat.zero_le _⟩ rfl d_WF_count_166) (fun H locs hS h32 => ?_)
                          cases hT
                          exact r_iret F hlk hr rfl hS h32 d_WF_count_169
                        ·
                          rcases q_ite hT with ⟨c33, hT⟩ | ⟨c33, hT⟩
                          · refine r_tableIn (i := 12) (tgt := 170) F.hx F.hb hx1 c33 d_WF_count_1 (by decide) (by decide) rfl (by decide) ?_
                            refine lv_aload_n F.hx F.hb d_WF_count_170 rfl (lv_at hl 0 rfl) ?_
                            refine r_get (v := .ref (b + 47)) (N := 19) (T := T0) (j := 8) F hS (show 0 < 191 by decide) (show shK 0 = 4 from rfl) (show shN 0 = 19 from rfl) rfl (Nat.le_of_ble_eq_true rfl) ing0 mw_558 (fv_sg rfl rfl rfl) d_WF_count_171 ?_
                            refine lv_aload_n F.hx F.hb d_WF_count_174 rfl (lv_at hl 0 rfl) ?_
                            have h34 := St_town hS
                            refine r_get (v := .ref (b + ((M.1 0 4).toNat))) (N := 19) (T := T0) (j := 4) F hS (show 0 < 191 by decide) (show shK 0 = 4 from rfl) (show shN 0 = 19 from rfl) rfl (Nat.le_of_ble_eq_true rfl) ing0 mw_554 (fv_town hS) d_WF_count_175 ?_
                            obtain ⟨q35, hq35, hT⟩ := q_obind hT
                            refine r_backI F hS (r_runV (k := 47) (N := 7) (T := T9) (As := [.ref (b + ((M.1 0 4).toNat))]) F hS (show 47 < 191 by decide) (show shK 47 = 13 from rfl) rfl (c_Scene_thingsToGo l F.2.2.1 M 47 ((M.1 0 4).toNat) (by decide : isScene 47) h34 _ hq35) gs_WF_426 hd_Scene_thingsToGo ⟨Nat.le_of_ble_eq_true rfl, Nat.le_of_ble_eq_true rfl⟩ rfl hl.1 (Nat.le_of_ble_eq_true rfl) ⟨Nat.zero_le _, Nat.zero_le _⟩ rfl d_WF_count_178) (fun H locs hS h36 => ?_)
                            cases hT
                            exact r_iret F hlk hr rfl hS h36 d_WF_count_181
                          ·
                            refine r_tableOut (tgt := 182) F.hx F.hb hx1 (by omega) d_WF_count_1 (by decide) ?_
                            refine r_iconst F.hx F.hb d_WF_count_182 ?_
                            cases hT
                            exact r_iret F hlk hr rfl hS (inr_c rfl) d_WF_count_183
theorem wn_MO_begins_0 : ∀ i, i < 95 → bA b_MO_begins (0 + i) = wB [42, 180, 0, 60, 3, 3, 79, 42, 180, 0, 63, 3, 3, 79, 42, 180, 0, 66, 3, 42, 180, 0, 13, 16, 7, 46, 79, 42, 180, 0, 69, 3, 9, 80, 42, 180, 0, 73, 3, 9, 80, 3, 60, 27, 7, 162, 0, 35, 42, 180, 0, 76, 27, 27, 42, 180, 0, 13, 5, 46, 162, 0, 12, 42, 180, 0, 19, 27, 46, 167, 0, 4, 7, 79, 132, 1, 1, 167, 255, 222, 3, 60, 27, 16, 8, 162, 0, 50, 42, 180, 0, 79, 27, 27, 42] i := wB_of (by decide +kernel)
theorem d_MO_begins_0 : decode b_MO_begins 0 = .ok (.aload_n 0, 1) := dc_42 (q0_win (r := 0) wn_MO_begins_0 (by decide +kernel))
theorem d_MO_begins_1 : decode b_MO_begins 1 = .ok (.getfield 60, 3) := dc_180 (qU2_win (r := 1) wn_MO_begins_0 (by decide +kernel))
theorem d_MO_begins_4 : decode b_MO_begins 4 = .ok (.iconst 0, 1) := dc_3 (q0_win (r := 4) wn_MO_begins_0 (by decide +kernel))
theorem d_MO_begins_5 : decode b_MO_begins 5 = .ok (.iconst 0, 1) := dc_3 (q0_win (r := 5) wn_MO_begins_0 (by decide +kernel))
theorem d_MO_begins_6 : decode b_MO_begins 6 = .ok (.iastore, 1) := dc_79 (q0_win (r := 6) wn_MO_begins_0 (by decide +kernel))
theorem d_MO_begins_7 : decode b_MO_begins 7 = .ok (.aload_n 0, 1) := dc_42 (q0_win (r := 7) wn_MO_begins_0 (by decide +kernel))
theorem d_MO_begins_8 : decode b_MO_begins 8 = .ok (.getfield 63, 3) := dc_180 (qU2_win (r := 8) wn_MO_begins_0 (by decide +kernel))
theorem d_MO_begins_11 : decode b_MO_begins 11 = .ok (.iconst 0, 1) := dc_3 (q0_win (r := 11) wn_MO_begins_0 (by decide +kernel))
theorem d_MO_begins_12 : decode b_MO_begins 12 = .ok (.iconst 0, 1) := dc_3 (q0_win (r := 12) wn_MO_begins_0 (by decide +kernel))
theorem d_MO_begins_13 : decode b_MO_begins 13 = .ok (.iastore, 1) := dc_79 (q0_win (r := 13) wn_MO_begins_0 (by decide +kernel))
theorem d_MO_begins_14 : decode b_MO_begins 14 = .ok (.aload_n 0, 1) := dc_42 (q0_win (r := 14) wn_MO_begins_0 (by decide +kernel))
theorem d_MO_begins_15 : decode b_MO_begins 15 = .ok (.getfield 66, 3) := dc_180 (qU2_win (r := 15) wn_MO_begins_0 (by decide +kernel))
theorem d_MO_begins_18 : decode b_MO_begins 18 = .ok (.iconst 0, 1) := dc_3 (q0_win (r := 18) wn_MO_begins_0 (by decide +kernel))
theorem d_MO_begins_19 : decode b_MO_begins 19 = .ok (.aload_n 0, 1) := dc_42 (q0_win (r := 19) wn_MO_begins_0 (by decide +kernel))
theorem d_MO_begins_20 : decode b_MO_begins 20 = .ok (.getfield 13, 3) := dc_180 (qU2_win (r := 20) wn_MO_begins_0 (by decide +kernel))
theorem d_MO_begins_23 : decode b_MO_begins 23 = .ok (.bipush 7, 2) := dc_16 (qS1_win (r := 23) wn_MO_begins_0 (by decide +kernel))
theorem d_MO_begins_25 : decode b_MO_begins 25 = .ok (.iaload, 1) := dc_46 (q0_win (r := 25) wn_MO_begins_0 (by decide +kernel))
theorem d_MO_begins_26 : decode b_MO_begins 26 = .ok (.iastore, 1) := dc_79 (q0_win (r := 26) wn_MO_begins_0 (by decide +kernel))
theorem d_MO_begins_27 : decode b_MO_begins 27 = .ok (.aload_n 0, 1) := dc_42 (q0_win (r := 27) wn_MO_begins_0 (by decide +kernel))
theorem d_MO_begins_28 : decode b_MO_begins 28 = .ok (.getfield 69, 3) := dc_180 (qU2_win (r := 28) wn_MO_begins_0 (by decide +kernel))
theorem d_MO_begins_31 : decode b_MO_begins 31 = .ok (.iconst 0, 1) := dc_3 (q0_win (r := 31) wn_MO_begins_0 (by decide +kernel))
theorem d_MO_begins_32 : decode b_MO_begins 32 = .ok (.lconst 0, 1) := dc_9 (q0_win (r := 32) wn_MO_begins_0 (by decide +kernel))
theorem d_MO_begins_33 : decode b_MO_begins 33 = .ok (.lastore, 1) := dc_80 (q0_win (r := 33) wn_MO_begins_0 (by decide +kernel))
theorem d_MO_begins_34 : decode b_MO_begins 34 = .ok (.aload_n 0, 1) := dc_42 (q0_win (r := 34) wn_MO_begins_0 (by decide +kernel))
theorem d_MO_begins_35 : decode b_MO_begins 35 = .ok (.getfield 73, 3) := dc_180 (qU2_win (r := 35) wn_MO_begins_0 (by decide +kernel))
theorem d_MO_begins_38 : decode b_MO_begins 38 = .ok (.iconst 0, 1) := dc_3 (q0_win (r := 38) wn_MO_begins_0 (by decide +kernel))
theorem d_MO_begins_39 : decode b_MO_begins 39 = .ok (.lconst 0, 1) := dc_9 (q0_win (r := 39) wn_MO_begins_0 (by decide +kernel))
theorem d_MO_begins_40 : decode b_MO_begins 40 = .ok (.lastore, 1) := dc_80 (q0_win (r := 40) wn_MO_begins_0 (by decide +kernel))
theorem d_MO_begins_41 : decode b_MO_begins 41 = .ok (.iconst 0, 1) := dc_3 (q0_win (r := 41) wn_MO_begins_0 (by decide +kernel))
theorem d_MO_begins_42 : decode b_MO_begins 42 = .ok (.istore_n 1, 1) := dc_60 (q0_win (r := 42) wn_MO_begins_0 (by decide +kernel))
theorem d_MO_begins_43 : decode b_MO_begins 43 = .ok (.iload_n 1, 1) := dc_27 (q0_win (r := 43) wn_MO_begins_0 (by decide +kernel))
theorem d_MO_begins_44 : decode b_MO_begins 44 = .ok (.iconst 4, 1) := dc_7 (q0_win (r := 44) wn_MO_begins_0 (by decide +kernel))
theorem d_MO_begins_45 : decode b_MO_begins 45 = .ok (.if_icmp .ge 35, 3) := dc_162 (qS2_win (r := 45) wn_MO_begins_0 (by decide +kernel))
theorem d_MO_begins_48 : decode b_MO_begins 48 = .ok (.aload_n 0, 1) := dc_42 (q0_win (r := 48) wn_MO_begins_0 (by decide +kernel))
theorem d_MO_begins_49 : decode b_MO_begins 49 = .ok (.getfield 76, 3) := dc_180 (qU2_win (r := 49) wn_MO_begins_0 (by decide +kernel))
theorem d_MO_begins_52 : decode b_MO_begins 52 = .ok (.iload_n 1, 1) := dc_27 (q0_win (r := 52) wn_MO_begins_0 (by decide +kernel))
theorem d_MO_begins_53 : decode b_MO_begins 53 = .ok (.iload_n 1, 1) := dc_27 (q0_win (r := 53) wn_MO_begins_0 (by decide +kernel))
theorem d_MO_begins_54 : decode b_MO_begins 54 = .ok (.aload_n 0, 1) := dc_42 (q0_win (r := 54) wn_MO_begins_0 (by decide +kernel))
theorem d_MO_begins_55 : decode b_MO_begins 55 = .ok (.getfield 13, 3) := dc_180 (qU2_win (r := 55) wn_MO_begins_0 (by decide +kernel))
theorem d_MO_begins_58 : decode b_MO_begins 58 = .ok (.iconst 2, 1) := dc_5 (q0_win (r := 58) wn_MO_begins_0 (by decide +kernel))
theorem d_MO_begins_59 : decode b_MO_begins 59 = .ok (.iaload, 1) := dc_46 (q0_win (r := 59) wn_MO_begins_0 (by decide +kernel))
theorem d_MO_begins_60 : decode b_MO_begins 60 = .ok (.if_icmp .ge 12, 3) := dc_162 (qS2_win (r := 60) wn_MO_begins_0 (by decide +kernel))
theorem d_MO_begins_63 : decode b_MO_begins 63 = .ok (.aload_n 0, 1) := dc_42 (q0_win (r := 63) wn_MO_begins_0 (by decide +kernel))
theorem d_MO_begins_64 : decode b_MO_begins 64 = .ok (.getfield 19, 3) := dc_180 (qU2_win (r := 64) wn_MO_begins_0 (by decide +kernel))
theorem d_MO_begins_67 : decode b_MO_begins 67 = .ok (.iload_n 1, 1) := dc_27 (q0_win (r := 67) wn_MO_begins_0 (by decide +kernel))
theorem d_MO_begins_68 : decode b_MO_begins 68 = .ok (.iaload, 1) := dc_46 (q0_win (r := 68) wn_MO_begins_0 (by decide +kernel))
theorem d_MO_begins_69 : decode b_MO_begins 69 = .ok (.goto 4, 3) := dc_167 (qS2_win (r := 69) wn_MO_begins_0 (by decide +kernel))
theorem d_MO_begins_72 : decode b_MO_begins 72 = .ok (.iconst 4, 1) := dc_7 (q0_win (r := 72) wn_MO_begins_0 (by decide +kernel))
theorem d_MO_begins_73 : decode b_MO_begins 73 = .ok (.iastore, 1) := dc_79 (q0_win (r := 73) wn_MO_begins_0 (by decide +kernel))
theorem d_MO_begins_74 : decode b_MO_begins 74 = .ok (.iinc 1 1, 3) := dc_132 (qI_win (r := 74) wn_MO_begins_0 (by decide +kernel))
theorem d_MO_begins_77 : decode b_MO_begins 77 = .ok (.goto (-34), 3) := dc_167 (qS2_win (r := 77) wn_MO_begins_0 (by decide +kernel))
theorem d_MO_begins_80 : decode b_MO_begins 80 = .ok (.iconst 0, 1) := dc_3 (q0_win (r := 80) wn_MO_begins_0 (by decide +kernel))
theorem d_MO_begins_81 : decode b_MO_begins 81 = .ok (.istore_n 1, 1) := dc_60 (q0_win (r := 81) wn_MO_begins_0 (by decide +kernel))
theorem d_MO_begins_82 : decode b_MO_begins 82 = .ok (.iload_n 1, 1) := dc_27 (q0_win (r := 82) wn_MO_begins_0 (by decide +kernel))
theorem d_MO_begins_83 : decode b_MO_begins 83 = .ok (.bipush 8, 2) := dc_16 (qS1_win (r := 83) wn_MO_begins_0 (by decide +kernel))
theorem d_MO_begins_85 : decode b_MO_begins 85 = .ok (.if_icmp .ge 50, 3) := dc_162 (qS2_win (r := 85) wn_MO_begins_0 (by decide +kernel))
theorem d_MO_begins_88 : decode b_MO_begins 88 = .ok (.aload_n 0, 1) := dc_42 (q0_win (r := 88) wn_MO_begins_0 (by decide +kernel))
theorem d_MO_begins_89 : decode b_MO_begins 89 = .ok (.getfield 79, 3) := dc_180 (qU2_win (r := 89) wn_MO_begins_0 (by decide +kernel))
theorem d_MO_begins_92 : decode b_MO_begins 92 = .ok (.iload_n 1, 1) := dc_27 (q0_win (r := 92) wn_MO_begins_0 (by decide +kernel))
theorem d_MO_begins_93 : decode b_MO_begins 93 = .ok (.iload_n 1, 1) := dc_27 (q0_win (r := 93) wn_MO_begins_0 (by decide +kernel))
theorem d_MO_begins_94 : decode b_MO_begins 94 = .ok (.aload_n 0, 1) := dc_42 (q0_win (r := 94) wn_MO_begins_0 (by decide +kernel))
theorem wn_MO_begins_95 : ∀ i, i < 41 → bA b_MO_begins (95 + i) = wB [180, 0, 13, 16, 6, 46, 162, 0, 12, 42, 180, 0, 41, 27, 46, 167, 0, 4, 2, 79, 42, 180, 0, 82, 27, 3, 79, 42, 180, 0, 85, 27, 3, 79, 132, 1, 1, 167, 255, 206, 177] i := wB_of (by decide +kernel)
theorem d_MO_begins_95 : decode b_MO_begins 95 = .ok (.getfield 13, 3) := dc_180 (qU2_win (r := 0) wn_MO_begins_95 (by decide +kernel))
theorem d_MO_begins_98 : decode b_MO_begins 98 = .ok (.bipush 6, 2) := dc_16 (qS1_win (r := 3) wn_MO_begins_95 (by decide +kernel))
theorem d_MO_begins_100 : decode b_MO_begins 100 = .ok (.iaload, 1) := dc_46 (q0_win (r := 5) wn_MO_begins_95 (by decide +kernel))
theorem d_MO_begins_101 : decode b_MO_begins 101 = .ok (.if_icmp .ge 12, 3) := dc_162 (qS2_win (r := 6) wn_MO_begins_95 (by decide +kernel))
theorem d_MO_begins_104 : decode b_MO_begins 104 = .ok (.aload_n 0, 1) := dc_42 (q0_win (r := 9) wn_MO_begins_95 (by decide +kernel))
theorem d_MO_begins_105 : decode b_MO_begins 105 = .ok (.getfield 41, 3) := dc_180 (qU2_win (r := 10) wn_MO_begins_95 (by decide +kernel))
theorem d_MO_begins_108 : decode b_MO_begins 108 = .ok (.iload_n 1, 1) := dc_27 (q0_win (r := 13) wn_MO_begins_95 (by decide +kernel))
theorem d_MO_begins_109 : decode b_MO_begins 109 = .ok (.iaload, 1) := dc_46 (q0_win (r := 14) wn_MO_begins_95 (by decide +kernel))
theorem d_MO_begins_110 : decode b_MO_begins 110 = .ok (.goto 4, 3) := dc_167 (qS2_win (r := 15) wn_MO_begins_95 (by decide +kernel))
theorem d_MO_begins_113 : decode b_MO_begins 113 = .ok (.iconst (-1), 1) := dc_2 (q0_win (r := 18) wn_MO_begins_95 (by decide +kernel))
theorem d_MO_begins_114 : decode b_MO_begins 114 = .ok (.iastore, 1) := dc_79 (q0_win (r := 19) wn_MO_begins_95 (by decide +kernel))
theorem d_MO_begins_115 : decode b_MO_begins 115 = .ok (.aload_n 0, 1) := dc_42 (q0_win (r := 20) wn_MO_begins_95 (by decide +kernel))
theorem d_MO_begins_116 : decode b_MO_begins 116 = .ok (.getfield 82, 3) := dc_180 (qU2_win (r := 21) wn_MO_begins_95 (by decide +kernel))
theorem d_MO_begins_119 : decode b_MO_begins 119 = .ok (.iload_n 1, 1) := dc_27 (q0_win (r := 24) wn_MO_begins_95 (by decide +kernel))
theorem d_MO_begins_120 : decode b_MO_begins 120 = .ok (.iconst 0, 1) := dc_3 (q0_win (r := 25) wn_MO_begins_95 (by decide +kernel))
theorem d_MO_begins_121 : decode b_MO_begins 121 = .ok (.iastore, 1) := dc_79 (q0_win (r := 26) wn_MO_begins_95 (by decide +kernel))
theorem d_MO_begins_122 : decode b_MO_begins 122 = .ok (.aload_n 0, 1) := dc_42 (q0_win (r := 27) wn_MO_begins_95 (by decide +kernel))
theorem d_MO_begins_123 : decode b_MO_begins 123 = .ok (.getfield 85, 3) := dc_180 (qU2_win (r := 28) wn_MO_begins_95 (by decide +kernel))
theorem d_MO_begins_126 : decode b_MO_begins 126 = .ok (.iload_n 1, 1) := dc_27 (q0_win (r := 31) wn_MO_begins_95 (by decide +kernel))
theorem d_MO_begins_127 : decode b_MO_begins 127 = .ok (.iconst 0, 1) := dc_3 (q0_win (r := 32) wn_MO_begins_95 (by decide +kernel))
theorem d_MO_begins_128 : decode b_MO_begins 128 = .ok (.iastore, 1) := dc_79 (q0_win (r := 33) wn_MO_begins_95 (by decide +kernel))
theorem d_MO_begins_129 : decode b_MO_begins 129 = .ok (.iinc 1 1, 3) := dc_132 (qI_win (r := 34) wn_MO_begins_95 (by decide +kernel))
theorem d_MO_begins_132 : decode b_MO_begins 132 = .ok (.goto (-50), 3) := dc_167 (qS2_win (r := 37) wn_MO_begins_95 (by decide +kernel))
theorem d_MO_begins_135 : decode b_MO_begins 135 = .ok (.return_, 1) := dc_177 (q0_win (r := 40) wn_MO_begins_95 (by decide +kernel))
def t_MO_begins_L73  (bk43 : Mem → Int → Option (Mem)) (M : Mem) (v1_ : Int) (v3_ : Int) (v4_ : Int) : Option (Mem) := (qguard (0 ≤ v3_ ∧ v3_ < 92) (qlet (setI M 212 v3_ v4_) fun M18 => (bk43 M18 (w32 (v1_ + 1)))))
def t_MO_begins_L114  (bk82 : Mem → Int → Option (Mem)) (M : Mem) (v1_ : Int) (v3_ : Int) (v4_ : Int) : Option (Mem) := (qguard (0 ≤ v3_ ∧ v3_ < 184) (qlet (setI M 213 v3_ v4_) fun M20 => (qguard (0 ≤ v1_ ∧ v1_ < 184) (qlet (setI M20 214 v1_ 0) fun M22 => (qguard (0 ≤ v1_ ∧ v1_ < 184) (qlet (setI M22 215 v1_ 0) fun M24 => (bk82 M24 (w32 (v1_ + 1)))))))))
def t_MO_begins_L82   : Nat → Mem → Int → Option (Mem)
  | 0, _, _ => none
  | fu + 1, M, v1_ => (if 8 ≤ v1_ then (some M) else (if (M.1 193 6) ≤ v1_ then (t_MO_begins_L114 (fun a0_ a1_ => t_MO_begins_L82 fu a0_ a1_) M v1_ v1_ (-1)) else (qguard (0 ≤ v1_ ∧ v1_ < 16) (t_MO_begins_L114 (fun a0_ a1_ => t_MO_begins_L82 fu a0_ a1_) M v1_ v1_ (M.1 202 v1_)))))
def t_MO_begins_L43   : Nat → Mem → Int → Option (Mem)
  | 0, _, _ => none
  | fu + 1, M, v1_ => (if 4 ≤ v1_ then (t_MO_begins_L82 FU M 0) else (if (M.1 193 2) ≤ v1_ then (t_MO_begins_L73 (fun a0_ a1_ => t_MO_begins_L43 fu a0_ a1_) M v1_ v1_ 4) else (qguard (0 ≤ v1_ ∧ v1_ < 8) (t_MO_begins_L73 (fun a0_ a1_ => t_MO_begins_L43 fu a0_ a1_) M v1_ v1_ (M.1 195 v1_)))))
def t_MO_begins (M : Mem)  : Option (Mem) := (qlet (setI M 207 0 0) fun M1 => (qlet (setI M1 208 0 0) fun M2 => (qlet (setI M2 209 0 (M2.1 193 7)) fun M4 => (qlet (setL M4 210 0 0) fun M5 => (qlet (setL M5 211 0 0) fun M6 => (t_MO_begins_L43 FU M6 0))))))
set_option maxHeartbeats 4000000 in
set_option maxRecDepth 100000 in
theorem k_MO_begins_L73 (l : Launch) {p : Program} {e : Env} {s : State} {m : MethodId} {below : List Frame} {meth : Method} {c : Code} {b n : Nat} {C : CT} (hlo : 231 ≤ n)   (F : Cx b p m c b_MO_begins 2 s ([.ref (b + 191)] : List Value).toArray "WardFallsModel" C n 231) (hlk : meth.locks = false) (hr : meth.sig.returnType = none) {res : Mem} (bk43 : Mem → Int → Option (Mem)) (hbk43 : ∀ (M : Mem) (v1_ : Int) (hv1_ : InR v1_) (H : Heap) (locs : List Loc) (ls : Array Slot), St b C n M s H locs → lv_has ls 2 [(0, .ref (b + 191)), (1, vI v1_)] → bk43 M v1_ = some res → W p l e (headSpec (wsM y_MO_begins b_MO_begins 2 (none)) (rmD 0)).room s m ([.ref (b + 191)] : List Value).toArray below meth c H locs 0 0 (MQ below (QV b C n res) ([.ref (b + 191)] : List Value).toArray s 0 0 (frb b)) (F0 m 43 ls [])) (M : Mem) (v1_ : Int) (hv1_ : InR v1_) (v3_ : Int) (hv3_ : InR v3_) (v4_ : Int) (hv4_ : InR v4_) (H : Heap) (locs : List Loc) (ls : Array Slot) (hS : St b C n M s H locs) (hl : lv_has ls 2 [(0, .ref (b + 191)), (1, vI v1_)]) (hT : t_MO_begins_L73 bk43 M v1_ v3_ v4_ = some res) : W p l e (headSpec (wsM y_MO_begins b_MO_begins 2 (none)) (rmD 0)).room s m ([.ref (b + 191)] : List Value).toArray below meth c H locs 0 0 (MQ below (QV b C n res) ([.ref (b + 191)] : List Value).toArray s 0 0 (frb b)) (F0 m 73 ls [vI v4_, vI v3_, .ref (b + 212)]) := by
  unfold t_MO_begins_L73 at hT
  obtain ⟨⟨g17a, g17b⟩, hT⟩ := q_guard hT
  refine r_iast F hS (show 212 < 231 by decide) (show shK 212 = 0 from rfl) (show shN 212 = 92 from rfl) hv3_ hv4_ g17a g17b d_MO_begins_73 (fun H locs hS => ?_)
  obtain ⟨M18, eM18⟩ : ∃ q, q = (setI M 212 v3_ v4_) := ⟨_, rfl⟩
  replace hS : St b C n M18 s H locs := by rw [eM18]; exact hS
  replace hT := qlet_eq hT eM18
  refine lv_iinc (v := Int32.ofInt (w32 (v1_ + 1))) (lv' := [(1, vI (w32 (v1_ + 1))), (0, .ref (b + 191))]) F.hx F.hb d_MO_begins_74 hl (k := 1) rfl (q_of_add _ _) (Nat.le_of_ble_eq_true rfl) rfl (fun ls hl => ?_)
  refine lv_goto (tgt := 43) F.hx F.hb d_MO_begins_77 (by decide) ?_
  exact hbk43 M18 (w32 (v1_ + 1)) (inr_w32 _) _ _ _ hS (lv_sub hl [1, 0] rfl) hT
set_option maxHeartbeats 4000000 in
set_option maxRecDepth 100000 in
theorem k_MO_begins_L114 (l : Launch) {p : Program} {e : Env} {s : State} {m : MethodId} {below : List Frame} {meth : Method} {c : Code} {b n : Nat} {C : CT} (hlo : 231 ≤ n)   (F : Cx b p m c b_MO_begins 2 s ([.ref (b + 191)] : List Value).toArray "WardFallsModel" C n 231) (hlk : meth.locks = false) (hr : meth.sig.returnType = none) {res : Mem} (bk82 : Mem → Int → Option (Mem)) (hbk82 : ∀ (M : Mem) (v1_ : Int) (hv1_ : InR v1_) (H : Heap) (locs : List Loc) (ls : Array Slot), St b C n M s H locs → lv_has ls 2 [(0, .ref (b + 191)), (1, vI v1_)] → bk82 M v1_ = some res → W p l e (headSpec (wsM y_MO_begins b_MO_begins 2 (none)) (rmD 0)).room s m ([.ref (b + 191)] : List Value).toArray below meth c H locs 0 0 (MQ below (QV b C n res) ([.ref (b + 191)] : List Value).toArray s 0 0 (frb b)) (F0 m 82 ls [])) (M : Mem) (v1_ : Int) (hv1_ : InR v1_) (v3_ : Int) (hv3_ : InR v3_) (v4_ : Int) (hv4_ : InR v4_) (H : Heap) (locs : List Loc) (ls : Array Slot) (hS : St b C n M s H locs) (hl : lv_has ls 2 [(0, .ref (b + 191)), (1, vI v1_)]) (hT : t_MO_begins_L114 bk82 M v1_ v3_ v4_ = some res) : W p l e (headSpec (wsM y_MO_begins b_MO_begins 2 (none)) (rmD 0)).room s m ([.ref (b + 191)] : List Value).toArray below meth c H locs 0 0 (MQ below (QV b C n res) ([.ref (b + 191)] : List Value).toArray s 0 0 (frb b)) (F0 m 114 ls [vI v4_, vI v3_, .ref (b + 213)]) := by
  unfold t_MO_begins_L114 at hT
  obtain ⟨⟨g19a, g19b⟩, hT⟩ := q_guard hT
  refine r_iast F hS (show 213 < 231 by decide) (show shK 213 = 0 from rfl) (show shN 213 = 184 from rfl) hv3_ hv4_ g19a g19b d_MO_begins_114 (fun H locs hS => ?_)
  obtain ⟨M20, eM20⟩ : ∃ q, q = (setI M 213 v3_ v4_) := ⟨_, rfl⟩
  replace hS : St b C n M20 s H locs := by rw [eM20]; exact hS
  replace hT := qlet_eq hT eM20
  refine lv_aload_n F.hx F.hb d_MO_begins_115 rfl (lv_at hl 0 rfl) ?_
  refine r_get (v := .ref (b + 214)) (N := 68) (T := T1) (j := 37) F hS (show 191 < 231 by decide) (show shK 191 = 5 from rfl) (show shN 191 = 68 from rfl) rfl (Nat.le_of_ble_eq_true rfl) ing1 mw_1426 (fv_sg rfl rfl rfl) d_MO_begins_116 ?_
  refine lv_iload_n F.hx F.hb d_MO_begins_119 rfl (lv_at hl 1 rfl) ?_
  refine r_iconst F.hx F.hb d_MO_begins_120 ?_
  obtain ⟨⟨g21a, g21b⟩, hT⟩ := q_guard hT
  refine r_iast F hS (show 214 < 231 by decide) (show shK 214 = 0 from rfl) (show shN 214 = 184 from rfl) hv1_ (inr_c rfl) g21a g21b d_MO_begins_121 (fun H locs hS => ?_)
  obtain ⟨M22, eM22⟩ : ∃ q, q = (setI M20 214 v1_ 0) := ⟨_, rfl⟩
  replace hS : St b C n M22 s H locs := by rw [eM22]; exact hS
  replace hT := qlet_eq hT eM22
  refine lv_aload_n F.hx F.hb d_MO_begins_122 rfl (lv_at hl 0 rfl) ?_
  refine r_get (v := .ref (b + 215)) (N := 68) (T := T1) (j := 38) F hS (show 191 < 231 by decide) (show shK 191 = 5 from rfl) (show shN 191 = 68 from rfl) rfl (Nat.le_of_ble_eq_true rfl) ing1 mw_1427 (fv_sg rfl rfl rfl) d_MO_begins_123 ?_
  refine lv_iload_n F.hx F.hb d_MO_begins_126 rfl (lv_at hl 1 rfl) ?_
  refine r_iconst F.hx F.hb d_MO_begins_127 ?_
  obtain ⟨⟨g23a, g23b⟩, hT⟩ := q_guard hT
  refine r_iast F hS (show 215 < 231 by decide) (show shK 215 = 0 from rfl) (show shN 215 = 184 from rfl) hv1_ (inr_c rfl) g23a g23b d_MO_begins_128 (fun H locs hS => ?_)
  obtain ⟨M24, eM24⟩ : ∃ q, q = (setI M22 215 v1_ 0) := ⟨_, rfl⟩
  replace hS : St b C n M24 s H locs := by rw [eM24]; exact hS
  replace hT := qlet_eq hT eM24
  refine lv_iinc (v := Int32.ofInt (w32 (v1_ + 1))) (lv' := [(1, vI (w32 (v1_ + 1))), (0, .ref (b + 191))]) F.hx F.hb d_MO_begins_129 hl (k := 1) rfl (q_of_add _ _) (Nat.le_of_ble_eq_true rfl) rfl (fun ls hl => ?_)
  refine lv_goto (tgt := 82) F.hx F.hb d_MO_begins_132 (by decide) ?_
  exact hbk82 M24 (w32 (v1_ + 1)) (inr_w32 _) _ _ _ hS (lv_sub hl [1, 0] rfl) hT
set_option maxHeartbeats 4000000 in
set_option maxRecDepth 100000 in
theorem k_MO_begins_L82 (l : Launch) {p : Program} {e : Env} {s : State} {m : MethodId} {below : List Frame} {meth : Method} {c : Code} {b n : Nat} {C : CT} (hlo : 231 ≤ n)   (F : Cx b p m c b_MO_begins 2 s ([.ref (b + 191)] : List Value).toArray "WardFallsModel" C n 231) (hlk : meth.locks = false) (hr : meth.sig.returnType = none) {res : Mem} : ∀ (fu : Nat) (M : Mem) (v1_ : Int) (hv1_ : InR v1_) (H : Heap) (locs : List Loc) (ls : Array Slot), St b C n M s H locs → lv_has ls 2 [(0, .ref (b + 191)), (1, vI v1_)] → t_MO_begins_L82 fu M v1_ = some res → W p l e (headSpec (wsM y_MO_begins b_MO_begins 2 (none)) (rmD 0)).room s m ([.ref (b + 191)] : List Value).toArray below meth c H locs 0 0 (MQ below (QV b C n res) ([.ref (b + 191)] : List Value).toArray s 0 0 (frb b)) (F0 m 82 ls []) := by
  intro fu
  induction fu with
  | zero => intro M v1_ hv1_ H locs ls hS hl hT; exact absurd hT (by simp [t_MO_begins_L82])
  | succ fu ih =>
    intro M v1_ hv1_ H locs ls hS hl hT
    rw [t_MO_begins_L82] at hT
    refine lv_iload_n F.hx F.hb d_MO_begins_82 rfl (lv_at hl 1 rfl) ?_
    refine r_bipush F.hx F.hb d_MO_begins_83 rfl ?_
    refine r_icmp_ge (tgt := 135) F.hx F.hb hv1_ (inr_c rfl) d_MO_begins_85 (by decide) (fun c12 => ?_) (fun c12 => ?_)
    · replace hT := (if_pos c12).symm.trans hT
      cases hT
      exact r_vret F hlk hr hS d_MO_begins_135
    · replace hT := (if_neg c12).symm.trans hT
      refine lv_aload_n F.hx F.hb d_MO_begins_88 rfl (lv_at hl 0 rfl) ?_
      refine r_get (v := .ref (b + 213)) (N := 68) (T := T1) (j := 36) F hS (show 191 < 231 by decide) (show shK 191 = 5 from rfl) (show shN 191 = 68 from rfl) rfl (Nat.le_of_ble_eq_true rfl) ing1 mw_1425 (fv_sg rfl rfl rfl) d_MO_begins_89 ?_
      refine lv_iload_n F.hx F.hb d_MO_begins_92 rfl (lv_at hl 1 rfl) ?_
      refine lv_iload_n F.hx F.hb d_MO_begins_93 rfl (lv_at hl 1 rfl) ?_
      refine lv_aload_n F.hx F.hb d_MO_begins_94 rfl (lv_at hl 0 rfl) ?_
      refine r_get (v := .ref (b + 193)) (N := 68) (T := T1) (j := 3) F hS (show 191 < 231 by decide) (show shK 191 = 5 from rfl) (show shN 191 = 68 from rfl) rfl (Nat.le_of_ble_eq_true rfl) ing1 mw_1392 (fv_sg rfl rfl rfl) d_MO_begins_95 ?_
      refine r_bipush F.hx F.hb d_MO_begins_98 rfl ?_
      refine r_iald F hS (show 193 < 231 by decide) (show shK 193 = 0 from rfl) (show shN 193 = 18 from rfl) (inr_c rfl) (by omega) (by omega) d_MO_begins_100 ?_
      have i13 := hS.rng 193 6
      refine r_icmp_ge (tgt := 113) F.hx F.hb hv1_ i13 d_MO_begins_101 (by decide) (fun c14 => ?_) (fun c14 => ?_)
      · replace hT := (if_pos c14).symm.trans hT
        refine r_iconst F.hx F.hb d_MO_begins_113 ?_
        exact k_MO_begins_L114 l hlo F hlk hr (fun a0_ a1_ => t_MO_begins_L82 fu a0_ a1_) ih M v1_ hv1_ v1_ hv1_ (-1) (inr_c rfl) _ _ _ hS (lv_sub hl [0, 1] rfl) hT
      · replace hT := (if_neg c14).symm.trans hT
        refine lv_aload_n F.hx F.hb d_MO_begins_104 rfl (lv_at hl 0 rfl) ?_
        refine r_get (v := .ref (b + 202)) (N := 68) (T := T1) (j := 12) F hS (show 191 < 231 by decide) (show shK 191 = 5 from rfl) (show shN 191 = 68 from rfl) rfl (Nat.le_of_ble_eq_true rfl) ing1 mw_1401 (fv_sg rfl rfl rfl) d_MO_begins_105 ?_
        refine lv_iload_n F.hx F.hb d_MO_begins_108 rfl (lv_at hl 1 rfl) ?_
        obtain ⟨⟨g15a, g15b⟩, hT⟩ := q_guard hT
        refine r_iald F hS (show 202 < 231 by decide) (show shK 202 = 0 from rfl) (show shN 202 = 16 from rfl) hv1_ g15a g15b d_MO_begins_109 ?_
        have i16 := hS.rng 202 v1_
        refine lv_goto (tgt := 114) F.hx F.hb d_MO_begins_110 (by decide) ?_
        exact k_MO_begins_L114 l hlo F hlk hr (fun a0_ a1_ => t_MO_begins_L82 fu a0_ a1_) ih M v1_ hv1_ v1_ hv1_ (M.1 202 v1_) i16 _ _ _ hS (lv_sub hl [0, 1] rfl) hT
set_option maxHeartbeats 4000000 in
set_option maxRecDepth 100000 in
theorem k_MO_begins_L43 (l : Launch) {p : Program} {e : Env} {s : State} {m : MethodId} {below : List Frame} {meth : Method} {c : Code} {b n : Nat} {C : CT} (hlo : 231 ≤ n)   (F : Cx b p m c b_MO_begins 2 s ([.ref (b + 191)] : List Value).toArray "WardFallsModel" C n 231) (hlk : meth.locks = false) (hr : meth.sig.returnType = none) {res : Mem} : ∀ (fu : Nat) (M : Mem) (v1_ : Int) (hv1_ : InR v1_) (H : Heap) (locs : List Loc) (ls : Array Slot), St b C n M s H locs → lv_has ls 2 [(0, .ref (b + 191)), (1, vI v1_)] → t_MO_begins_L43 fu M v1_ = some res → W p l e (headSpec (wsM y_MO_begins b_MO_begins 2 (none)) (rmD 0)).room s m ([.ref (b + 191)] : List Value).toArray below meth c H locs 0 0 (MQ below (QV b C n res) ([.ref (b + 191)] : List Value).toArray s 0 0 (frb b)) (F0 m 43 ls []) := by
  intro fu
  induction fu with
  | zero => intro M v1_ hv1_ H locs ls hS hl hT; exact absurd hT (by simp [t_MO_begins_L43])
  | succ fu ih =>
    intro M v1_ hv1_ H locs ls hS hl hT
    rw [t_MO_begins_L43] at hT
    refine lv_iload_n F.hx F.hb d_MO_begins_43 rfl (lv_at hl 1 rfl) ?_
    refine r_iconst F.hx F.hb d_MO_begins_44 ?_
    refine r_icmp_ge (tgt := 80) F.hx F.hb hv1_ (inr_c rfl) d_MO_begins_45 (by decide) (fun c7 => ?_) (fun c7 => ?_)
    · replace hT := (if_pos c7).symm.trans hT
      refine r_iconst F.hx F.hb d_MO_begins_80 ?_
      refine lv_istore_n (lv' := [(1, vI 0), (0, .ref (b + 191))]) F.hx F.hb d_MO_begins_81 rfl hl (Nat.le_of_ble_eq_true rfl) rfl (fun ls hl => ?_)
      exact k_MO_begins_L82 l hlo F hlk hr FU M 0 (inr_c rfl) _ _ _ hS (lv_sub hl [1, 0] rfl) hT
    · replace hT := (if_neg c7).symm.trans hT
      refine lv_aload_n F.hx F.hb d_MO_begins_48 rfl (lv_at hl 0 rfl) ?_
      refine r_get (v := .ref (b + 212)) (N := 68) (T := T1) (j := 35) F hS (show 191 < 231 by decide) (show shK 191 = 5 from rfl) (show shN 191 = 68 from rfl) rfl (Nat.le_of_ble_eq_true rfl) ing1 mw_1424 (fv_sg rfl rfl rfl) d_MO_begins_49 ?_
      refine lv_iload_n F.hx F.hb d_MO_begins_52 rfl (lv_at hl 1 rfl) ?_
      refine lv_iload_n F.hx F.hb d_MO_begins_53 rfl (lv_at hl 1 rfl) ?_
      refine lv_aload_n F.hx F.hb d_MO_begins_54 rfl (lv_at hl 0 rfl) ?_
      refine r_get (v := .ref (b + 193)) (N := 68) (T := T1) (j := 3) F hS (show 191 < 231 by decide) (show shK 191 = 5 from rfl) (show shN 191 = 68 from rfl) rfl (Nat.le_of_ble_eq_true rfl) ing1 mw_1392 (fv_sg rfl rfl rfl) d_MO_begins_55 ?_
      refine r_iconst F.hx F.hb d_MO_begins_58 ?_
      refine r_iald F hS (show 193 < 231 by decide) (show shK 193 = 0 from rfl) (show shN 193 = 18 from rfl) (inr_c rfl) (by omega) (by omega) d_MO_begins_59 ?_
      have i8 := hS.rng 193 2
      refine r_icmp_ge (tgt := 72) F.hx F.hb hv1_ i8 d_MO_begins_60 (by decide) (fun c9 => ?_) (fun c9 => ?_)
      · replace hT := (if_pos c9).symm.trans hT
        refine r_iconst F.hx F.hb d_MO_begins_72 ?_
        exact k_MO_begins_L73 l hlo F hlk hr (fun a0_ a1_ => t_MO_begins_L43 fu a0_ a1_) ih M v1_ hv1_ v1_ hv1_ 4 (inr_c rfl) _ _ _ hS (lv_sub hl [0, 1] rfl) hT
      · replace hT := (if_neg c9).symm.trans hT
        refine lv_aload_n F.hx F.hb d_MO_begins_63 rfl (lv_at hl 0 rfl) ?_
        refine r_get (v := .ref (b + 195)) (N := 68) (T := T1) (j := 5) F hS (show 191 < 231 by decide) (show shK 191 = 5 from rfl) (show shN 191 = 68 from rfl) rfl (Nat.le_of_ble_eq_true rfl) ing1 mw_1394 (fv_sg rfl rfl rfl) d_MO_begins_64 ?_
        refine lv_iload_n F.hx F.hb d_MO_begins_67 rfl (lv_at hl 1 rfl) ?_
        obtain ⟨⟨g10a, g10b⟩, hT⟩ := q_guard hT
        refine r_iald F hS (show 195 < 231 by decide) (show shK 195 = 0 from rfl) (show shN 195 = 8 from rfl) hv1_ g10a g10b d_MO_begins_68 ?_
        have i11 := hS.rng 195 v1_
        refine lv_goto (tgt := 73) F.hx F.hb d_MO_begins_69 (by decide) ?_
        exact k_MO_begins_L73 l hlo F hlk hr (fun a0_ a1_ => t_MO_begins_L43 fu a0_ a1_) ih M v1_ hv1_ v1_ hv1_ (M.1 195 v1_) i11 _ _ _ hS (lv_sub hl [0, 1] rfl) hT
set_option maxHeartbeats 4000000 in
set_option maxRecDepth 100000 in
theorem c_MO_begins (l : Launch) {b n : Nat} {C : CT} (hlo : 231 ≤ n) (M : Mem)   (res : Mem) (hT : t_MO_begins M  = some res) : CM l b C n 0 y_MO_begins b_MO_begins 2 (none) [.ref (b + 191)] M (QV b C n res) := by
  refine CM.of (lo := 231) (ow := "WardFallsModel") (by decide) rfl (Nat.le_of_ble_eq_true rfl) hlo (fun p e s m below meth c F hlk hr hS ls hl => ?_)
  have hl : lv_has ls 2 [(0, .ref (b + 191))] := hl
  unfold t_MO_begins at hT
  refine lv_aload_n F.hx F.hb d_MO_begins_0 rfl (lv_at hl 0 rfl) ?_
  refine r_get (v := .ref (b + 207)) (N := 68) (T := T1) (j := 30) F hS (show 191 < 231 by decide) (show shK 191 = 5 from rfl) (show shN 191 = 68 from rfl) rfl (Nat.le_of_ble_eq_true rfl) ing1 mw_1419 (fv_sg rfl rfl rfl) d_MO_begins_1 ?_
  refine r_iconst F.hx F.hb d_MO_begins_4 ?_
  refine r_iconst F.hx F.hb d_MO_begins_5 ?_
  refine r_iast F hS (show 207 < 231 by decide) (show shK 207 = 0 from rfl) (show shN 207 = 23 from rfl) (inr_c rfl) (inr_c rfl) (by omega) (by omega) d_MO_begins_6 (fun H locs hS => ?_)
  obtain ⟨M1, eM1⟩ : ∃ q, q = (setI M 207 0 0) := ⟨_, rfl⟩
  replace hS : St b C n M1 s H locs := by rw [eM1]; exact hS
  replace hT := qlet_eq hT eM1
  refine lv_aload_n F.hx F.hb d_MO_begins_7 rfl (lv_at hl 0 rfl) ?_
  refine r_get (v := .ref (b + 208)) (N := 68) (T := T1) (j := 31) F hS (show 191 < 231 by decide) (show shK 191 = 5 from rfl) (show shN 191 = 68 from rfl) rfl (Nat.le_of_ble_eq_true rfl) ing1 mw_1420 (fv_sg rfl rfl rfl) d_MO_begins_8 ?_
  refine r_iconst F.hx F.hb d_MO_begins_11 ?_
  refine r_iconst F.hx F.hb d_MO_begins_12 ?_
  refine r_iast F hS (show 208 < 231 by decide) (show shK 208 = 0 from rfl) (show shN 208 = 23 from rfl) (inr_c rfl) (inr_c rfl) (by omega) (by omega) d_MO_begins_13 (fun H locs hS => ?_)
  obtain ⟨M2, eM2⟩ : ∃ q, q = (setI M1 208 0 0) := ⟨_, rfl⟩
  replace hS : St b C n M2 s H locs := by rw [eM2]; exact hS
  replace hT := qlet_eq hT eM2
  refine lv_aload_n F.hx F.hb d_MO_begins_14 rfl (lv_at hl 0 rfl) ?_
  refine r_get (v := .ref (b + 209)) (N := 68) (T := T1) (j := 32) F hS (show 191 < 231 by decide) (show shK 191 = 5 from rfl) (show shN 191 = 68 from rfl) rfl (Nat.le_of_ble_eq_true rfl) ing1 mw_1421 (fv_sg rfl rfl rfl) d_MO_begins_15 ?_
  refine r_iconst F.hx F.hb d_MO_begins_18 ?_
  refine lv_aload_n F.hx F.hb d_MO_begins_19 rfl (lv_at hl 0 rfl) ?_
  refine r_get (v := .ref (b + 193)) (N := 68) (T := T1) (j := 3) F hS (show 191 < 231 by decide) (show shK 191 = 5 from rfl) (show shN 191 = 68 from rfl) rfl (Nat.le_of_ble_eq_true rfl) ing1 mw_1392 (fv_sg rfl rfl rfl) d_MO_begins_20 ?_
  refine r_bipush F.hx F.hb d_MO_begins_23 rfl ?_
  refine r_iald F hS (show 193 < 231 by decide) (show shK 193 = 0 from rfl) (show shN 193 = 18 from rfl) (inr_c rfl) (by omega) (by omega) d_MO_begins_25 ?_
  have i3 := hS.rng 193 7
  refine r_iast F hS (show 209 < 231 by decide) (show shK 209 = 0 from rfl) (show shN 209 = 23 from rfl) (inr_c rfl) i3 (by omega) (by omega) d_MO_begins_26 (fun H locs hS => ?_)
  obtain ⟨M4, eM4⟩ : ∃ q, q = (setI M2 209 0 (M2.1 193 7)) := ⟨_, rfl⟩
  replace hS : St b C n M4 s H locs := by rw [eM4]; exact hS
  replace hT := qlet_eq hT eM4
  refine lv_aload_n F.hx F.hb d_MO_begins_27 rfl (lv_at hl 0 rfl) ?_
  refine r_get (v := .ref (b + 210)) (N := 68) (T := T1) (j := 33) F hS (show 191 < 231 by decide) (show shK 191 = 5 from rfl) (show shN 191 = 68 from rfl) rfl (Nat.le_of_ble_eq_true rfl) ing1 mw_1422 (fv_sg rfl rfl rfl) d_MO_begins_28 ?_
  refine r_iconst F.hx F.hb d_MO_begins_31 ?_
  refine lv_lconst (v := 0) F.hx F.hb d_MO_begins_32 rfl ?_
  refine r_last F hS (show 210 < 231 by decide) (show shK 210 = 2 from rfl) (show shN 210 = 23 from rfl) (inr_c rfl) (by omega) (by omega) d_MO_begins_33 (fun H locs hS => ?_)
  obtain ⟨M5, eM5⟩ : ∃ q, q = (setL M4 210 0 0) := ⟨_, rfl⟩
  replace hS : St b C n M5 s H locs := by rw [eM5]; exact hS
  replace hT := qlet_eq hT eM5
  refine lv_aload_n F.hx F.hb d_MO_begins_34 rfl (lv_at hl 0 rfl) ?_
  refine r_get (v := .ref (b + 211)) (N := 68) (T := T1) (j := 34) F hS (show 191 < 231 by decide) (show shK 191 = 5 from rfl) (show shN 191 = 68 from rfl) rfl (Nat.le_of_ble_eq_true rfl) ing1 mw_1423 (fv_sg rfl rfl rfl) d_MO_begins_35 ?_
  refine r_iconst F.hx F.hb d_MO_begins_38 ?_
  refine lv_lconst (v := 0) F.hx F.hb d_MO_begins_39 rfl ?_
  refine r_last F hS (show 211 < 231 by decide) (show shK 211 = 2 from rfl) (show shN 211 = 23 from rfl) (inr_c rfl) (by omega) (by omega) d_MO_begins_40 (fun H locs hS => ?_)
  obtain ⟨M6, eM6⟩ : ∃ q, q = (setL M5 211 0 0) := ⟨_, rfl⟩
  replace hS : St b C n M6 s H locs := by rw [eM6]; exact hS
  replace hT := qlet_eq hT eM6
  refine r_iconst F.hx F.hb d_MO_begins_41 ?_
  refine lv_istore_n (lv' := [(1, vI 0), (0, .ref (b + 191))]) F.hx F.hb d_MO_begins_42 rfl hl (Nat.le_of_ble_eq_true rfl) rfl (fun ls hl => ?_)
  exact k_MO_begins_L43 l hlo F hlk hr FU M6 0 (inr_c rfl) _ _ _ hS (lv_sub hl [1, 0] rfl) hT
end
