theorem wn_Laws_measure_0 : ∀ i, i < 96 → bA b_Laws_measure (0 + i) = wB [42, 180, 0, 15, 3, 184, 0, 35, 42, 180, 0, 19, 3, 184, 0, 35, 42, 180, 0, 22, 3, 184, 0, 35, 3, 62, 29, 43, 180, 0, 41, 162, 0, 120, 42, 180, 0, 28, 43, 44, 44, 180, 0, 47, 29, 184, 0, 52, 182, 0, 56, 43, 42, 180, 0, 28, 182, 0, 60, 182, 0, 64, 54, 4, 42, 180, 0, 15, 21, 4, 42, 180, 0, 15, 21, 4, 184, 0, 52, 4, 96, 184, 0, 68, 42, 180, 0, 19, 21, 4, 42, 180, 0, 19, 21, 4] i := wB_of (by decide +kernel)
theorem d_Laws_measure_0 : decode b_Laws_measure 0 = .ok (.aload_n 0, 1) := dc_42 (q0_win (r := 0) wn_Laws_measure_0 (by decide +kernel))
theorem d_Laws_measure_1 : decode b_Laws_measure 1 = .ok (.getfield 15, 3) := dc_180 (qU2_win (r := 1) wn_Laws_measure_0 (by decide +kernel))
theorem d_Laws_measure_4 : decode b_Laws_measure 4 = .ok (.iconst 0, 1) := dc_3 (q0_win (r := 4) wn_Laws_measure_0 (by decide +kernel))
theorem d_Laws_measure_5 : decode b_Laws_measure 5 = .ok (.invokestatic 35, 3) := dc_184 (qU2_win (r := 5) wn_Laws_measure_0 (by decide +kernel))
theorem d_Laws_measure_8 : decode b_Laws_measure 8 = .ok (.aload_n 0, 1) := dc_42 (q0_win (r := 8) wn_Laws_measure_0 (by decide +kernel))
theorem d_Laws_measure_9 : decode b_Laws_measure 9 = .ok (.getfield 19, 3) := dc_180 (qU2_win (r := 9) wn_Laws_measure_0 (by decide +kernel))
theorem d_Laws_measure_12 : decode b_Laws_measure 12 = .ok (.iconst 0, 1) := dc_3 (q0_win (r := 12) wn_Laws_measure_0 (by decide +kernel))
theorem d_Laws_measure_13 : decode b_Laws_measure 13 = .ok (.invokestatic 35, 3) := dc_184 (qU2_win (r := 13) wn_Laws_measure_0 (by decide +kernel))
theorem d_Laws_measure_16 : decode b_Laws_measure 16 = .ok (.aload_n 0, 1) := dc_42 (q0_win (r := 16) wn_Laws_measure_0 (by decide +kernel))
theorem d_Laws_measure_17 : decode b_Laws_measure 17 = .ok (.getfield 22, 3) := dc_180 (qU2_win (r := 17) wn_Laws_measure_0 (by decide +kernel))
theorem d_Laws_measure_20 : decode b_Laws_measure 20 = .ok (.iconst 0, 1) := dc_3 (q0_win (r := 20) wn_Laws_measure_0 (by decide +kernel))
theorem d_Laws_measure_21 : decode b_Laws_measure 21 = .ok (.invokestatic 35, 3) := dc_184 (qU2_win (r := 21) wn_Laws_measure_0 (by decide +kernel))
theorem d_Laws_measure_24 : decode b_Laws_measure 24 = .ok (.iconst 0, 1) := dc_3 (q0_win (r := 24) wn_Laws_measure_0 (by decide +kernel))
theorem d_Laws_measure_25 : decode b_Laws_measure 25 = .ok (.istore_n 3, 1) := dc_62 (q0_win (r := 25) wn_Laws_measure_0 (by decide +kernel))
theorem d_Laws_measure_26 : decode b_Laws_measure 26 = .ok (.iload_n 3, 1) := dc_29 (q0_win (r := 26) wn_Laws_measure_0 (by decide +kernel))
theorem d_Laws_measure_27 : decode b_Laws_measure 27 = .ok (.aload_n 1, 1) := dc_43 (q0_win (r := 27) wn_Laws_measure_0 (by decide +kernel))
theorem d_Laws_measure_28 : decode b_Laws_measure 28 = .ok (.getfield 41, 3) := dc_180 (qU2_win (r := 28) wn_Laws_measure_0 (by decide +kernel))
theorem d_Laws_measure_31 : decode b_Laws_measure 31 = .ok (.if_icmp .ge 120, 3) := dc_162 (qS2_win (r := 31) wn_Laws_measure_0 (by decide +kernel))
theorem d_Laws_measure_34 : decode b_Laws_measure 34 = .ok (.aload_n 0, 1) := dc_42 (q0_win (r := 34) wn_Laws_measure_0 (by decide +kernel))
theorem d_Laws_measure_35 : decode b_Laws_measure 35 = .ok (.getfield 28, 3) := dc_180 (qU2_win (r := 35) wn_Laws_measure_0 (by decide +kernel))
theorem d_Laws_measure_38 : decode b_Laws_measure 38 = .ok (.aload_n 1, 1) := dc_43 (q0_win (r := 38) wn_Laws_measure_0 (by decide +kernel))
theorem d_Laws_measure_39 : decode b_Laws_measure 39 = .ok (.aload_n 2, 1) := dc_44 (q0_win (r := 39) wn_Laws_measure_0 (by decide +kernel))
theorem d_Laws_measure_40 : decode b_Laws_measure 40 = .ok (.aload_n 2, 1) := dc_44 (q0_win (r := 40) wn_Laws_measure_0 (by decide +kernel))
theorem d_Laws_measure_41 : decode b_Laws_measure 41 = .ok (.getfield 47, 3) := dc_180 (qU2_win (r := 41) wn_Laws_measure_0 (by decide +kernel))
theorem d_Laws_measure_44 : decode b_Laws_measure 44 = .ok (.iload_n 3, 1) := dc_29 (q0_win (r := 44) wn_Laws_measure_0 (by decide +kernel))
theorem d_Laws_measure_45 : decode b_Laws_measure 45 = .ok (.invokestatic 52, 3) := dc_184 (qU2_win (r := 45) wn_Laws_measure_0 (by decide +kernel))
theorem d_Laws_measure_48 : decode b_Laws_measure 48 = .ok (.invokevirtual 56, 3) := dc_182 (qU2_win (r := 48) wn_Laws_measure_0 (by decide +kernel))
theorem d_Laws_measure_51 : decode b_Laws_measure 51 = .ok (.aload_n 1, 1) := dc_43 (q0_win (r := 51) wn_Laws_measure_0 (by decide +kernel))
theorem d_Laws_measure_52 : decode b_Laws_measure 52 = .ok (.aload_n 0, 1) := dc_42 (q0_win (r := 52) wn_Laws_measure_0 (by decide +kernel))
theorem d_Laws_measure_53 : decode b_Laws_measure 53 = .ok (.getfield 28, 3) := dc_180 (qU2_win (r := 53) wn_Laws_measure_0 (by decide +kernel))
theorem d_Laws_measure_56 : decode b_Laws_measure 56 = .ok (.invokevirtual 60, 3) := dc_182 (qU2_win (r := 56) wn_Laws_measure_0 (by decide +kernel))
theorem d_Laws_measure_59 : decode b_Laws_measure 59 = .ok (.invokevirtual 64, 3) := dc_182 (qU2_win (r := 59) wn_Laws_measure_0 (by decide +kernel))
theorem d_Laws_measure_62 : decode b_Laws_measure 62 = .ok (.istore 4, 2) := dc_54 (qU1_win (r := 62) wn_Laws_measure_0 (by decide +kernel))
theorem d_Laws_measure_64 : decode b_Laws_measure 64 = .ok (.aload_n 0, 1) := dc_42 (q0_win (r := 64) wn_Laws_measure_0 (by decide +kernel))
theorem d_Laws_measure_65 : decode b_Laws_measure 65 = .ok (.getfield 15, 3) := dc_180 (qU2_win (r := 65) wn_Laws_measure_0 (by decide +kernel))
theorem d_Laws_measure_68 : decode b_Laws_measure 68 = .ok (.iload 4, 2) := dc_21 (qU1_win (r := 68) wn_Laws_measure_0 (by decide +kernel))
theorem d_Laws_measure_70 : decode b_Laws_measure 70 = .ok (.aload_n 0, 1) := dc_42 (q0_win (r := 70) wn_Laws_measure_0 (by decide +kernel))
theorem d_Laws_measure_71 : decode b_Laws_measure 71 = .ok (.getfield 15, 3) := dc_180 (qU2_win (r := 71) wn_Laws_measure_0 (by decide +kernel))
theorem d_Laws_measure_74 : decode b_Laws_measure 74 = .ok (.iload 4, 2) := dc_21 (qU1_win (r := 74) wn_Laws_measure_0 (by decide +kernel))
theorem d_Laws_measure_76 : decode b_Laws_measure 76 = .ok (.invokestatic 52, 3) := dc_184 (qU2_win (r := 76) wn_Laws_measure_0 (by decide +kernel))
theorem d_Laws_measure_79 : decode b_Laws_measure 79 = .ok (.iconst 1, 1) := dc_4 (q0_win (r := 79) wn_Laws_measure_0 (by decide +kernel))
theorem d_Laws_measure_80 : decode b_Laws_measure 80 = .ok (.iadd, 1) := dc_96 (q0_win (r := 80) wn_Laws_measure_0 (by decide +kernel))
theorem d_Laws_measure_81 : decode b_Laws_measure 81 = .ok (.invokestatic 68, 3) := dc_184 (qU2_win (r := 81) wn_Laws_measure_0 (by decide +kernel))
theorem d_Laws_measure_84 : decode b_Laws_measure 84 = .ok (.aload_n 0, 1) := dc_42 (q0_win (r := 84) wn_Laws_measure_0 (by decide +kernel))
theorem d_Laws_measure_85 : decode b_Laws_measure 85 = .ok (.getfield 19, 3) := dc_180 (qU2_win (r := 85) wn_Laws_measure_0 (by decide +kernel))
theorem d_Laws_measure_88 : decode b_Laws_measure 88 = .ok (.iload 4, 2) := dc_21 (qU1_win (r := 88) wn_Laws_measure_0 (by decide +kernel))
theorem d_Laws_measure_90 : decode b_Laws_measure 90 = .ok (.aload_n 0, 1) := dc_42 (q0_win (r := 90) wn_Laws_measure_0 (by decide +kernel))
theorem d_Laws_measure_91 : decode b_Laws_measure 91 = .ok (.getfield 19, 3) := dc_180 (qU2_win (r := 91) wn_Laws_measure_0 (by decide +kernel))
theorem d_Laws_measure_94 : decode b_Laws_measure 94 = .ok (.iload 4, 2) := dc_21 (qU1_win (r := 94) wn_Laws_measure_0 (by decide +kernel))
theorem wn_Laws_measure_96 : ∀ i, i < 56 → bA b_Laws_measure (96 + i) = wB [184, 0, 52, 43, 180, 0, 72, 29, 184, 0, 52, 96, 184, 0, 68, 42, 180, 0, 22, 21, 4, 42, 180, 0, 22, 21, 4, 184, 0, 52, 42, 180, 0, 28, 180, 0, 73, 158, 0, 7, 4, 167, 0, 4, 3, 96, 184, 0, 68, 132, 3, 1, 167, 255, 134, 177] i := wB_of (by decide +kernel)
theorem d_Laws_measure_96 : decode b_Laws_measure 96 = .ok (.invokestatic 52, 3) := dc_184 (qU2_win (r := 0) wn_Laws_measure_96 (by decide +kernel))
theorem d_Laws_measure_99 : decode b_Laws_measure 99 = .ok (.aload_n 1, 1) := dc_43 (q0_win (r := 3) wn_Laws_measure_96 (by decide +kernel))
theorem d_Laws_measure_100 : decode b_Laws_measure 100 = .ok (.getfield 72, 3) := dc_180 (qU2_win (r := 4) wn_Laws_measure_96 (by decide +kernel))
theorem d_Laws_measure_103 : decode b_Laws_measure 103 = .ok (.iload_n 3, 1) := dc_29 (q0_win (r := 7) wn_Laws_measure_96 (by decide +kernel))
theorem d_Laws_measure_104 : decode b_Laws_measure 104 = .ok (.invokestatic 52, 3) := dc_184 (qU2_win (r := 8) wn_Laws_measure_96 (by decide +kernel))
theorem d_Laws_measure_107 : decode b_Laws_measure 107 = .ok (.iadd, 1) := dc_96 (q0_win (r := 11) wn_Laws_measure_96 (by decide +kernel))
theorem d_Laws_measure_108 : decode b_Laws_measure 108 = .ok (.invokestatic 68, 3) := dc_184 (qU2_win (r := 12) wn_Laws_measure_96 (by decide +kernel))
theorem d_Laws_measure_111 : decode b_Laws_measure 111 = .ok (.aload_n 0, 1) := dc_42 (q0_win (r := 15) wn_Laws_measure_96 (by decide +kernel))
theorem d_Laws_measure_112 : decode b_Laws_measure 112 = .ok (.getfield 22, 3) := dc_180 (qU2_win (r := 16) wn_Laws_measure_96 (by decide +kernel))
theorem d_Laws_measure_115 : decode b_Laws_measure 115 = .ok (.iload 4, 2) := dc_21 (qU1_win (r := 19) wn_Laws_measure_96 (by decide +kernel))
theorem d_Laws_measure_117 : decode b_Laws_measure 117 = .ok (.aload_n 0, 1) := dc_42 (q0_win (r := 21) wn_Laws_measure_96 (by decide +kernel))
theorem d_Laws_measure_118 : decode b_Laws_measure 118 = .ok (.getfield 22, 3) := dc_180 (qU2_win (r := 22) wn_Laws_measure_96 (by decide +kernel))
theorem d_Laws_measure_121 : decode b_Laws_measure 121 = .ok (.iload 4, 2) := dc_21 (qU1_win (r := 25) wn_Laws_measure_96 (by decide +kernel))
theorem d_Laws_measure_123 : decode b_Laws_measure 123 = .ok (.invokestatic 52, 3) := dc_184 (qU2_win (r := 27) wn_Laws_measure_96 (by decide +kernel))
theorem d_Laws_measure_126 : decode b_Laws_measure 126 = .ok (.aload_n 0, 1) := dc_42 (q0_win (r := 30) wn_Laws_measure_96 (by decide +kernel))
theorem d_Laws_measure_127 : decode b_Laws_measure 127 = .ok (.getfield 28, 3) := dc_180 (qU2_win (r := 31) wn_Laws_measure_96 (by decide +kernel))
theorem d_Laws_measure_130 : decode b_Laws_measure 130 = .ok (.getfield 73, 3) := dc_180 (qU2_win (r := 34) wn_Laws_measure_96 (by decide +kernel))
theorem d_Laws_measure_133 : decode b_Laws_measure 133 = .ok (.ifCond .le 7, 3) := dc_158 (qS2_win (r := 37) wn_Laws_measure_96 (by decide +kernel))
theorem d_Laws_measure_136 : decode b_Laws_measure 136 = .ok (.iconst 1, 1) := dc_4 (q0_win (r := 40) wn_Laws_measure_96 (by decide +kernel))
theorem d_Laws_measure_137 : decode b_Laws_measure 137 = .ok (.goto 4, 3) := dc_167 (qS2_win (r := 41) wn_Laws_measure_96 (by decide +kernel))
theorem d_Laws_measure_140 : decode b_Laws_measure 140 = .ok (.iconst 0, 1) := dc_3 (q0_win (r := 44) wn_Laws_measure_96 (by decide +kernel))
theorem d_Laws_measure_141 : decode b_Laws_measure 141 = .ok (.iadd, 1) := dc_96 (q0_win (r := 45) wn_Laws_measure_96 (by decide +kernel))
theorem d_Laws_measure_142 : decode b_Laws_measure 142 = .ok (.invokestatic 68, 3) := dc_184 (qU2_win (r := 46) wn_Laws_measure_96 (by decide +kernel))
theorem d_Laws_measure_145 : decode b_Laws_measure 145 = .ok (.iinc 3 1, 3) := dc_132 (qI_win (r := 49) wn_Laws_measure_96 (by decide +kernel))
theorem d_Laws_measure_148 : decode b_Laws_measure 148 = .ok (.goto (-122), 3) := dc_167 (qS2_win (r := 52) wn_Laws_measure_96 (by decide +kernel))
theorem d_Laws_measure_151 : decode b_Laws_measure 151 = .ok (.return_, 1) := dc_177 (q0_win (r := 55) wn_Laws_measure_96 (by decide +kernel))
def t_Laws_measure_L141 (k1 : Nat) (k2 : Nat) (bk26 : Mem → Int → Option (Mem)) (M : Mem) (v3_ : Int) (v5_ : Int) (v6_ : Int) (v7_ : Int) : Option (Mem) := (qlet (t_WF_put M 181 4 v5_ (w32 (v6_ + v7_))) fun q31 => (bk26 q31 (w32 (v3_ + 1))))
def t_Laws_measure_L26 (k1 : Nat) (k2 : Nat)  : Nat → Mem → Int → Option (Mem)
  | 0, _, _ => none
  | fu + 1, M, v3_ => (if (M.1 k1 15) ≤ v3_ then (some M) else (qlet (t_WF_look M (k2 + 2) 8 v3_) fun q9 => (obind (t_Trail_follow M 182 k1 k2 q9) fun q11 => (qlet (t_Trail_end q11 182) fun q13 => (qlet (t_Town_ownerOf q11 k1 q13) fun q15 => (qlet (t_WF_look q11 179 4 q15) fun q17 => (qlet (t_WF_put q11 179 4 q15 (w32 (q17 + 1))) fun q19 => (qlet (t_WF_look q19 180 4 q15) fun q21 => (qlet (t_WF_look q19 (k1 + 6) 8 v3_) fun q23 => (qlet (t_WF_put q19 180 4 q15 (w32 (q21 + q23))) fun q25 => (qlet (t_WF_look q25 181 4 q15) fun q27 => (if (q25.1 182 4) ≤ 0 then (t_Laws_measure_L141 k1 k2 (fun a0_ a1_ => t_Laws_measure_L26 k1 k2 fu a0_ a1_) q25 v3_ q15 q27 0) else (t_Laws_measure_L141 k1 k2 (fun a0_ a1_ => t_Laws_measure_L26 k1 k2 fu a0_ a1_) q25 v3_ q15 q27 1)))))))))))))
def t_Laws_measure (M : Mem) (k1 : Nat) (k2 : Nat) : Option (Mem) := (obind (t_Arrays_fill M 179 4 0) fun q1 => (obind (t_Arrays_fill q1 180 4 0) fun q3 => (obind (t_Arrays_fill q3 181 4 0) fun q5 => (t_Laws_measure_L26 k1 k2 FU q5 0))))
set_option maxHeartbeats 4000000 in
set_option maxRecDepth 100000 in
theorem k_Laws_measure_L141 (l : Launch) {p : Program} {e : Env} {s : State} {m : MethodId} {below : List Frame} {meth : Method} {c : Code} {b n : Nat} {C : CT} (hlo : 191 ≤ n) (k1 : Nat) (k2 : Nat) (hk1 : isTown k1) (hk2 : isScene k2) (F : Cx b p m c b_Laws_measure 5 s ([.ref (b + 177), .ref (b + k1), .ref (b + k2)] : List Value).toArray "WardFalls$Laws" C n 191) (hlk : meth.locks = false) (hr : meth.sig.returnType = none) {res : Mem} (bk26 : Mem → Int → Option (Mem)) (hbk26 : ∀ (M : Mem) (v3_ : Int) (hv3_ : InR v3_) (H : Heap) (locs : List Loc) (ls : Array Slot), St b C n M s H locs → lv_has ls 5 [(0, .ref (b + 177)), (1, .ref (b + k1)), (2, .ref (b + k2)), (3, vI v3_)] → bk26 M v3_ = some res → W p l e (headSpec (wsM y_Laws_measure b_Laws_measure 5 (none)) (rmD 4)).room s m ([.ref (b + 177), .ref (b + k1), .ref (b + k2)] : List Value).toArray below meth c H locs 0 0 (MQ below (QV b C n res) ([.ref (b + 177), .ref (b + k1), .ref (b + k2)] : List Value).toArray s 0 0 (frb b)) (F0 m 26 ls [])) (M : Mem) (v3_ : Int) (hv3_ : InR v3_) (v5_ : Int) (hv5_ : InR v5_) (v6_ : Int) (hv6_ : InR v6_) (v7_ : Int) (hv7_ : v7_ = 0 ∨ v7_ = 1) (H : Heap) (locs : List Loc) (ls : Array Slot) (hS : St b C n M s H locs) (hl : lv_has ls 5 [(0, .ref (b + 177)), (1, .ref (b + k1)), (2, .ref (b + k2)), (3, vI v3_)]) (hT : t_Laws_measure_L141 k1 k2 bk26 M v3_ v5_ v6_ v7_ = some res) : W p l e (headSpec (wsM y_Laws_measure b_Laws_measure 5 (none)) (rmD 4)).room s m ([.ref (b + 177), .ref (b + k1), .ref (b + k2)] : List Value).toArray below meth c H locs 0 0 (MQ below (QV b C n res) ([.ref (b + 177), .ref (b + k1), .ref (b + k2)] : List Value).toArray s 0 0 (frb b)) (F0 m 141 ls [vI v7_, vI v6_, vI v5_, .ref (b + 181)]) := by
  unfold t_Laws_measure_L141 at hT
  refine r_iadd F.hx F.hb d_Laws_measure_141 ?_
  obtain ⟨q31, hq31⟩ : ∃ q, q = (t_WF_put M 181 4 v5_ (w32 (v6_ + v7_))) := ⟨_, rfl⟩
  replace hT := qlet_eq hT hq31
  refine r_backV F hS (r_runSN (As := [.ref (b + 181), vI v5_, vI (w32 (v6_ + v7_))]) F hS (c_WF_put l F.2.2.1 M 181 4 v5_ (w32 (v6_ + v7_)) (show arrP 0 181 4 191 from ⟨rfl, rfl, by decide⟩) hv5_ (inr_w32 _) _ hq31.symm) mw_512 mw_511 mw_1 gs_Laws_68 hd_WF_put ⟨Nat.le_of_ble_eq_true rfl, Nat.le_of_ble_eq_true rfl⟩ rfl hl.1 (Nat.le_of_ble_eq_true rfl) ⟨Nat.zero_le _, Nat.zero_le _⟩ rfl d_Laws_measure_142) (fun H locs hS => ?_)
  refine lv_iinc (v := Int32.ofInt (w32 (v3_ + 1))) (lv' := [(3, vI (w32 (v3_ + 1))), (0, .ref (b + 177)), (1, .ref (b + k1)), (2, .ref (b + k2))]) F.hx F.hb d_Laws_measure_145 hl (k := 3) rfl (q_of_add _ _) (Nat.le_of_ble_eq_true rfl) rfl (fun ls hl => ?_)
  refine lv_goto (tgt := 26) F.hx F.hb d_Laws_measure_148 (by decide) ?_
  exact hbk26 q31 (w32 (v3_ + 1)) (inr_w32 _) _ _ _ hS (lv_sub hl [1, 2, 3, 0] rfl) hT
set_option maxHeartbeats 4000000 in
set_option maxRecDepth 100000 in
theorem k_Laws_measure_L26 (l : Launch) {p : Program} {e : Env} {s : State} {m : MethodId} {below : List Frame} {meth : Method} {c : Code} {b n : Nat} {C : CT} (hlo : 191 ≤ n) (k1 : Nat) (k2 : Nat) (hk1 : isTown k1) (hk2 : isScene k2) (F : Cx b p m c b_Laws_measure 5 s ([.ref (b + 177), .ref (b + k1), .ref (b + k2)] : List Value).toArray "WardFalls$Laws" C n 191) (hlk : meth.locks = false) (hr : meth.sig.returnType = none) {res : Mem} : ∀ (fu : Nat) (M : Mem) (v3_ : Int) (hv3_ : InR v3_) (H : Heap) (locs : List Loc) (ls : Array Slot), St b C n M s H locs → lv_has ls 5 [(0, .ref (b + 177)), (1, .ref (b + k1)), (2, .ref (b + k2)), (3, vI v3_)] → t_Laws_measure_L26 k1 k2 fu M v3_ = some res → W p l e (headSpec (wsM y_Laws_measure b_Laws_measure 5 (none)) (rmD 4)).room s m ([.ref (b + 177), .ref (b + k1), .ref (b + k2)] : List Value).toArray below meth c H locs 0 0 (MQ below (QV b C n res) ([.ref (b + 177), .ref (b + k1), .ref (b + k2)] : List Value).toArray s 0 0 (frb b)) (F0 m 26 ls []) := by
  intro fu
  induction fu with
  | zero => intro M v3_ hv3_ H locs ls hS hl hT; exact absurd hT (by simp [t_Laws_measure_L26])
  | succ fu ih =>
    intro M v3_ hv3_ H locs ls hS hl hT
    rw [t_Laws_measure_L26] at hT
    refine lv_iload_n F.hx F.hb d_Laws_measure_26 rfl (lv_at hl 3 rfl) ?_
    refine lv_aload_n F.hx F.hb d_Laws_measure_27 rfl (lv_at hl 1 rfl) ?_
    refine r_get (v := vI (M.1 k1 15)) (N := 20) (T := T11) (j := 15) F hS (Town_lt hk1) (Town_sh hk1) (Town_N hk1) rfl (Nat.le_of_ble_eq_true rfl) ing11 mw_141 (fv_int rfl) d_Laws_measure_28 ?_
    have i7 := hS.rng k1 15
    refine r_icmp_ge (tgt := 151) F.hx F.hb hv3_ i7 d_Laws_measure_31 (by decide) (fun c8 => ?_) (fun c8 => ?_)
    · replace hT := (if_pos c8).symm.trans hT
      cases hT
      exact r_vret F hlk hr hS d_Laws_measure_151
    · replace hT := (if_neg c8).symm.trans hT
      refine lv_aload_n F.hx F.hb d_Laws_measure_34 rfl (lv_at hl 0 rfl) ?_
      refine r_get (v := .ref (b + 182)) (N := 9) (T := T4) (j := 4) F hS (show 177 < 191 by decide) (show shK 177 = 8 from rfl) (show shN 177 = 9 from rfl) rfl (Nat.le_of_ble_eq_true rfl) ing4 mw_442 (fv_sg rfl rfl rfl) d_Laws_measure_35 ?_
      refine lv_aload_n F.hx F.hb d_Laws_measure_38 rfl (lv_at hl 1 rfl) ?_
      refine lv_aload_n F.hx F.hb d_Laws_measure_39 rfl (lv_at hl 2 rfl) ?_
      refine lv_aload_n F.hx F.hb d_Laws_measure_40 rfl (lv_at hl 2 rfl) ?_
      refine r_get (v := .ref (b + (k2 + 2))) (N := 7) (T := T9) (j := 1) F hS (Scene_lt hk2) (Scene_sh hk2) (Scene_N hk2) rfl (Nat.le_of_ble_eq_true rfl) ing9 mw_279 (Scene_g1 hk2 _) d_Laws_measure_41 ?_
      refine lv_iload_n F.hx F.hb d_Laws_measure_44 rfl (lv_at hl 3 rfl) ?_
      obtain ⟨q9, hq9⟩ : ∃ q, q = (t_WF_look M (k2 + 2) 8 v3_) := ⟨_, rfl⟩
      replace hT := qlet_eq hT hq9
      refine r_backI F hS (r_runSN (As := [.ref (b + (k2 + 2)), vI v3_]) F hS (c_WF_look l F.2.2.1 M (k2 + 2) 8 v3_ (Scene_f1 hk2) hv3_ _ hq9.symm) mw_519 mw_518 mw_1 gs_Laws_52 hd_WF_look ⟨Nat.le_of_ble_eq_true rfl, Nat.le_of_ble_eq_true rfl⟩ rfl hl.1 (Nat.le_of_ble_eq_true rfl) ⟨Nat.zero_le _, Nat.zero_le _⟩ rfl d_Laws_measure_45) (fun H locs hS h10 => ?_)
      obtain ⟨q11, hq11, hT⟩ := q_obind hT
      refine r_backV F hS (r_runV (k := 182) (N := 9) (T := T12) (As := [.ref (b + k1), .ref (b + k2), vI q9]) F hS (show 182 < 191 by decide) (show shK 182 = 16 from rfl) rfl (c_Trail_follow l F.2.2.1 M 182 k1 k2 q9 (by decide : isTrail 182) hk1 hk2 h10 _ hq11) gs_Laws_56 hd_Trail_follow ⟨Nat.le_of_ble_eq_true rfl, Nat.le_of_ble_eq_true rfl⟩ rfl hl.1 (Nat.le_of_ble_eq_true rfl) ⟨Nat.zero_le _, Nat.zero_le _⟩ rfl d_Laws_measure_48) (fun H locs hS => ?_)
      refine lv_aload_n F.hx F.hb d_Laws_measure_51 rfl (lv_at hl 1 rfl) ?_
      refine lv_aload_n F.hx F.hb d_Laws_measure_52 rfl (lv_at hl 0 rfl) ?_
      refine r_get (v := .ref (b + 182)) (N := 9) (T := T4) (j := 4) F hS (show 177 < 191 by decide) (show shK 177 = 8 from rfl) (show shN 177 = 9 from rfl) rfl (Nat.le_of_ble_eq_true rfl) ing4 mw_442 (fv_sg rfl rfl rfl) d_Laws_measure_53 ?_
      obtain ⟨q13, hq13⟩ : ∃ q, q = (t_Trail_end q11 182) := ⟨_, rfl⟩
      replace hT := qlet_eq hT hq13
      refine r_backI F hS (r_runV (k := 182) (N := 9) (T := T12) (As := []) F hS (show 182 < 191 by decide) (show shK 182 = 16 from rfl) rfl (c_Trail_end l F.2.2.1 q11 182 (by decide : isTrail 182) _ hq13.symm) gs_Laws_60 hd_Trail_end ⟨Nat.le_of_ble_eq_true rfl, Nat.le_of_ble_eq_true rfl⟩ rfl hl.1 (Nat.le_of_ble_eq_true rfl) ⟨Nat.zero_le _, Nat.zero_le _⟩ rfl d_Laws_measure_56) (fun H locs hS h14 => ?_)
      obtain ⟨q15, hq15⟩ : ∃ q, q = (t_Town_ownerOf q11 k1 q13) := ⟨_, rfl⟩
      replace hT := qlet_eq hT hq15
      refine r_backI F hS (r_runV (k := k1) (N := 20) (T := T11) (As := [vI q13]) F hS (Town_lt hk1) (Town_sh hk1) rfl (c_Town_ownerOf l F.2.2.1 q11 k1 q13 hk1 h14 _ hq15.symm) gs_Laws_64 hd_Town_ownerOf ⟨Nat.le_of_ble_eq_true rfl, Nat.le_of_ble_eq_true rfl⟩ rfl hl.1 (Nat.le_of_ble_eq_true rfl) ⟨Nat.zero_le _, Nat.zero_le _⟩ rfl d_Laws_measure_59) (fun H locs hS h16 => ?_)
      refine lv_istore (lv' := [(4, vI q15), (0, .ref (b + 177)), (1, .ref (b + k1)), (2, .ref (b + k2)), (3, vI v3_)]) F.hx F.hb d_Laws_measure_62 hl (Nat.le_of_ble_eq_true rfl) rfl (fun ls hl => ?_)
      refine lv_aload_n F.hx F.hb d_Laws_measure_64 rfl (lv_at hl 1 rfl) ?_
      refine r_get (v := .ref (b + 179)) (N := 9) (T := T4) (j := 1) F hS (show 177 < 191 by decide) (show shK 177 = 8 from rfl) (show shN 177 = 9 from rfl) rfl (Nat.le_of_ble_eq_true rfl) ing4 mw_439 (fv_sg rfl rfl rfl) d_Laws_measure_65 ?_
      refine lv_iload F.hx F.hb d_Laws_measure_68 (lv_at hl 0 rfl) ?_
      refine lv_aload_n F.hx F.hb d_Laws_measure_70 rfl (lv_at hl 1 rfl) ?_
      refine r_get (v := .ref (b + 179)) (N := 9) (T := T4) (j := 1) F hS (show 177 < 191 by decide) (show shK 177 = 8 from rfl) (show shN 177 = 9 from rfl) rfl (Nat.le_of_ble_eq_true rfl) ing4 mw_439 (fv_sg rfl rfl rfl) d_Laws_measure_71 ?_
      refine lv_iload F.hx F.hb d_Laws_measure_74 (lv_at hl 0 rfl) ?_
      obtain ⟨q17, hq17⟩ : ∃ q, q = (t_WF_look q11 179 4 q15) := ⟨_, rfl⟩
      replace hT := qlet_eq hT hq17
      refine r_backI F hS (r_runSN (As := [.ref (b + 179), vI q15]) F hS (c_WF_look l F.2.2.1 q11 179 4 q15 (show arrP 0 179 4 191 from ⟨rfl, rfl, by decide⟩) h16 _ hq17.symm) mw_519 mw_518 mw_1 gs_Laws_52 hd_WF_look ⟨Nat.le_of_ble_eq_true rfl, Nat.le_of_ble_eq_true rfl⟩ rfl hl.1 (Nat.le_of_ble_eq_true rfl) ⟨Nat.zero_le _, Nat.zero_le _⟩ rfl d_Laws_measure_76) (fun H locs hS h18 => ?_)
      refine r_iconst F.hx F.hb d_Laws_measure_79 ?_
      refine r_iadd F.hx F.hb d_Laws_measure_80 ?_
      obtain ⟨q19, hq19⟩ : ∃ q, q = (t_WF_put q11 179 4 q15 (w32 (q17 + 1))) := ⟨_, rfl⟩
      replace hT := qlet_eq hT hq19
      refine r_backV F hS (r_runSN (As := [.ref (b + 179), vI q15, vI (w32 (q17 + 1))]) F hS (c_WF_put l F.2.2.1 q11 179 4 q15 (w32 (q17 + 1)) (show arrP 0 179 4 191 from ⟨rfl, rfl, by decide⟩) h16 (inr_w32 _) _ hq19.symm) mw_512 mw_511 mw_1 gs_Laws_68 hd_WF_put ⟨Nat.le_of_ble_eq_true rfl, Nat.le_of_ble_eq_true rfl⟩ rfl hl.1 (Nat.le_of_ble_eq_true rfl) ⟨Nat.zero_le _, Nat.zero_le _⟩ rfl d_Laws_measure_81) (fun H locs hS => ?_)
      refine lv_aload_n F.hx F.hb d_Laws_measure_84 rfl (lv_at hl 1 rfl) ?_
      refine r_get (v := .ref (b + 180)) (N := 9) (T := T4) (j := 2) F hS (show 177 < 191 by decide) (show shK 177 = 8 from rfl) (show shN 177 = 9 from rfl) rfl (Nat.le_of_ble_eq_true rfl) ing4 mw_440 (fv_sg rfl rfl rfl) d_Laws_measure_85 ?_
      refine lv_iload F.hx F.hb d_Laws_measure_88 (lv_at hl 0 rfl) ?_
      refine lv_aload_n F.hx F.hb d_Laws_measure_90 rfl (lv_at hl 1 rfl) ?_
      refine r_get (v := .ref (b + 180)) (N := 9) (T := T4) (j := 2) F hS (show 177 < 191 by decide) (show shK 177 = 8 from rfl) (show shN 177 = 9 from rfl) rfl (Nat.le_of_ble_eq_true rfl) ing4 mw_440 (fv_sg rfl rfl rfl) d_Laws_measure_91 ?_
      refine lv_iload F.hx F.hb d_Laws_measure_94 (lv_at hl 0 rfl) ?_
      obtain ⟨q21, hq21⟩ : ∃ q, q = (t_WF_look q19 180 4 q15) := ⟨_, rfl⟩
      replace hT := qlet_eq hT hq21
      refine r_backI F hS (r_runSN (As := [.ref (b + 180), vI q15]) F hS (c_WF_look l F.2.2.1 q19 180 4 q15 (show arrP 0 180 4 191 from ⟨rfl, rfl, by decide⟩) h16 _ hq21.symm) mw_519 mw_518 mw_1 gs_Laws_52 hd_WF_look ⟨Nat.le_of_ble_eq_true rfl, Nat.le_of_ble_eq_true rfl⟩ rfl hl.1 (Nat.le_of_ble_eq_true rfl) ⟨Nat.zero_le _, Nat.zero_le _⟩ rfl d_Laws_measure_96) (fun H locs hS h22 => ?_)
      refine lv_aload_n F.hx F.hb d_Laws_measure_99 rfl (lv_at hl 2 rfl) ?_
      refine r_get (v := .ref (b + (k1 + 6))) (N := 20) (T := T11) (j := 5) F hS (Town_lt hk1) (Town_sh hk1) (Town_N hk1) rfl (Nat.le_of_ble_eq_true rfl) ing11 mw_105 (Town_g5 hk1 _) d_Laws_measure_100 ?_
      refine lv_iload_n F.hx F.hb d_Laws_measure_103 rfl (lv_at hl 4 rfl) ?_
      obtain ⟨q23, hq23⟩ : ∃ q, q = (t_WF_look q19 (k1 + 6) 8 v3_) := ⟨_, rfl⟩
      replace hT := qlet_eq hT hq23
      refine r_backI F hS (r_runSN (As := [.ref (b + (k1 + 6)), vI v3_]) F hS (c_WF_look l F.2.2.1 q19 (k1 + 6) 8 v3_ (Town_f5 hk1) hv3_ _ hq23.symm) mw_519 mw_518 mw_1 gs_Laws_52 hd_WF_look ⟨Nat.le_of_ble_eq_true rfl, Nat.le_of_ble_eq_true rfl⟩ rfl hl.1 (Nat.le_of_ble_eq_true rfl) ⟨Nat.zero_le _, Nat.zero_le _⟩ rfl d_Laws_measure_104) (fun H locs hS h24 => ?_)
      refine r_iadd F.hx F.hb d_Laws_measure_107 ?_
      obtain ⟨q25, hq25⟩ : ∃ q, q = (t_WF_put q19 180 4 q15 (w32 (q21 + q23))) := ⟨_, rfl⟩
      replace hT := qlet_eq hT hq25
      refine r_backV F hS (r_runSN (As := [.ref (b + 180), vI q15, vI (w32 (q21 + q23))]) F hS (c_WF_put l F.2.2.1 q19 180 4 q15 (w32 (q21 + q23)) (show arrP 0 180 4 191 from ⟨rfl, rfl, by decide⟩) h16 (inr_w32 _) _ hq25.symm) mw_512 mw_511 mw_1 gs_Laws_68 hd_WF_put ⟨Nat.le_of_ble_eq_true rfl, Nat.le_of_ble_eq_true rfl⟩ rfl hl.1 (Nat.le_of_ble_eq_true rfl) ⟨Nat.zero_le _, Nat.zero_le _⟩ rfl d_Laws_measure_108) (fun H locs hS => ?_)
      refine lv_aload_n F.hx F.hb d_Laws_measure_111 rfl (lv_at hl 1 rfl) ?_
      refine r_get (v := .ref (b + 181)) (N := 9) (T := T4) (j := 3) F hS (show 177 < 191 by decide) (show shK 177 = 8 from rfl) (show shN 177 = 9 from rfl) rfl (Nat.le_of_ble_eq_true rfl) ing4 mw_441 (fv_sg rfl rfl rfl) d_Laws_measure_112 ?_
      refine lv_iload F.hx F.hb d_Laws_measure_115 (lv_at hl 0 rfl) ?_
      refine lv_aload_n F.hx F.hb d_Laws_measure_117 rfl (lv_at hl 1 rfl) ?_
      refine r_get (v := .ref (b + 181)) (N := 9) (T := T4) (j := 3) F hS (show 177 < 191 by decide) (show shK 177 = 8 from rfl) (show shN 177 = 9 from rfl) rfl (Nat.le_of_ble_eq_true rfl) ing4 mw_441 (fv_sg rfl rfl rfl) d_Laws_measure_118 ?_
      refine lv_iload F.hx F.hb d_Laws_measure_121 (lv_at hl 0 rfl) ?_
      obtain ⟨q27, hq27⟩ : ∃ q, q = (t_WF_look q25 181 4 q15) := ⟨_, rfl⟩
      replace hT := qlet_eq hT hq27
      refine r_backI F hS (r_runSN (As := [.ref (b + 181), vI q15]) F hS (c_WF_look l F.2.2.1 q25 181 4 q15 (show arrP 0 181 4 191 from ⟨rfl, rfl, by decide⟩) h16 _ hq27.symm) mw_519 mw_518 mw_1 gs_Laws_52 hd_WF_look ⟨Nat.le_of_ble_eq_true rfl, Nat.le_of_ble_eq_true rfl⟩ rfl hl.1 (Nat.le_of_ble_eq_true rfl) ⟨Nat.zero_le _, Nat.zero_le _⟩ rfl d_Laws_measure_123) (fun H locs hS h28 => ?_)
      refine lv_aload_n F.hx F.hb d_Laws_measure_126 rfl (lv_at hl 1 rfl) ?_
      refine r_get (v := .ref (b + 182)) (N := 9) (T := T4) (j := 4) F hS (show 177 < 191 by decide) (show shK 177 = 8 from rfl) (show shN 177 = 9 from rfl) rfl (Nat.le_of_ble_eq_true rfl) ing4 mw_442 (fv_sg rfl rfl rfl) d_Laws_measure_127 ?_
      refine r_get (v := vI (q25.1 182 4)) (N := 9) (T := T12) (j := 4) F hS (show 182 < 191 by decide) (show shK 182 = 16 from rfl) (show shN 182 = 9 from rfl) rfl (Nat.le_of_ble_eq_true rfl) ing12 mw_409 (fv_int rfl) d_Laws_measure_130 ?_
      have i29 := hS.rng 182 4
      refine r_if_le (tgt := 140) F.hx F.hb i29 d_Laws_measure_133 (by decide) (fun c30 => ?_) (fun c30 => ?_)
      · replace hT := (if_pos c30).symm.trans hT
        refine r_iconst F.hx F.hb d_Laws_measure_140 ?_
        exact k_Laws_measure_L141 l hlo k1 k2 hk1 hk2 F hlk hr (fun a0_ a1_ => t_Laws_measure_L26 k1 k2 fu a0_ a1_) ih q25 v3_ hv3_ q15 h16 q27 h28 0 (Or.inl rfl) _ _ _ hS (lv_sub hl [1, 2, 3, 4] rfl) hT
      · replace hT := (if_neg c30).symm.trans hT
        refine r_iconst F.hx F.hb d_Laws_measure_136 ?_
        refine lv_goto (tgt := 141) F.hx F.hb d_Laws_measure_137 (by decide) ?_
        exact k_Laws_measure_L141 l hlo k1 k2 hk1 hk2 F hlk hr (fun a0_ a1_ => t_Laws_measure_L26 k1 k2 fu a0_ a1_) ih q25 v3_ hv3_ q15 h16 q27 h28 1 (Or.inr rfl) _ _ _ hS (lv_sub hl [1, 2, 3, 4] rfl) hT
set_option maxHeartbeats 4000000 in
set_option maxRecDepth 100000 in
theorem c_Laws_measure (l : Launch) {b n : Nat} {C : CT} (hlo : 191 ≤ n) (M : Mem) (k1 : Nat) (k2 : Nat) (hk1 : isTown k1) (hk2 : isScene k2) (res : Mem) (hT : t_Laws_measure M k1 k2 = some res) : CM l b C n 4 y_Laws_measure b_Laws_measure 5 (none) [.ref (b + 177), .ref (b + k1), .ref (b + k2)] M (QV b C n res) := by
  refine CM.of (lo := 191) (ow := "WardFalls$Laws") (by decide) rfl (Nat.le_of_ble_eq_true rfl) hlo (fun p e s m below meth c F hlk hr hS ls hl => ?_)
  have hl : lv_has ls 5 [(0, .ref (b + 177)), (1, .ref (b + k1)), (2, .ref (b + k2))] := hl
  unfold t_Laws_measure at hT
  refine lv_aload_n F.hx F.hb d_Laws_measure_0 rfl (lv_at hl 0 rfl) ?_
  refine r_get (v := .ref (b + 179)) (N := 9) (T := T4) (j := 1) F hS (show 177 < 191 by decide) (show shK 177 = 8 from rfl) (show shN 177 = 9 from rfl) rfl (Nat.le_of_ble_eq_true rfl) ing4 mw_439 (fv_sg rfl rfl rfl) d_Laws_measure_1 ?_
  refine r_iconst F.hx F.hb d_Laws_measure_4 ?_
  obtain ⟨q1, hq1, hT⟩ := q_obind hT
  refine r_backV F hS (r_runS (As := [.ref (b + 179), vI 0]) F hS (c_Arrays_fill l F.2.2.1 M 179 4 0 (show arrP 0 179 4 191 from ⟨rfl, rfl, by decide⟩) (inr_c rfl) _ hq1) gs_Laws_35 hd_Arrays_fill ⟨Nat.le_of_ble_eq_true rfl, Nat.le_of_ble_eq_true rfl⟩ rfl hl.1 (Nat.le_of_ble_eq_true rfl) ⟨Nat.zero_le _, Nat.zero_le _⟩ rfl d_Laws_measure_5) (fun H locs hS => ?_)
  refine lv_aload_n F.hx F.hb d_Laws_measure_8 rfl (lv_at hl 0 rfl) ?_
  refine r_get (v := .ref (b + 180)) (N := 9) (T := T4) (j := 2) F hS (show 177 < 191 by decide) (show shK 177 = 8 from rfl) (show shN 177 = 9 from rfl) rfl (Nat.le_of_ble_eq_true rfl) ing4 mw_440 (fv_sg rfl rfl rfl) d_Laws_measure_9 ?_
  refine r_iconst F.hx F.hb d_Laws_measure_12 ?_
  obtain ⟨q3, hq3, hT⟩ := q_obind hT
  refine r_backV F hS (r_runS (As := [.ref (b + 180), vI 0]) F hS (c_Arrays_fill l F.2.2.1 q1 180 4 0 (show arrP 0 180 4 191 from ⟨rfl, rfl, by decide⟩) (inr_c rfl) _ hq3) gs_Laws_35 hd_Arrays_fill ⟨Nat.le_of_ble_eq_true rfl, Nat.le_of_ble_eq_true rfl⟩ rfl hl.1 (Nat.le_of_ble_eq_true rfl) ⟨Nat.zero_le _, Nat.zero_le _⟩ rfl d_Laws_measure_13) (fun H locs hS => ?_)
  refine lv_aload_n F.hx F.hb d_Laws_measure_16 rfl (lv_at hl 0 rfl) ?_
  refine r_get (v := .ref (b + 181)) (N := 9) (T := T4) (j := 3) F hS (show 177 < 191 by decide) (show shK 177 = 8 from rfl) (show shN 177 = 9 from rfl) rfl (Nat.le_of_ble_eq_true rfl) ing4 mw_441 (fv_sg rfl rfl rfl) d_Laws_measure_17 ?_
  refine r_iconst F.hx F.hb d_Laws_measure_20 ?_
  obtain ⟨q5, hq5, hT⟩ := q_obind hT
  refine r_backV F hS (r_runS (As := [.ref (b + 181), vI 0]) F hS (c_Arrays_fill l F.2.2.1 q3 181 4 0 (show arrP 0 181 4 191 from ⟨rfl, rfl, by decide⟩) (inr_c rfl) _ hq5) gs_Laws_35 hd_Arrays_fill ⟨Nat.le_of_ble_eq_true rfl, Nat.le_of_ble_eq_true rfl⟩ rfl hl.1 (Nat.le_of_ble_eq_true rfl) ⟨Nat.zero_le _, Nat.zero_le _⟩ rfl d_Laws_measure_21) (fun H locs hS => ?_)
  refine r_iconst F.hx F.hb d_Laws_measure_24 ?_
  refine lv_istore_n (lv' := [(3, vI 0), (0, .ref (b + 177)), (1, .ref (b + k1)), (2, .ref (b + k2))]) F.hx F.hb d_Laws_measure_25 rfl hl (Nat.le_of_ble_eq_true rfl) rfl (fun ls hl => ?_)
  exact k_Laws_measure_L26 l hlo k1 k2 hk1 hk2 F hlk hr FU q5 0 (inr_c rfl) _ _ _ hS (lv_sub hl [1, 2, 3, 0] rfl) hT
theorem d_Laws_name_0 : decode b_Laws_name 0 = .ok (.iload_n 1, 1) := dc_27 (by decide +kernel)
theorem d_Laws_name_1 : decode b_Laws_name 1 = .ok (.bipush 18, 2) := dc_16 (by decide +kernel)
theorem d_Laws_name_3 : decode b_Laws_name 3 = .ok (.isub, 1) := dc_100 (by decide +kernel)
theorem d_Laws_name_4 : decode b_Laws_name 4 = .ok (.istore 4, 2) := dc_54 (by decide +kernel)
theorem d_Laws_name_6 : decode b_Laws_name 6 = .ok (.iload 4, 2) := dc_21 (by decide +kernel)
theorem d_Laws_name_8 : decode b_Laws_name 8 = .ok (.ifCond .lt 21, 3) := dc_155 (by decide +kernel)
theorem d_Laws_name_11 : decode b_Laws_name 11 = .ok (.iload 4, 2) := dc_21 (by decide +kernel)
theorem d_Laws_name_13 : decode b_Laws_name 13 = .ok (.aload_n 0, 1) := dc_42 (by decide +kernel)
theorem d_Laws_name_14 : decode b_Laws_name 14 = .ok (.getfield 9, 3) := dc_180 (by decide +kernel)
theorem d_Laws_name_17 : decode b_Laws_name 17 = .ok (.arraylength, 1) := dc_190 (by decide +kernel)
theorem d_Laws_name_18 : decode b_Laws_name 18 = .ok (.if_icmp .ge 11, 3) := dc_162 (by decide +kernel)
theorem d_Laws_name_21 : decode b_Laws_name 21 = .ok (.aload_n 0, 1) := dc_42 (by decide +kernel)
theorem d_Laws_name_22 : decode b_Laws_name 22 = .ok (.getfield 9, 3) := dc_180 (by decide +kernel)
theorem d_Laws_name_25 : decode b_Laws_name 25 = .ok (.iload 4, 2) := dc_21 (by decide +kernel)
theorem d_Laws_name_27 : decode b_Laws_name 27 = .ok (.lload_n 2, 1) := dc_32 (by decide +kernel)
theorem d_Laws_name_28 : decode b_Laws_name 28 = .ok (.lastore, 1) := dc_80 (by decide +kernel)
theorem d_Laws_name_29 : decode b_Laws_name 29 = .ok (.return_, 1) := dc_177 (by decide +kernel)
def t_Laws_name (M : Mem) (x1 : Int) (x2 : Int64) : Mem := (if (w32 (x1 - 18)) < 0 then M else (if 7 ≤ (w32 (x1 - 18)) then M else (qlet (setL M 178 (w32 (x1 - 18)) x2) fun M3 => M3)))
set_option maxHeartbeats 4000000 in
set_option maxRecDepth 100000 in
theorem c_Laws_name (l : Launch) {b n : Nat} {C : CT} (hlo : 191 ≤ n) (M : Mem) (x1 : Int) (x2 : Int64) (hx1 : InR x1) (res : Mem) (hT : t_Laws_name M x1 x2 = res) : CM l b C n 0 y_Laws_name b_Laws_name 5 (none) [.ref (b + 177), vI x1, .long x2] M (QV b C n res) := by
  refine CM.of (lo := 191) (ow := "WardFalls$Laws") (by decide) rfl (Nat.le_of_ble_eq_true rfl) hlo (fun p e s m below meth c F hlk hr hS ls hl => ?_)
  have hl : lv_has ls 5 [(0, .ref (b + 177)), (1, vI x1), (2, .long x2)] := hl
  unfold t_Laws_name at hT
  refine lv_iload_n F.hx F.hb d_Laws_name_0 rfl (lv_at hl 1 rfl) ?_
  refine r_bipush F.hx F.hb d_Laws_name_1 rfl ?_
  refine r_isub F.hx F.hb d_Laws_name_3 ?_
  refine lv_istore (lv' := [(4, vI (w32 (x1 - 18))), (0, .ref (b + 177)), (1, vI x1), (2, .long x2)]) F.hx F.hb d_Laws_name_4 hl (Nat.le_of_ble_eq_true rfl) rfl (fun ls hl => ?_)
  refine lv_iload F.hx F.hb d_Laws_name_6 (lv_at hl 0 rfl) ?_
  refine r_if_lt (tgt := 29) F.hx F.hb (inr_w32 _) d_Laws_name_8 (by decide) (fun c1 => ?_) (fun c1 => ?_)
  · replace hT := (if_pos c1).symm.trans hT
    subst hT
    exact r_vret F hlk hr hS d_Laws_name_29
  · replace hT := (if_neg c1).symm.trans hT
    refine lv_iload F.hx F.hb d_Laws_name_11 (lv_at hl 0 rfl) ?_
    refine lv_aload_n F.hx F.hb d_Laws_name_13 rfl (lv_at hl 1 rfl) ?_
    refine r_get (v := .ref (b + 178)) (N := 9) (T := T4) (j := 0) F hS (show 177 < 191 by decide) (show shK 177 = 8 from rfl) (show shN 177 = 9 from rfl) rfl (Nat.le_of_ble_eq_true rfl) ing4 mw_438 (fv_sg rfl rfl rfl) d_Laws_name_14 ?_
    refine r_alen F hS (show 178 < 191 by decide) (by rw [(show shK 178 = 2 from rfl)]; decide) (show shN 178 = 7 from rfl) d_Laws_name_17 rfl ?_
    refine r_icmp_ge (tgt := 29) F.hx F.hb (inr_w32 _) (inr_c rfl) d_Laws_name_18 (by decide) (fun c2 => ?_) (fun c2 => ?_)
    · replace hT := (if_pos c2).symm.trans hT
      subst hT
      exact r_vret F hlk hr hS d_Laws_name_29
    · replace hT := (if_neg c2).symm.trans hT
      refine lv_aload_n F.hx F.hb d_Laws_name_21 rfl (lv_at hl 1 rfl) ?_
      refine r_get (v := .ref (b + 178)) (N := 9) (T := T4) (j := 0) F hS (show 177 < 191 by decide) (show shK 177 = 8 from rfl) (show shN 177 = 9 from rfl) rfl (Nat.le_of_ble_eq_true rfl) ing4 mw_438 (fv_sg rfl rfl rfl) d_Laws_name_22 ?_
      refine lv_iload F.hx F.hb d_Laws_name_25 (lv_at hl 0 rfl) ?_
      refine lv_lload_n F.hx F.hb d_Laws_name_27 rfl (lv_at hl 3 rfl) ?_
      refine r_last F hS (show 178 < 191 by decide) (show shK 178 = 2 from rfl) (show shN 178 = 7 from rfl) (inr_w32 _) (by omega) (by omega) d_Laws_name_28 (fun H locs hS => ?_)
      obtain ⟨M3, eM3⟩ : ∃ q, q = (setL M 178 (w32 (x1 - 18)) x2) := ⟨_, rfl⟩
      replace hS : St b C n M3 s H locs := by rw [eM3]; exact hS
      replace hT := qlet_eq hT eM3
      subst hT
      exact r_vret F hlk hr hS d_Laws_name_29
theorem d_Formula_valueOf_0 : decode b_Formula_valueOf 0 = .ok (.iload_n 1, 1) := dc_27 (by decide +kernel)
theorem d_Formula_valueOf_1 : decode b_Formula_valueOf 1 = .ok (.ifCond .lt 15, 3) := dc_155 (by decide +kernel)
theorem d_Formula_valueOf_4 : decode b_Formula_valueOf 4 = .ok (.iload_n 1, 1) := dc_27 (by decide +kernel)
theorem d_Formula_valueOf_5 : decode b_Formula_valueOf 5 = .ok (.aload_n 0, 1) := dc_42 (by decide +kernel)
theorem d_Formula_valueOf_6 : decode b_Formula_valueOf 6 = .ok (.arraylength, 1) := dc_190 (by decide +kernel)
theorem d_Formula_valueOf_7 : decode b_Formula_valueOf 7 = .ok (.if_icmp .ge 9, 3) := dc_162 (by decide +kernel)
theorem d_Formula_valueOf_10 : decode b_Formula_valueOf 10 = .ok (.aload_n 0, 1) := dc_42 (by decide +kernel)
theorem d_Formula_valueOf_11 : decode b_Formula_valueOf 11 = .ok (.iload_n 1, 1) := dc_27 (by decide +kernel)
theorem d_Formula_valueOf_12 : decode b_Formula_valueOf 12 = .ok (.laload, 1) := dc_47 (by decide +kernel)
theorem d_Formula_valueOf_13 : decode b_Formula_valueOf 13 = .ok (.goto 4, 3) := dc_167 (by decide +kernel)
theorem d_Formula_valueOf_16 : decode b_Formula_valueOf 16 = .ok (.lconst 0, 1) := dc_9 (by decide +kernel)
theorem d_Formula_valueOf_17 : decode b_Formula_valueOf 17 = .ok (.lreturn, 1) := dc_173 (by decide +kernel)
def t_Formula_valueOf (M : Mem) (r1 : Nat) (N1 : Nat) (x2 : Int) : Int64 := (if x2 < 0 then 0 else (if (N1 : Int) ≤ x2 then 0 else (M.2 r1 x2)))
set_option maxHeartbeats 4000000 in
set_option maxRecDepth 100000 in
theorem c_Formula_valueOf (l : Launch) {b n : Nat} {C : CT} (hlo : 191 ≤ n) (M : Mem) (r1 : Nat) (N1 : Nat) (x2 : Int) (hr1 : arrP 2 r1 N1 191) (hx2 : InR x2) (res : Int64) (hT : t_Formula_valueOf M r1 N1 x2 = res) : CM l b C n 0 y_Formula_valueOf b_Formula_valueOf 2 (some .long) [.ref (b + r1), vI x2] M (QL b C n M res) := by
  refine CM.of (lo := 191) (ow := "WardFalls$Formula") (by decide) rfl (Nat.le_of_ble_eq_true rfl) hlo (fun p e s m below meth c F hlk hr hS ls hl => ?_)
  have hl : lv_has ls 2 [(0, .ref (b + r1)), (1, vI x2)] := hl
  unfold t_Formula_valueOf at hT
  refine lv_iload_n F.hx F.hb d_Formula_valueOf_0 rfl (lv_at hl 1 rfl) ?_
  refine r_if_lt (tgt := 16) F.hx F.hb hx2 d_Formula_valueOf_1 (by decide) (fun c1 => ?_) (fun c1 => ?_)
  · replace hT := (if_pos c1).symm.trans hT
    refine lv_lconst (v := 0) F.hx F.hb d_Formula_valueOf_16 rfl ?_
    subst hT
    exact r_lret F hlk hr hS d_Formula_valueOf_17
  · replace hT := (if_neg c1).symm.trans hT
    refine lv_iload_n F.hx F.hb d_Formula_valueOf_4 rfl (lv_at hl 1 rfl) ?_
    refine lv_aload_n F.hx F.hb d_Formula_valueOf_5 rfl (lv_at hl 0 rfl) ?_
    refine r_alen F hS hr1.2.2 (by rw [hr1.1]; decide) hr1.2.1 d_Formula_valueOf_6 rfl ?_
    refine r_icmp_ge (tgt := 16) F.hx F.hb hx2 (inr_len hr1) d_Formula_valueOf_7 (by decide) (fun c2 => ?_) (fun c2 => ?_)
    · replace hT := (if_pos c2).symm.trans hT
      refine lv_lconst (v := 0) F.hx F.hb d_Formula_valueOf_16 rfl ?_
      subst hT
      exact r_lret F hlk hr hS d_Formula_valueOf_17
    · replace hT := (if_neg c2).symm.trans hT
      refine lv_aload_n F.hx F.hb d_Formula_valueOf_10 rfl (lv_at hl 0 rfl) ?_
      refine lv_iload_n F.hx F.hb d_Formula_valueOf_11 rfl (lv_at hl 1 rfl) ?_
      refine r_lald F hS hr1.2.2 hr1.1 hr1.2.1 hx2 (by omega) (by omega) d_Formula_valueOf_12 ?_
      refine lv_goto (tgt := 17) F.hx F.hb d_Formula_valueOf_13 (by decide) ?_
      subst hT
      exact r_lret F hlk hr hS d_Formula_valueOf_17
theorem d_Formula_asBit_0 : decode b_Formula_asBit 0 = .ok (.iload_n 0, 1) := dc_26 (by decide +kernel)
theorem d_Formula_asBit_1 : decode b_Formula_asBit 1 = .ok (.ifCond .eq 7, 3) := dc_153 (by decide +kernel)
theorem d_Formula_asBit_4 : decode b_Formula_asBit 4 = .ok (.lconst 1, 1) := dc_10 (by decide +kernel)
theorem d_Formula_asBit_5 : decode b_Formula_asBit 5 = .ok (.goto 4, 3) := dc_167 (by decide +kernel)
theorem d_Formula_asBit_8 : decode b_Formula_asBit 8 = .ok (.lconst 0, 1) := dc_9 (by decide +kernel)
theorem d_Formula_asBit_9 : decode b_Formula_asBit 9 = .ok (.lreturn, 1) := dc_173 (by decide +kernel)
def t_Formula_asBit (M : Mem) (x1 : Int) : Int64 := (if x1 = 0 then 0 else 1)
set_option maxHeartbeats 4000000 in
set_option maxRecDepth 100000 in
theorem c_Formula_asBit (l : Launch) {b n : Nat} {C : CT} (hlo : 191 ≤ n) (M : Mem) (x1 : Int) (hx1 : InR x1) (res : Int64) (hT : t_Formula_asBit M x1 = res) : CM l b C n 0 y_Formula_asBit b_Formula_asBit 1 (some .long) [vI x1] M (QL b C n M res) := by
  refine CM.of (lo := 191) (ow := "WardFalls$Formula") (by decide) rfl (Nat.le_of_ble_eq_true rfl) hlo (fun p e s m below meth c F hlk hr hS ls hl => ?_)
  have hl : lv_has ls 1 [(0, vI x1)] := hl
  unfold t_Formula_asBit at hT
  refine lv_iload_n F.hx F.hb d_Formula_asBit_0 rfl (lv_at hl 0 rfl) ?_
  refine r_if_eq (tgt := 8) F.hx F.hb hx1 d_Formula_asBit_1 (by decide) (fun c1 => ?_) (fun c1 => ?_)
  · replace hT := (if_pos c1).symm.trans hT
    refine lv_lconst (v := 0) F.hx F.hb d_Formula_asBit_8 rfl ?_
    subst hT
    exact r_lret F hlk hr hS d_Formula_asBit_9
  · replace hT := (if_neg c1).symm.trans hT
    refine lv_lconst (v := 1) F.hx F.hb d_Formula_asBit_4 rfl ?_
    refine lv_goto (tgt := 9) F.hx F.hb d_Formula_asBit_5 (by decide) ?_
    subst hT
    exact r_lret F hlk hr hS d_Formula_asBit_9
theorem d_Formula_product_0 : decode b_Formula_product 0 = .ok (.lload_n 0, 1) := dc_30 (by decide +kernel)
theorem d_Formula_product_1 : decode b_Formula_product 1 = .ok (.lconst 0, 1) := dc_9 (by decide +kernel)
theorem d_Formula_product_2 : decode b_Formula_product 2 = .ok (.lcmp, 1) := dc_148 (by decide +kernel)
theorem d_Formula_product_3 : decode b_Formula_product 3 = .ok (.ifCond .eq 9, 3) := dc_153 (by decide +kernel)
theorem d_Formula_product_6 : decode b_Formula_product 6 = .ok (.lload_n 2, 1) := dc_32 (by decide +kernel)
theorem d_Formula_product_7 : decode b_Formula_product 7 = .ok (.lconst 0, 1) := dc_9 (by decide +kernel)
theorem d_Formula_product_8 : decode b_Formula_product 8 = .ok (.lcmp, 1) := dc_148 (by decide +kernel)
theorem d_Formula_product_9 : decode b_Formula_product 9 = .ok (.ifCond .ne 5, 3) := dc_154 (by decide +kernel)
theorem d_Formula_product_12 : decode b_Formula_product 12 = .ok (.lconst 0, 1) := dc_9 (by decide +kernel)
theorem d_Formula_product_13 : decode b_Formula_product 13 = .ok (.lreturn, 1) := dc_173 (by decide +kernel)
theorem d_Formula_product_14 : decode b_Formula_product 14 = .ok (.lload_n 2, 1) := dc_32 (by decide +kernel)
theorem d_Formula_product_15 : decode b_Formula_product 15 = .ok (.invokestatic 123, 3) := dc_184 (by decide +kernel)
theorem d_Formula_product_18 : decode b_Formula_product 18 = .ok (.ldc2_w 115, 3) := dc_20 (by decide +kernel)
theorem d_Formula_product_21 : decode b_Formula_product 21 = .ok (.lload_n 0, 1) := dc_30 (by decide +kernel)
theorem d_Formula_product_22 : decode b_Formula_product 22 = .ok (.invokestatic 123, 3) := dc_184 (by decide +kernel)
theorem d_Formula_product_25 : decode b_Formula_product 25 = .ok (.ldiv, 1) := dc_109 (by decide +kernel)
theorem d_Formula_product_26 : decode b_Formula_product 26 = .ok (.lcmp, 1) := dc_148 (by decide +kernel)
theorem d_Formula_product_27 : decode b_Formula_product 27 = .ok (.ifCond .le 9, 3) := dc_158 (by decide +kernel)
theorem d_Formula_product_30 : decode b_Formula_product 30 = .ok (.ldc2_w 101, 3) := dc_20 (by decide +kernel)
theorem d_Formula_product_33 : decode b_Formula_product 33 = .ok (.goto 6, 3) := dc_167 (by decide +kernel)
theorem d_Formula_product_36 : decode b_Formula_product 36 = .ok (.lload_n 0, 1) := dc_30 (by decide +kernel)
theorem d_Formula_product_37 : decode b_Formula_product 37 = .ok (.lload_n 2, 1) := dc_32 (by decide +kernel)
theorem d_Formula_product_38 : decode b_Formula_product 38 = .ok (.lmul, 1) := dc_105 (by decide +kernel)
theorem d_Formula_product_39 : decode b_Formula_product 39 = .ok (.lreturn, 1) := dc_173 (by decide +kernel)
def t_Formula_product (M : Mem) (x1 : Int64) (x2 : Int64) : Option (Int64) := (if x1 = 0 then (some 0) else (if x2 = 0 then (some 0) else (if (q_absl x1) = 0 then none else (if (q_absl x2) ≤ (1000000000000 / (q_absl x1)) then (some (x1 * x2)) else (some (-9223372036854775808))))))
set_option maxHeartbeats 4000000 in
set_option maxRecDepth 100000 in
theorem c_Formula_product (l : Launch) {b n : Nat} {C : CT} (hlo : 191 ≤ n) (M : Mem) (x1 : Int64) (x2 : Int64)  (res : Int64) (hT : t_Formula_product M x1 x2 = some res) : CM l b C n 1 y_Formula_product b_Formula_product 4 (some .long) [.long x1, .long x2] M (QL b C n M res) := by
  refine CM.of (lo := 191) (ow := "WardFalls$Formula") (by decide) rfl (Nat.le_of_ble_eq_true rfl) hlo (fun p e s m below meth c F hlk hr hS ls hl => ?_)
  have hl : lv_has ls 4 [(0, .long x1), (2, .long x2)] := hl
  unfold t_Formula_product at hT
  refine lv_lload_n F.hx F.hb d_Formula_product_0 rfl (lv_at hl 0 rfl) ?_
  refine lv_lconst (v := 0) F.hx F.hb d_Formula_product_1 rfl ?_
  refine W.lcmp F.hx F.hb d_Formula_product_2 ?_
  refine r_lif_eq (tgt := 12) F.hx F.hb  d_Formula_product_3 (by decide) (fun c1 => ?_) (fun c1 => ?_)
  · replace hT := (if_pos c1).symm.trans hT
    refine lv_lconst (v := 0) F.hx F.hb d_Formula_product_12 rfl ?_
    cases hT
    exact r_lret F hlk hr hS d_Formula_product_13
  · replace hT := (if_neg c1).symm.trans hT
    refine lv_lload_n F.hx F.hb d_Formula_product_6 rfl (lv_at hl 1 rfl) ?_
    refine lv_lconst (v := 0) F.hx F.hb d_Formula_product_7 rfl ?_
    refine W.lcmp F.hx F.hb d_Formula_product_8 ?_
    refine r_lif_ne (tgt := 14) F.hx F.hb  d_Formula_product_9 (by decide) (fun c2 => ?_) (fun c2 => ?_)
    · replace hT := (if_neg c2).symm.trans hT
      refine lv_lload_n F.hx F.hb d_Formula_product_14 rfl (lv_at hl 1 rfl) ?_
      refine r_mabsl F hl.1 mw_915 mw_916 mw_14 mw_917 ⟨Nat.le_of_ble_eq_true rfl, Nat.le_of_ble_eq_true rfl⟩ (Nat.le_of_ble_eq_true rfl) ⟨Nat.zero_le _, Nat.zero_le _⟩ d_Formula_product_15 ?_
      refine lv_ldc2 (v := 1000000000000) F.hx F.hb F.hown (F.hts mw_918) d_Formula_product_18 ?_
      refine lv_lload_n F.hx F.hb d_Formula_product_21 rfl (lv_at hl 0 rfl) ?_
      refine r_mabsl F hl.1 mw_915 mw_916 mw_14 mw_917 ⟨Nat.le_of_ble_eq_true rfl, Nat.le_of_ble_eq_true rfl⟩ (Nat.le_of_ble_eq_true rfl) ⟨Nat.zero_le _, Nat.zero_le _⟩ d_Formula_product_22 ?_
      obtain ⟨c3, hT⟩ := q_guardn hT
      refine lv_ldiv F.hx F.hb d_Formula_product_25 c3 ?_
      refine W.lcmp F.hx F.hb d_Formula_product_26 ?_
      refine r_lif_le (tgt := 36) F.hx F.hb  d_Formula_product_27 (by decide) (fun c4 => ?_) (fun c4 => ?_)
      · replace hT := (if_pos c4).symm.trans hT
        refine lv_lload_n F.hx F.hb d_Formula_product_36 rfl (lv_at hl 0 rfl) ?_
        refine lv_lload_n F.hx F.hb d_Formula_product_37 rfl (lv_at hl 1 rfl) ?_
        refine lv_lmul F.hx F.hb d_Formula_product_38 ?_
        cases hT
        exact r_lret F hlk hr hS d_Formula_product_39
      · replace hT := (if_neg c4).symm.trans hT
        refine lv_ldc2 (v := (-9223372036854775808)) F.hx F.hb F.hown (F.hts mw_902) d_Formula_product_30 ?_
        refine lv_goto (tgt := 39) F.hx F.hb d_Formula_product_33 (by decide) ?_
        cases hT
        exact r_lret F hlk hr hS d_Formula_product_39
    · replace hT := (if_pos c2).symm.trans hT
      refine lv_lconst (v := 0) F.hx F.hb d_Formula_product_12 rfl ?_
      cases hT
      exact r_lret F hlk hr hS d_Formula_product_13
theorem wn_Formula_join_0 : ∀ i, i < 1 → bA b_Formula_join (0 + i) = wB [26] i := wB_of (by decide +kernel)
theorem d_Formula_join_0 : decode b_Formula_join 0 = .ok (.iload_n 0, 1) := dc_26 (q0_win (r := 0) wn_Formula_join_0 (by decide +kernel))
theorem d_Formula_join_1 : decode b_Formula_join 1 = .ok (.tableswitch 313 15 52 #[167, 188, 313, 313, 313, 313, 313, 313, 313, 313, 313, 313, 313, 313, 313, 313, 313, 313, 313, 313, 313, 313, 313, 313, 313, 313, 313, 313, 299, 303, 307, 313, 209, 224, 239, 254, 269, 284], 167) := by decide +kernel
theorem wn_Formula_join_168 : ∀ i, i < 94 → bA b_Formula_join (168 + i) = wB [31, 9, 148, 154, 0, 9, 33, 9, 148, 153, 0, 7, 4, 167, 0, 4, 3, 184, 0, 107, 173, 31, 9, 148, 153, 0, 13, 33, 9, 148, 153, 0, 7, 4, 167, 0, 4, 3, 184, 0, 107, 173, 31, 33, 148, 156, 0, 7, 4, 167, 0, 4, 3, 184, 0, 107, 173, 31, 33, 148, 157, 0, 7, 4, 167, 0, 4, 3, 184, 0, 107, 173, 31, 33, 148, 154, 0, 7, 4, 167, 0, 4, 3, 184, 0, 107, 173, 31, 33, 148, 153, 0, 7, 4] i := wB_of (by decide +kernel)
theorem d_Formula_join_168 : decode b_Formula_join 168 = .ok (.lload_n 1, 1) := dc_31 (q0_win (r := 0) wn_Formula_join_168 (by decide +kernel))
theorem d_Formula_join_169 : decode b_Formula_join 169 = .ok (.lconst 0, 1) := dc_9 (q0_win (r := 1) wn_Formula_join_168 (by decide +kernel))
theorem d_Formula_join_170 : decode b_Formula_join 170 = .ok (.lcmp, 1) := dc_148 (q0_win (r := 2) wn_Formula_join_168 (by decide +kernel))
theorem d_Formula_join_171 : decode b_Formula_join 171 = .ok (.ifCond .ne 9, 3) := dc_154 (qS2_win (r := 3) wn_Formula_join_168 (by decide +kernel))
theorem d_Formula_join_174 : decode b_Formula_join 174 = .ok (.lload_n 3, 1) := dc_33 (q0_win (r := 6) wn_Formula_join_168 (by decide +kernel))
theorem d_Formula_join_175 : decode b_Formula_join 175 = .ok (.lconst 0, 1) := dc_9 (q0_win (r := 7) wn_Formula_join_168 (by decide +kernel))
theorem d_Formula_join_176 : decode b_Formula_join 176 = .ok (.lcmp, 1) := dc_148 (q0_win (r := 8) wn_Formula_join_168 (by decide +kernel))
theorem d_Formula_join_177 : decode b_Formula_join 177 = .ok (.ifCond .eq 7, 3) := dc_153 (qS2_win (r := 9) wn_Formula_join_168 (by decide +kernel))
theorem d_Formula_join_180 : decode b_Formula_join 180 = .ok (.iconst 1, 1) := dc_4 (q0_win (r := 12) wn_Formula_join_168 (by decide +kernel))
theorem d_Formula_join_181 : decode b_Formula_join 181 = .ok (.goto 4, 3) := dc_167 (qS2_win (r := 13) wn_Formula_join_168 (by decide +kernel))
theorem d_Formula_join_184 : decode b_Formula_join 184 = .ok (.iconst 0, 1) := dc_3 (q0_win (r := 16) wn_Formula_join_168 (by decide +kernel))
theorem d_Formula_join_185 : decode b_Formula_join 185 = .ok (.invokestatic 107, 3) := dc_184 (qU2_win (r := 17) wn_Formula_join_168 (by decide +kernel))
theorem d_Formula_join_188 : decode b_Formula_join 188 = .ok (.lreturn, 1) := dc_173 (q0_win (r := 20) wn_Formula_join_168 (by decide +kernel))
theorem d_Formula_join_189 : decode b_Formula_join 189 = .ok (.lload_n 1, 1) := dc_31 (q0_win (r := 21) wn_Formula_join_168 (by decide +kernel))
theorem d_Formula_join_190 : decode b_Formula_join 190 = .ok (.lconst 0, 1) := dc_9 (q0_win (r := 22) wn_Formula_join_168 (by decide +kernel))
theorem d_Formula_join_191 : decode b_Formula_join 191 = .ok (.lcmp, 1) := dc_148 (q0_win (r := 23) wn_Formula_join_168 (by decide +kernel))
theorem d_Formula_join_192 : decode b_Formula_join 192 = .ok (.ifCond .eq 13, 3) := dc_153 (qS2_win (r := 24) wn_Formula_join_168 (by decide +kernel))
theorem d_Formula_join_195 : decode b_Formula_join 195 = .ok (.lload_n 3, 1) := dc_33 (q0_win (r := 27) wn_Formula_join_168 (by decide +kernel))
theorem d_Formula_join_196 : decode b_Formula_join 196 = .ok (.lconst 0, 1) := dc_9 (q0_win (r := 28) wn_Formula_join_168 (by decide +kernel))
theorem d_Formula_join_197 : decode b_Formula_join 197 = .ok (.lcmp, 1) := dc_148 (q0_win (r := 29) wn_Formula_join_168 (by decide +kernel))
theorem d_Formula_join_198 : decode b_Formula_join 198 = .ok (.ifCond .eq 7, 3) := dc_153 (qS2_win (r := 30) wn_Formula_join_168 (by decide +kernel))
theorem d_Formula_join_201 : decode b_Formula_join 201 = .ok (.iconst 1, 1) := dc_4 (q0_win (r := 33) wn_Formula_join_168 (by decide +kernel))
theorem d_Formula_join_202 : decode b_Formula_join 202 = .ok (.goto 4, 3) := dc_167 (qS2_win (r := 34) wn_Formula_join_168 (by decide +kernel))
theorem d_Formula_join_205 : decode b_Formula_join 205 = .ok (.iconst 0, 1) := dc_3 (q0_win (r := 37) wn_Formula_join_168 (by decide +kernel))
theorem d_Formula_join_206 : decode b_Formula_join 206 = .ok (.invokestatic 107, 3) := dc_184 (qU2_win (r := 38) wn_Formula_join_168 (by decide +kernel))
theorem d_Formula_join_209 : decode b_Formula_join 209 = .ok (.lreturn, 1) := dc_173 (q0_win (r := 41) wn_Formula_join_168 (by decide +kernel))
theorem d_Formula_join_210 : decode b_Formula_join 210 = .ok (.lload_n 1, 1) := dc_31 (q0_win (r := 42) wn_Formula_join_168 (by decide +kernel))
theorem d_Formula_join_211 : decode b_Formula_join 211 = .ok (.lload_n 3, 1) := dc_33 (q0_win (r := 43) wn_Formula_join_168 (by decide +kernel))
theorem d_Formula_join_212 : decode b_Formula_join 212 = .ok (.lcmp, 1) := dc_148 (q0_win (r := 44) wn_Formula_join_168 (by decide +kernel))
theorem d_Formula_join_213 : decode b_Formula_join 213 = .ok (.ifCond .ge 7, 3) := dc_156 (qS2_win (r := 45) wn_Formula_join_168 (by decide +kernel))
theorem d_Formula_join_216 : decode b_Formula_join 216 = .ok (.iconst 1, 1) := dc_4 (q0_win (r := 48) wn_Formula_join_168 (by decide +kernel))
theorem d_Formula_join_217 : decode b_Formula_join 217 = .ok (.goto 4, 3) := dc_167 (qS2_win (r := 49) wn_Formula_join_168 (by decide +kernel))
theorem d_Formula_join_220 : decode b_Formula_join 220 = .ok (.iconst 0, 1) := dc_3 (q0_win (r := 52) wn_Formula_join_168 (by decide +kernel))
theorem d_Formula_join_221 : decode b_Formula_join 221 = .ok (.invokestatic 107, 3) := dc_184 (qU2_win (r := 53) wn_Formula_join_168 (by decide +kernel))
theorem d_Formula_join_224 : decode b_Formula_join 224 = .ok (.lreturn, 1) := dc_173 (q0_win (r := 56) wn_Formula_join_168 (by decide +kernel))
theorem d_Formula_join_225 : decode b_Formula_join 225 = .ok (.lload_n 1, 1) := dc_31 (q0_win (r := 57) wn_Formula_join_168 (by decide +kernel))
theorem d_Formula_join_226 : decode b_Formula_join 226 = .ok (.lload_n 3, 1) := dc_33 (q0_win (r := 58) wn_Formula_join_168 (by decide +kernel))
theorem d_Formula_join_227 : decode b_Formula_join 227 = .ok (.lcmp, 1) := dc_148 (q0_win (r := 59) wn_Formula_join_168 (by decide +kernel))
theorem d_Formula_join_228 : decode b_Formula_join 228 = .ok (.ifCond .gt 7, 3) := dc_157 (qS2_win (r := 60) wn_Formula_join_168 (by decide +kernel))
theorem d_Formula_join_231 : decode b_Formula_join 231 = .ok (.iconst 1, 1) := dc_4 (q0_win (r := 63) wn_Formula_join_168 (by decide +kernel))
theorem d_Formula_join_232 : decode b_Formula_join 232 = .ok (.goto 4, 3) := dc_167 (qS2_win (r := 64) wn_Formula_join_168 (by decide +kernel))
theorem d_Formula_join_235 : decode b_Formula_join 235 = .ok (.iconst 0, 1) := dc_3 (q0_win (r := 67) wn_Formula_join_168 (by decide +kernel))
theorem d_Formula_join_236 : decode b_Formula_join 236 = .ok (.invokestatic 107, 3) := dc_184 (qU2_win (r := 68) wn_Formula_join_168 (by decide +kernel))
theorem d_Formula_join_239 : decode b_Formula_join 239 = .ok (.lreturn, 1) := dc_173 (q0_win (r := 71) wn_Formula_join_168 (by decide +kernel))
theorem d_Formula_join_240 : decode b_Formula_join 240 = .ok (.lload_n 1, 1) := dc_31 (q0_win (r := 72) wn_Formula_join_168 (by decide +kernel))
theorem d_Formula_join_241 : decode b_Formula_join 241 = .ok (.lload_n 3, 1) := dc_33 (q0_win (r := 73) wn_Formula_join_168 (by decide +kernel))
theorem d_Formula_join_242 : decode b_Formula_join 242 = .ok (.lcmp, 1) := dc_148 (q0_win (r := 74) wn_Formula_join_168 (by decide +kernel))
theorem d_Formula_join_243 : decode b_Formula_join 243 = .ok (.ifCond .ne 7, 3) := dc_154 (qS2_win (r := 75) wn_Formula_join_168 (by decide +kernel))
theorem d_Formula_join_246 : decode b_Formula_join 246 = .ok (.iconst 1, 1) := dc_4 (q0_win (r := 78) wn_Formula_join_168 (by decide +kernel))
theorem d_Formula_join_247 : decode b_Formula_join 247 = .ok (.goto 4, 3) := dc_167 (qS2_win (r := 79) wn_Formula_join_168 (by decide +kernel))
theorem d_Formula_join_250 : decode b_Formula_join 250 = .ok (.iconst 0, 1) := dc_3 (q0_win (r := 82) wn_Formula_join_168 (by decide +kernel))
theorem d_Formula_join_251 : decode b_Formula_join 251 = .ok (.invokestatic 107, 3) := dc_184 (qU2_win (r := 83) wn_Formula_join_168 (by decide +kernel))
theorem d_Formula_join_254 : decode b_Formula_join 254 = .ok (.lreturn, 1) := dc_173 (q0_win (r := 86) wn_Formula_join_168 (by decide +kernel))
theorem d_Formula_join_255 : decode b_Formula_join 255 = .ok (.lload_n 1, 1) := dc_31 (q0_win (r := 87) wn_Formula_join_168 (by decide +kernel))
theorem d_Formula_join_256 : decode b_Formula_join 256 = .ok (.lload_n 3, 1) := dc_33 (q0_win (r := 88) wn_Formula_join_168 (by decide +kernel))
theorem d_Formula_join_257 : decode b_Formula_join 257 = .ok (.lcmp, 1) := dc_148 (q0_win (r := 89) wn_Formula_join_168 (by decide +kernel))
theorem d_Formula_join_258 : decode b_Formula_join 258 = .ok (.ifCond .eq 7, 3) := dc_153 (qS2_win (r := 90) wn_Formula_join_168 (by decide +kernel))
theorem d_Formula_join_261 : decode b_Formula_join 261 = .ok (.iconst 1, 1) := dc_4 (q0_win (r := 93) wn_Formula_join_168 (by decide +kernel))
theorem wn_Formula_join_262 : ∀ i, i < 68 → bA b_Formula_join (262 + i) = wB [167, 0, 4, 3, 184, 0, 107, 173, 31, 33, 148, 155, 0, 7, 4, 167, 0, 4, 3, 184, 0, 107, 173, 31, 33, 148, 158, 0, 7, 4, 167, 0, 4, 3, 184, 0, 107, 173, 31, 33, 97, 173, 31, 33, 101, 173, 31, 33, 184, 0, 119, 173, 33, 9, 148, 154, 0, 9, 20, 0, 101, 167, 0, 6, 31, 33, 109, 173] i := wB_of (by decide +kernel)
theorem d_Formula_join_262 : decode b_Formula_join 262 = .ok (.goto 4, 3) := dc_167 (qS2_win (r := 0) wn_Formula_join_262 (by decide +kernel))
theorem d_Formula_join_265 : decode b_Formula_join 265 = .ok (.iconst 0, 1) := dc_3 (q0_win (r := 3) wn_Formula_join_262 (by decide +kernel))
theorem d_Formula_join_266 : decode b_Formula_join 266 = .ok (.invokestatic 107, 3) := dc_184 (qU2_win (r := 4) wn_Formula_join_262 (by decide +kernel))
theorem d_Formula_join_269 : decode b_Formula_join 269 = .ok (.lreturn, 1) := dc_173 (q0_win (r := 7) wn_Formula_join_262 (by decide +kernel))
theorem d_Formula_join_270 : decode b_Formula_join 270 = .ok (.lload_n 1, 1) := dc_31 (q0_win (r := 8) wn_Formula_join_262 (by decide +kernel))
theorem d_Formula_join_271 : decode b_Formula_join 271 = .ok (.lload_n 3, 1) := dc_33 (q0_win (r := 9) wn_Formula_join_262 (by decide +kernel))
theorem d_Formula_join_272 : decode b_Formula_join 272 = .ok (.lcmp, 1) := dc_148 (q0_win (r := 10) wn_Formula_join_262 (by decide +kernel))
theorem d_Formula_join_273 : decode b_Formula_join 273 = .ok (.ifCond .lt 7, 3) := dc_155 (qS2_win (r := 11) wn_Formula_join_262 (by decide +kernel))
theorem d_Formula_join_276 : decode b_Formula_join 276 = .ok (.iconst 1, 1) := dc_4 (q0_win (r := 14) wn_Formula_join_262 (by decide +kernel))
theorem d_Formula_join_277 : decode b_Formula_join 277 = .ok (.goto 4, 3) := dc_167 (qS2_win (r := 15) wn_Formula_join_262 (by decide +kernel))
theorem d_Formula_join_280 : decode b_Formula_join 280 = .ok (.iconst 0, 1) := dc_3 (q0_win (r := 18) wn_Formula_join_262 (by decide +kernel))
theorem d_Formula_join_281 : decode b_Formula_join 281 = .ok (.invokestatic 107, 3) := dc_184 (qU2_win (r := 19) wn_Formula_join_262 (by decide +kernel))
theorem d_Formula_join_284 : decode b_Formula_join 284 = .ok (.lreturn, 1) := dc_173 (q0_win (r := 22) wn_Formula_join_262 (by decide +kernel))
theorem d_Formula_join_285 : decode b_Formula_join 285 = .ok (.lload_n 1, 1) := dc_31 (q0_win (r := 23) wn_Formula_join_262 (by decide +kernel))
theorem d_Formula_join_286 : decode b_Formula_join 286 = .ok (.lload_n 3, 1) := dc_33 (q0_win (r := 24) wn_Formula_join_262 (by decide +kernel))
theorem d_Formula_join_287 : decode b_Formula_join 287 = .ok (.lcmp, 1) := dc_148 (q0_win (r := 25) wn_Formula_join_262 (by decide +kernel))
theorem d_Formula_join_288 : decode b_Formula_join 288 = .ok (.ifCond .le 7, 3) := dc_158 (qS2_win (r := 26) wn_Formula_join_262 (by decide +kernel))
theorem d_Formula_join_291 : decode b_Formula_join 291 = .ok (.iconst 1, 1) := dc_4 (q0_win (r := 29) wn_Formula_join_262 (by decide +kernel))
theorem d_Formula_join_292 : decode b_Formula_join 292 = .ok (.goto 4, 3) := dc_167 (qS2_win (r := 30) wn_Formula_join_262 (by decide +kernel))
theorem d_Formula_join_295 : decode b_Formula_join 295 = .ok (.iconst 0, 1) := dc_3 (q0_win (r := 33) wn_Formula_join_262 (by decide +kernel))
theorem d_Formula_join_296 : decode b_Formula_join 296 = .ok (.invokestatic 107, 3) := dc_184 (qU2_win (r := 34) wn_Formula_join_262 (by decide +kernel))
theorem d_Formula_join_299 : decode b_Formula_join 299 = .ok (.lreturn, 1) := dc_173 (q0_win (r := 37) wn_Formula_join_262 (by decide +kernel))
theorem d_Formula_join_300 : decode b_Formula_join 300 = .ok (.lload_n 1, 1) := dc_31 (q0_win (r := 38) wn_Formula_join_262 (by decide +kernel))
theorem d_Formula_join_301 : decode b_Formula_join 301 = .ok (.lload_n 3, 1) := dc_33 (q0_win (r := 39) wn_Formula_join_262 (by decide +kernel))
theorem d_Formula_join_302 : decode b_Formula_join 302 = .ok (.ladd, 1) := dc_97 (q0_win (r := 40) wn_Formula_join_262 (by decide +kernel))
theorem d_Formula_join_303 : decode b_Formula_join 303 = .ok (.lreturn, 1) := dc_173 (q0_win (r := 41) wn_Formula_join_262 (by decide +kernel))
theorem d_Formula_join_304 : decode b_Formula_join 304 = .ok (.lload_n 1, 1) := dc_31 (q0_win (r := 42) wn_Formula_join_262 (by decide +kernel))
theorem d_Formula_join_305 : decode b_Formula_join 305 = .ok (.lload_n 3, 1) := dc_33 (q0_win (r := 43) wn_Formula_join_262 (by decide +kernel))
theorem d_Formula_join_306 : decode b_Formula_join 306 = .ok (.lsub, 1) := dc_101 (q0_win (r := 44) wn_Formula_join_262 (by decide +kernel))
theorem d_Formula_join_307 : decode b_Formula_join 307 = .ok (.lreturn, 1) := dc_173 (q0_win (r := 45) wn_Formula_join_262 (by decide +kernel))
theorem d_Formula_join_308 : decode b_Formula_join 308 = .ok (.lload_n 1, 1) := dc_31 (q0_win (r := 46) wn_Formula_join_262 (by decide +kernel))
theorem d_Formula_join_309 : decode b_Formula_join 309 = .ok (.lload_n 3, 1) := dc_33 (q0_win (r := 47) wn_Formula_join_262 (by decide +kernel))
theorem d_Formula_join_310 : decode b_Formula_join 310 = .ok (.invokestatic 119, 3) := dc_184 (qU2_win (r := 48) wn_Formula_join_262 (by decide +kernel))
theorem d_Formula_join_313 : decode b_Formula_join 313 = .ok (.lreturn, 1) := dc_173 (q0_win (r := 51) wn_Formula_join_262 (by decide +kernel))
theorem d_Formula_join_314 : decode b_Formula_join 314 = .ok (.lload_n 3, 1) := dc_33 (q0_win (r := 52) wn_Formula_join_262 (by decide +kernel))
theorem d_Formula_join_315 : decode b_Formula_join 315 = .ok (.lconst 0, 1) := dc_9 (q0_win (r := 53) wn_Formula_join_262 (by decide +kernel))
theorem d_Formula_join_316 : decode b_Formula_join 316 = .ok (.lcmp, 1) := dc_148 (q0_win (r := 54) wn_Formula_join_262 (by decide +kernel))
theorem d_Formula_join_317 : decode b_Formula_join 317 = .ok (.ifCond .ne 9, 3) := dc_154 (qS2_win (r := 55) wn_Formula_join_262 (by decide +kernel))
theorem d_Formula_join_320 : decode b_Formula_join 320 = .ok (.ldc2_w 101, 3) := dc_20 (qU2_win (r := 58) wn_Formula_join_262 (by decide +kernel))
theorem d_Formula_join_323 : decode b_Formula_join 323 = .ok (.goto 6, 3) := dc_167 (qS2_win (r := 61) wn_Formula_join_262 (by decide +kernel))
theorem d_Formula_join_326 : decode b_Formula_join 326 = .ok (.lload_n 1, 1) := dc_31 (q0_win (r := 64) wn_Formula_join_262 (by decide +kernel))
theorem d_Formula_join_327 : decode b_Formula_join 327 = .ok (.lload_n 3, 1) := dc_33 (q0_win (r := 65) wn_Formula_join_262 (by decide +kernel))
theorem d_Formula_join_328 : decode b_Formula_join 328 = .ok (.ldiv, 1) := dc_109 (q0_win (r := 66) wn_Formula_join_262 (by decide +kernel))
theorem d_Formula_join_329 : decode b_Formula_join 329 = .ok (.lreturn, 1) := dc_173 (q0_win (r := 67) wn_Formula_join_262 (by decide +kernel))
def t_Formula_join_L185 (x1 : Int) (x2 : Int64) (x3 : Int64)  (M : Mem) (v0_ : Int) : Option (Int64) := (qlet (t_Formula_asBit M v0_) fun q51 => (some q51))
def t_Formula_join_L180 (x1 : Int) (x2 : Int64) (x3 : Int64)  (M : Mem)  : Option (Int64) := (t_Formula_join_L185 x1 x2 x3 M 1)
def t_Formula_join_L206 (x1 : Int) (x2 : Int64) (x3 : Int64)  (M : Mem) (v0_ : Int) : Option (Int64) := (qlet (t_Formula_asBit M v0_) fun q53 => (some q53))
def t_Formula_join_L205 (x1 : Int) (x2 : Int64) (x3 : Int64)  (M : Mem)  : Option (Int64) := (t_Formula_join_L206 x1 x2 x3 M 0)
def t_Formula_join_L221 (x1 : Int) (x2 : Int64) (x3 : Int64)  (M : Mem) (v0_ : Int) : Option (Int64) := (qlet (t_Formula_asBit M v0_) fun q56 => (some q56))
def t_Formula_join_L236 (x1 : Int) (x2 : Int64) (x3 : Int64)  (M : Mem) (v0_ : Int) : Option (Int64) := (qlet (t_Formula_asBit M v0_) fun q58 => (some q58))
def t_Formula_join_L251 (x1 : Int) (x2 : Int64) (x3 : Int64)  (M : Mem) (v0_ : Int) : Option (Int64) := (qlet (t_Formula_asBit M v0_) fun q60 => (some q60))
def t_Formula_join_L266 (x1 : Int) (x2 : Int64) (x3 : Int64)  (M : Mem) (v0_ : Int) : Option (Int64) := (qlet (t_Formula_asBit M v0_) fun q62 => (some q62))
def t_Formula_join_L281 (x1 : Int) (x2 : Int64) (x3 : Int64)  (M : Mem) (v0_ : Int) : Option (Int64) := (qlet (t_Formula_asBit M v0_) fun q64 => (some q64))
def t_Formula_join_L296 (x1 : Int) (x2 : Int64) (x3 : Int64)  (M : Mem) (v0_ : Int) : Option (Int64) := (qlet (t_Formula_asBit M v0_) fun q66 => (some q66))
def t_Formula_join_L314 (x1 : Int) (x2 : Int64) (x3 : Int64)  (M : Mem)  : Option (Int64) := (if x3 = 0 then (some (-9223372036854775808)) else (some (x2 / x3)))
def t_Formula_join (M : Mem) (x1 : Int) (x2 : Int64) (x3 : Int64) : Option (Int64) := (if x1 = 15 then (if x2 = 0 then (if x3 = 0 then (t_Formula_join_L185 x1 x2 x3 M 0) else (t_Formula_join_L180 x1 x2 x3 M)) else (t_Formula_join_L180 x1 x2 x3 M)) else (if x1 = 16 then (if x2 = 0 then (t_Formula_join_L205 x1 x2 x3 M) else (if x3 = 0 then (t_Formula_join_L205 x1 x2 x3 M) else (t_Formula_join_L206 x1 x2 x3 M 1))) else (if x1 = 17 then (t_Formula_join_L314 x1 x2 x3 M) else (if x1 = 18 then (t_Formula_join_L314 x1 x2 x3 M) else (if x1 = 19 then (t_Formula_join_L314 x1 x2 x3 M) else (if x1 = 20 then (t_Formula_join_L314 x1 x2 x3 M) else (if x1 = 21 then (t_Formula_join_L314 x1 x2 x3 M) else (if x1 = 22 then (t_Formula_join_L314 x1 x2 x3 M) else (if x1 = 23 then (t_Formula_join_L314 x1 x2 x3 M) else (if x1 = 24 then (t_Formula_join_L314 x1 x2 x3 M) else (if x1 = 25 then (t_Formula_join_L314 x1 x2 x3 M) else (if x1 = 26 then (t_Formula_join_L314 x1 x2 x3 M) else (if x1 = 27 then (t_Formula_join_L314 x1 x2 x3 M) else (if x1 = 28 then (t_Formula_join_L314 x1 x2 x3 M) else (if x1 = 29 then (t_Formula_join_L314 x1 x2 x3 M) else (if x1 = 30 then (t_Formula_join_L314 x1 x2 x3 M) else (if x1 = 31 then (t_Formula_join_L314 x1 x2 x3 M) else (if x1 = 32 then (t_Formula_join_L314 x1 x2 x3 M) else (if x1 = 33 then (t_Formula_join_L314 x1 x2 x3 M) else (if x1 = 34 then (t_Formula_join_L314 x1 x2 x3 M) else (if x1 = 35 then (t_Formula_join_L314 x1 x2 x3 M) else (if x1 = 36 then (t_Formula_join_L314 x1 x2 x3 M) else (if x1 = 37 then (t_Formula_join_L314 x1 x2 x3 M) else (if x1 = 38 then (t_Formula_join_L314 x1 x2 x3 M) else (if x1 = 39 then (t_Formula_join_L314 x1 x2 x3 M) else (if x1 = 40 then (t_Formula_join_L314 x1 x2 x3 M) else (if x1 = 41 then (t_Formula_join_L314 x1 x2 x3 M) else (if x1 = 42 then (t_Formula_join_L314 x1 x2 x3 M) else (if x1 = 43 then (some (x2 + x3)) else (if x1 = 44 then (some (x2 - x3)) else (if x1 = 45 then (obind (t_Formula_product M x2 x3) fun q36 => (some q36)) else (if x1 = 46 then (t_Formula_join_L314 x1 x2 x3 M) else (if x1 = 47 then (if x3 ≤ x2 then (t_Formula_join_L221 x1 x2 x3 M 0) else (t_Formula_join_L221 x1 x2 x3 M 1)) else (if x1 = 48 then (if x3 < x2 then (t_Formula_join_L236 x1 x2 x3 M 0) else (t_Formula_join_L236 x1 x2 x3 M 1)) else (if x1 = 49 then (if x2 = x3 then (t_Formula_join_L251 x1 x2 x3 M 1) else (t_Formula_join_L251 x1 x2 x3 M 0)) else (if x1 = 50 then (if x2 = x3 then (t_Formula_join_L266 x1 x2 x3 M 0) else (t_Formula_join_L266 x1 x2 x3 M 1)) else (if x1 = 51 then (if x2 < x3 then (t_Formula_join_L281 x1 x2 x3 M 0) else (t_Formula_join_L281 x1 x2 x3 M 1)) else (if x1 = 52 then (if x2 ≤ x3 then (t_Formula_join_L296 x1 x2 x3 M 0) else (t_Formula_join_L296 x1 x2 x3 M 1)) else (t_Formula_join_L314 x1 x2 x3 M)))))))))))))))))))))))))))))))))))))))
set_option maxHeartbeats 4000000 in
set_option maxRecDepth 100000 in
theorem k_Formula_join_L185 (l : Launch) {p : Program} {e : Env} {s : State} {m : MethodId} {below : List Frame} {meth : Method} {c : Code} {b n : Nat} {C : CT} (hlo : 191 ≤ n) (x1 : Int) (x2 : Int64) (x3 : Int64) (hx1 : InR x1) (F : Cx b p m c b_Formula_join 5 s ([vI x1, .long x2, .long x3] : List Value).toArray "WardFalls$Formula" C n 191) (hlk : meth.locks = false) (hr : meth.sig.returnType = some .long) {res : Int64} (M : Mem) (v0_ : Int) (hv0_ : v0_ = 0 ∨ v0_ = 1) (H : Heap) (locs : List Loc) (ls : Array Slot) (hS : St b C n M s H locs) (hl : lv_has ls 5 []) (hT : t_Formula_join_L185 x1 x2 x3 M v0_ = some res) : W p l e (headSpec (wsM y_Formula_join b_Formula_join 5 (some .long)) (rmD 2)).room s m ([vI x1, .long x2, .long x3] : List Value).toArray below meth c H locs 0 0 (MQ below (QL b C n M res) ([vI x1, .long x2, .long x3] : List Value).toArray s 0 0 (frb b)) (F0 m 185 ls [vI v0_]) := by
  unfold t_Formula_join_L185 at hT
  obtain ⟨q51, hq51⟩ : ∃ q, q = (t_Formula_asBit M v0_) := ⟨_, rfl⟩
  replace hT := qlet_eq hT hq51
  refine r_backL F hS (r_runS (As := [vI v0_]) F hS (c_Formula_asBit l F.2.2.1 M v0_ (inr_z hv0_) _ hq51.symm) gs_Formula_107 hd_Formula_asBit ⟨Nat.le_of_ble_eq_true rfl, Nat.le_of_ble_eq_true rfl⟩ rfl hl.1 (Nat.le_of_ble_eq_true rfl) ⟨Nat.zero_le _, Nat.zero_le _⟩ rfl d_Formula_join_185) (fun H locs hS => ?_)
  cases hT
  exact r_lret F hlk hr hS d_Formula_join_188
set_option maxHeartbeats 4000000 in
set_option maxRecDepth 100000 in
theorem k_Formula_join_L180 (l : Launch) {p : Program} {e : Env} {s : State} {m : MethodId} {below : List Frame} {meth : Method} {c : Code} {b n : Nat} {C : CT} (hlo : 191 ≤ n) (x1 : Int) (x2 : Int64) (x3 : Int64) (hx1 : InR x1) (F : Cx b p m c b_Formula_join 5 s ([vI x1, .long x2, .long x3] : List Value).toArray "WardFalls$Formula" C n 191) (hlk : meth.locks = false) (hr : meth.sig.returnType = some .long) {res : Int64} (M : Mem)  (H : Heap) (locs : List Loc) (ls : Array Slot) (hS : St b C n M s H locs) (hl : lv_has ls 5 []) (hT : t_Formula_join_L180 x1 x2 x3 M = some res) : W p l e (headSpec (wsM y_Formula_join b_Formula_join 5 (some .long)) (rmD 2)).room s m ([vI x1, .long x2, .long x3] : List Value).toArray below meth c H locs 0 0 (MQ below (QL b C n M res) ([vI x1, .long x2, .long x3] : List Value).toArray s 0 0 (frb b)) (F0 m 180 ls []) := by
  unfold t_Formula_join_L180 at hT
  refine r_iconst F.hx F.hb d_Formula_join_180 ?_
  refine lv_goto (tgt := 185) F.hx F.hb d_Formula_join_181 (by decide) ?_
  exact k_Formula_join_L185 l hlo x1 x2 x3 hx1 F hlk hr M 1 (Or.inr rfl) _ _ _ hS (lv_sub hl [] rfl) hT
set_option maxHeartbeats 4000000 in
set_option maxRecDepth 100000 in
theorem k_Formula_join_L206 (l : Launch) {p : Program} {e : Env} {s : State} {m : MethodId} {below : List Frame} {meth : Method} {c : Code} {b n : Nat} {C : CT} (hlo : 191 ≤ n) (x1 : Int) (x2 : Int64) (x3 : Int64) (hx1 : InR x1) (F : Cx b p m c b_Formula_join 5 s ([vI x1, .long x2, .long x3] : List Value).toArray "WardFalls$Formula" C n 191) (hlk : meth.locks = false) (hr : meth.sig.returnType = some .long) {res : Int64} (M : Mem) (v0_ : Int) (hv0_ : v0_ = 0 ∨ v0_ = 1) (H : Heap) (locs : List Loc) (ls : Array Slot) (hS : St b C n M s H locs) (hl : lv_has ls 5 []) (hT : t_Formula_join_L206 x1 x2 x3 M v0_ = some res) : W p l e (headSpec (wsM y_Formula_join b_Formula_join 5 (some .long)) (rmD 2)).room s m ([vI x1, .long x2, .long x3] : List Value).toArray below meth c H locs 0 0 (MQ below (QL b C n M res) ([vI x1, .long x2, .long x3] : List Value).toArray s 0 0 (frb b)) (F0 m 206 ls [vI v0_]) := by
  unfold t_Formula_join_L206 at hT
  obtain ⟨q53, hq53⟩ : ∃ q, q = (t_Formula_asBit M v0_) := ⟨_, rfl⟩
  replace hT := qlet_eq hT hq53
  refine r_backL F hS (r_runS (As := [vI v0_]) F hS (c_Formula_asBit l F.2.2.1 M v0_ (inr_z hv0_) _ hq53.symm) gs_Formula_107 hd_Formula_asBit ⟨Nat.le_of_ble_eq_true rfl, Nat.le_of_ble_eq_true rfl⟩ rfl hl.1 (Nat.le_of_ble_eq_true rfl) ⟨Nat.zero_le _, Nat.zero_le _⟩ rfl d_Formula_join_206) (fun H locs hS => ?_)
  cases hT
  exact r_lret F hlk hr hS d_Formula_join_209
set_option maxHeartbeats 4000000 in
set_option maxRecDepth 100000 in
theorem k_Formula_join_L205 (l : Launch) {p : Program} {e : Env} {s : State} {m : MethodId} {below : List Frame} {meth : Method} {c : Code} {b n : Nat} {C : CT} (hlo : 191 ≤ n) (x1 : Int) (x2 : Int64) (x3 : Int64) (hx1 : InR x1) (F : Cx b p m c b_Formula_join 5 s ([vI x1, .long x2, .long x3] : List Value).toArray "WardFalls$Formula" C n 191) (hlk : meth.locks = false) (hr : meth.sig.returnType = some .long) {res : Int64} (M : Mem)  (H : Heap) (locs : List Loc) (ls : Array Slot) (hS : St b C n M s H locs) (hl : lv_has ls 5 []) (hT : t_Formula_join_L205 x1 x2 x3 M = some res) : W p l e (headSpec (wsM y_Formula_join b_Formula_join 5 (some .long)) (rmD 2)).room s m ([vI x1, .long x2, .long x3] : List Value).toArray below meth c H locs 0 0 (MQ below (QL b C n M res) ([vI x1, .long x2, .long x3] : List Value).toArray s 0 0 (frb b)) (F0 m 205 ls []) := by
  unfold t_Formula_join_L205 at hT
  refine r_iconst F.hx F.hb d_Formula_join_205 ?_
  exact k_Formula_join_L206 l hlo x1 x2 x3 hx1 F hlk hr M 0 (Or.inl rfl) _ _ _ hS (lv_sub hl [] rfl) hT
set_option maxHeartbeats 4000000 in
set_option maxRecDepth 100000 in
theorem k_Formula_join_L221 (l : Launch) {p : Program} {e : Env} {s : State} {m : MethodId} {below : List Frame} {meth : Method} {c : Code} {b n : Nat} {C : CT} (hlo : 191 ≤ n) (x1 : Int) (x2 : Int64) (x3 : Int64) (hx1 : InR x1) (F : Cx b p m c b_Formula_join 5 s ([vI x1, .long x2, .long x3] : List Value).toArray "WardFalls$Formula" C n 191) (hlk : meth.locks = false) (hr : meth.sig.returnType = some .long) {res : Int64} (M : Mem) (v0_ : Int) (hv0_ : v0_ = 0 ∨ v0_ = 1) (H : Heap) (locs : List Loc) (ls : Array Slot) (hS : St b C n M s H locs) (hl : lv_has ls 5 []) (hT : t_Formula_join_L221 x1 x2 x3 M v0_ = some res) : W p l e (headSpec (wsM y_Formula_join b_Formula_join 5 (some .long)) (rmD 2)).room s m ([vI x1, .long x2, .long x3] : List Value).toArray below meth c H locs 0 0 (MQ below (QL b C n M res) ([vI x1, .long x2, .long x3] : List Value).toArray s 0 0 (frb b)) (F0 m 221 ls [vI v0_]) := by
  unfold t_Formula_join_L221 at hT
  obtain ⟨q56, hq56⟩ : ∃ q, q = (t_Formula_asBit M v0_) := ⟨_, rfl⟩
  replace hT := qlet_eq hT hq56
  refine r_backL F hS (r_runS (As := [vI v0_]) F hS (c_Formula_asBit l F.2.2.1 M v0_ (inr_z hv0_) _ hq56.symm) gs_Formula_107 hd_Formula_asBit ⟨Nat.le_of_ble_eq_true rfl, Nat.le_of_ble_eq_true rfl⟩ rfl hl.1 (Nat.le_of_ble_eq_true rfl) ⟨Nat.zero_le _, Nat.zero_le _⟩ rfl d_Formula_join_221) (fun H locs hS => ?_)
  cases hT
  exact r_lret F hlk hr hS d_Formula_join_224
set_option maxHeartbeats 4000000 in
set_option maxRecDepth 100000 in
theorem k_Formula_join_L236 (l : Launch) {p : Program} {e : Env} {s : State} {m : MethodId} {below : List Frame} {meth : Method} {c : Code} {b n : Nat} {C : CT} (hlo : 191 ≤ n) (x1 : Int) (x2 : Int64) (x3 : Int64) (hx1 : InR x1) (F : Cx b p m c b_Formula_join 5 s ([vI x1, .long x2, .long x3] : List Value).toArray "WardFalls$Formula" C n 191) (hlk : meth.locks = false) (hr : meth.sig.returnType = some .long) {res : Int64} (M : Mem) (v0_ : Int) (hv0_ : v0_ = 0 ∨ v0_ = 1) (H : Heap) (locs : List Loc) (ls : Array Slot) (hS : St b C n M s H locs) (hl : lv_has ls 5 []) (hT : t_Formula_join_L236 x1 x2 x3 M v0_ = some res) : W p l e (headSpec (wsM y_Formula_join b_Formula_join 5 (some .long)) (rmD 2)).room s m ([vI x1, .long x2, .long x3] : List Value).toArray below meth c H locs 0 0 (MQ below (QL b C n M res) ([vI x1, .long x2, .long x3] : List Value).toArray s 0 0 (frb b)) (F0 m 236 ls [vI v0_]) := by
  unfold t_Formula_join_L236 at hT
  obtain ⟨q58, hq58⟩ : ∃ q, q = (t_Formula_asBit M v0_) := ⟨_, rfl⟩
  replace hT := qlet_eq hT hq58
  refine r_backL F hS (r_runS (As := [vI v0_]) F hS (c_Formula_asBit l F.2.2.1 M v0_ (inr_z hv0_) _ hq58.symm) gs_Formula_107 hd_Formula_asBit ⟨Nat.le_of_ble_eq_true rfl, Nat.le_of_ble_eq_true rfl⟩ rfl hl.1 (Nat.le_of_ble_eq_true rfl) ⟨Nat.zero_le _, Nat.zero_le _⟩ rfl d_Formula_join_236) (fun H locs hS => ?_)
  cases hT
  exact r_lret F hlk hr hS d_Formula_join_239
set_option maxHeartbeats 4000000 in
set_option maxRecDepth 100000 in
theorem k_Formula_join_L251 (l : Launch) {p : Program} {e : Env} {s : State} {m : MethodId} {below : List Frame} {meth : Method} {c : Code} {b n : Nat} {C : CT} (hlo : 191 ≤ n) (x1 : Int) (x2 : Int64) (x3 : Int64) (hx1 : InR x1) (F : Cx b p m c b_Formula_join 5 s ([vI x1, .long x2, .long x3] : List Value).toArray "WardFalls$Formula" C n 191) (hlk : meth.locks = false) (hr : meth.sig.returnType = some .long) {res : Int64} (M : Mem) (v0_ : Int) (hv0_ : v0_ = 0 ∨ v0_ = 1) (H : Heap) (locs : List Loc) (ls : Array Slot) (hS : St b C n M s H locs) (hl : lv_has ls 5 []) (hT : t_Formula_join_L251 x1 x2 x3 M v0_ = some res) : W p l e (headSpec (wsM y_Formula_join b_Formula_join 5 (some .long)) (rmD 2)).room s m ([vI x1, .long x2, .long x3] : List Value).toArray below meth c H locs 0 0 (MQ below (QL b C n M res) ([vI x1, .long x2, .long x3] : List Value).toArray s 0 0 (frb b)) (F0 m 251 ls [vI v0_]) := by
  unfold t_Formula_join_L251 at hT
  obtain ⟨q60, hq60⟩ : ∃ q, q = (t_Formula_asBit M v0_) := ⟨_, rfl⟩
  replace hT := qlet_eq hT hq60
  refine r_backL F hS (r_runS (As := [vI v0_]) F hS (c_Formula_asBit l F.2.2.1 M v0_ (inr_z hv0_) _ hq60.symm) gs_Formula_107 hd_Formula_asBit ⟨Nat.le_of_ble_eq_true rfl, Nat.le_of_ble_eq_true rfl⟩ rfl hl.1 (Nat.le_of_ble_eq_true rfl) ⟨Nat.zero_le _, Nat.zero_le _⟩ rfl d_Formula_join_251) (fun H locs hS => ?_)
  cases hT
  exact r_lret F hlk hr hS d_Formula_join_254
set_option maxHeartbeats 4000000 in
set_option maxRecDepth 100000 in
theorem k_Formula_join_L266 (l : Launch) {p : Program} {e : Env} {s : State} {m : MethodId} {below : List Frame} {meth : Method} {c : Code} {b n : Nat} {C : CT} (hlo : 191 ≤ n) (x1 : Int) (x2 : Int64) (x3 : Int64) (hx1 : InR x1) (F : Cx b p m c b_Formula_join 5 s ([vI x1, .long x2, .long x3] : List Value).toArray "WardFalls$Formula" C n 191) (hlk : meth.locks = false) (hr : meth.sig.returnType = some .long) {res : Int64} (M : Mem) (v0_ : Int) (hv0_ : v0_ = 0 ∨ v0_ = 1) (H : Heap) (locs : List Loc) (ls : Array Slot) (hS : St b C n M s H locs) (hl : lv_has ls 5 []) (hT : t_Formula_join_L266 x1 x2 x3 M v0_ = some res) : W p l e (headSpec (wsM y_Formula_join b_Formula_join 5 (some .long)) (rmD 2)).room s m ([vI x1, .long x2, .long x3] : List Value).toArray below meth c H locs 0 0 (MQ below (QL b C n M res) ([vI x1, .long x2, .long x3] : List Value).toArray s 0 0 (frb b)) (F0 m 266 ls [vI v0_]) := by
  unfold t_Formula_join_L266 at hT
  obtain ⟨q62, hq62⟩ : ∃ q, q = (t_Formula_asBit M v0_) := ⟨_, rfl⟩
  replace hT := qlet_eq hT hq62
  refine r_backL F hS (r_runS (As := [vI v0_]) F hS (c_Formula_asBit l F.2.2.1 M v0_ (inr_z hv0_) _ hq62.symm) gs_Formula_107 hd_Formula_asBit ⟨Nat.le_of_ble_eq_true rfl, Nat.le_of_ble_eq_true rfl⟩ rfl hl.1 (Nat.le_of_ble_eq_true rfl) ⟨Nat.zero_le _, Nat.zero_le _⟩ rfl d_Formula_join_266) (fun H locs hS => ?_)
  cases hT
  exact r_lret F hlk hr hS d_Formula_join_269
set_option maxHeartbeats 4000000 in
set_option maxRecDepth 100000 in
theorem k_Formula_join_L281 (l : Launch) {p : Program} {e : Env} {s : State} {m : MethodId} {below : List Frame} {meth : Method} {c : Code} {b n : Nat} {C : CT} (hlo : 191 ≤ n) (x1 : Int) (x2 : Int64) (x3 : Int64) (hx1 : InR x1) (F : Cx b p m c b_Formula_join 5 s ([vI x1, .long x2, .long x3] : List Value).toArray "WardFalls$Formula" C n 191) (hlk : meth.locks = false) (hr : meth.sig.returnType = some .long) {res : Int64} (M : Mem) (v0_ : Int) (hv0_ : v0_ = 0 ∨ v0_ = 1) (H : Heap) (locs : List Loc) (ls : Array Slot) (hS : St b C n M s H locs) (hl : lv_has ls 5 []) (hT : t_Formula_join_L281 x1 x2 x3 M v0_ = some res) : W p l e (headSpec (wsM y_Formula_join b_Formula_join 5 (some .long)) (rmD 2)).room s m ([vI x1, .long x2, .long x3] : List Value).toArray below meth c H locs 0 0 (MQ below (QL b C n M res) ([vI x1, .long x2, .long x3] : List Value).toArray s 0 0 (frb b)) (F0 m 281 ls [vI v0_]) := by
  unfold t_Formula_join_L281 at hT
  obtain ⟨q64, hq64⟩ : ∃ q, q = (t_Formula_asBit M v0_) := ⟨_, rfl⟩
  replace hT := qlet_eq hT hq64
  refine r_backL F hS (r_runS (As := [vI v0_]) F hS (c_Formula_asBit l F.2.2.1 M v0_ (inr_z hv0_) _ hq64.symm) gs_Formula_107 hd_Formula_asBit ⟨Nat.le_of_ble_eq_true rfl, Nat.le_of_ble_eq_true rfl⟩ rfl hl.1 (Nat.le_of_ble_eq_true rfl) ⟨Nat.zero_le _, Nat.zero_le _⟩ rfl d_Formula_join_281) (fun H locs hS => ?_)
  cases hT
  exact r_lret F hlk hr hS d_Formula_join_284
set_option maxHeartbeats 4000000 in
set_option maxRecDepth 100000 in
theorem k_Formula_join_L296 (l : Launch) {p : Program} {e : Env} {s : State} {m : MethodId} {below : List Frame} {meth : Method} {c : Code} {b n : Nat} {C : CT} (hlo : 191 ≤ n) (x1 : Int) (x2 : Int64) (x3 : Int64) (hx1 : InR x1) (F : Cx b p m c b_Formula_join 5 s ([vI x1, .long x2, .long x3] : List Value).toArray "WardFalls$Formula" C n 191) (hlk : meth.locks = false) (hr : meth.sig.returnType = some .long) {res : Int64} (M : Mem) (v0_ : Int) (hv0_ : v0_ = 0 ∨ v0_ = 1) (H : Heap) (locs : List Loc) (ls : Array Slot) (hS : St b C n M s H locs) (hl : lv_has ls 5 []) (hT : t_Formula_join_L296 x1 x2 x3 M v0_ = some res) : W p l e (headSpec (wsM y_Formula_join b_Formula_join 5 (some .long)) (rmD 2)).room s m ([vI x1, .long x2, .long x3] : List Value).toArray below meth c H locs 0 0 (MQ below (QL b C n M res) ([vI x1, .long x2, .long x3] : List Value).toArray s 0 0 (frb b)) (F0 m 296 ls [vI v0_]) := by
  unfold t_Formula_join_L296 at hT
  obtain ⟨q66, hq66⟩ : ∃ q, q = (t_Formula_asBit M v0_) := ⟨_, rfl⟩
  replace hT := qlet_eq hT hq66
  refine r_backL F hS (r_runS (As := [vI v0_]) F hS (c_Formula_asBit l F.2.2.1 M v0_ (inr_z hv0_) _ hq66.symm) gs_Formula_107 hd_Formula_asBit ⟨Nat.le_of_ble_eq_true rfl, Nat.le_of_ble_eq_true rfl⟩ rfl hl.1 (Nat.le_of_ble_eq_true rfl) ⟨Nat.zero_le _, Nat.zero_le _⟩ rfl d_Formula_join_296) (fun H locs hS => ?_)
  cases hT
  exact r_lret F hlk hr hS d_Formula_join_299
set_option maxHeartbeats 4000000 in
set_option maxRecDepth 100000 in
theorem k_Formula_join_L314 (l : Launch) {p : Program} {e : Env} {s : State} {m : MethodId} {below : List Frame} {meth : Method} {c : Code} {b n : Nat} {C : CT} (hlo : 191 ≤ n) (x1 : Int) (x2 : Int64) (x3 : Int64) (hx1 : InR x1) (F : Cx b p m c b_Formula_join 5 s ([vI x1, .long x2, .long x3] : List Value).toArray "WardFalls$Formula" C n 191) (hlk : meth.locks = false) (hr : meth.sig.returnType = some .long) {res : Int64} (M : Mem)  (H : Heap) (locs : List Loc) (ls : Array Slot) (hS : St b C n M s H locs) (hl : lv_has ls 5 [(1, .long x2), (3, .long x3)]) (hT : t_Formula_join_L314 x1 x2 x3 M = some res) : W p l e (headSpec (wsM y_Formula_join b_Formula_join 5 (some .long)) (rmD 2)).room s m ([vI x1, .long x2, .long x3] : List Value).toArray below meth c H locs 0 0 (MQ below (QL b C n M res) ([vI x1, .long x2, .long x3] : List Value).toArray s 0 0 (frb b)) (F0 m 314 ls []) := by
  unfold t_Formula_join_L314 at hT
  refine lv_lload_n F.hx F.hb d_Formula_join_314 rfl (lv_at hl 1 rfl) ?_
  refine lv_lconst (v := 0) F.hx F.hb d_Formula_join_315 rfl ?_
  refine W.lcmp F.hx F.hb d_Formula_join_316 ?_
  refine r_lif_ne (tgt := 326) F.hx F.hb  d_Formula_join_317 (by decide) (fun c55 => ?_) (fun c55 => ?_)
  · replace hT := (if_neg c55).symm.trans hT
    refine lv_lload_n F.hx F.hb d_Formula_join_326 rfl (lv_at hl 0 rfl) ?_
    refine lv_lload_n F.hx F.hb d_Formula_join_327 rfl (lv_at hl 1 rfl) ?_
    refine lv_ldiv F.hx F.hb d_Formula_join_328 c55 ?_
    cases hT
    exact r_lret F hlk hr hS d_Formula_join_329
  · replace hT := (if_pos c55).symm.trans hT
    refine lv_ldc2 (v := (-9223372036854775808)) F.hx F.hb F.hown (F.hts mw_902) d_Formula_join_320 ?_
    refine lv_goto (tgt := 329) F.hx F.hb d_Formula_join_323 (by decide) ?_
    cases hT
    exact r_lret F hlk hr hS d_Formula_join_329
set_option maxHeartbeats 4000000 in
set_option maxRecDepth 100000 in
theorem c_Formula_join (l : Launch) {b n : Nat} {C : CT} (hlo : 191 ≤ n) (M : Mem) (x1 : Int) (x2 : Int64) (x3 : Int64) (hx1 : InR x1) (res : Int64) (hT : t_Formula_join M x1 x2 x3 = some res) : CM l b C n 2 y_Formula_join b_Formula_join 5 (some .long) [vI x1, .long x2, .long x3] M (QL b C n M res) := by
  refine CM.of (lo := 191) (ow := "WardFalls$Formula") (by decide) rfl (Nat.le_of_ble_eq_true rfl) hlo (fun p e s m below meth c F hlk hr hS ls hl => ?_)
  have hl : lv_has ls 5 [(0, vI x1), (1, .long x2), (3, .long x3)] := hl
  unfold t_Formula_join at hT
  refine lv_iload_n F.hx F.hb d_Formula_join_0 rfl (lv_at hl 0 rfl) ?_
  rcases q_ite hT with ⟨c1, hT⟩ | ⟨c1, hT⟩
  · refine r_tableIn (i := 15) (tgt := 168) F.hx F.hb hx1 c1 d_Formula_join_1 (by decide) (by decide) rfl (by decide) ?_
    refine lv_lload_n F.hx F.hb d_Formula_join_168 rfl (lv_at hl 1 rfl) ?_
    refine lv_lconst (v := 0) F.hx F.hb d_Formula_join_169 rfl ?_
    refine W.lcmp F.hx F.hb d_Formula_join_170 ?_
    refine r_lif_ne (tgt := 180) F.hx F.hb  d_Formula_join_171 (by decide) (fun c2 => ?_) (fun c2 => ?_)
    · replace hT := (if_neg c2).symm.trans hT
      exact k_Formula_join_L180 l hlo x1 x2 x3 hx1 F hlk hr M _ _ _ hS (lv_sub hl [] rfl) hT
    · replace hT := (if_pos c2).symm.trans hT
      refine lv_lload_n F.hx F.hb d_Formula_join_174 rfl (lv_at hl 2 rfl) ?_
      refine lv_lconst (v := 0) F.hx F.hb d_Formula_join_175 rfl ?_
      refine W.lcmp F.hx F.hb d_Formula_join_176 ?_
      refine r_lif_eq (tgt := 184) F.hx F.hb  d_Formula_join_177 (by decide) (fun c3 => ?_) (fun c3 => ?_)
      · replace hT := (if_pos c3).symm.trans hT
        refine r_iconst F.hx F.hb d_Formula_join_184 ?_
        exact k_Formula_join_L185 l hlo x1 x2 x3 hx1 F hlk hr M 0 (Or.inl rfl) _ _ _ hS (lv_sub hl [] rfl) hT
      · replace hT := (if_neg c3).symm.trans hT
        exact k_Formula_join_L180 l hlo x1 x2 x3 hx1 F hlk hr M _ _ _ hS (lv_sub hl [] rfl) hT
  ·
    rcases q_ite hT with ⟨c4, hT⟩ | ⟨c4, hT⟩
    · refine r_tableIn (i := 16) (tgt := 189) F.hx F.hb hx1 c4 d_Formula_join_1 (by decide) (by decide) rfl (by decide) ?_
      refine lv_lload_n F.hx F.hb d_Formula_join_189 rfl (lv_at hl 1 rfl) ?_
      refine lv_lconst (v := 0) F.hx F.hb d_Formula_join_190 rfl ?_
      refine W.lcmp F.hx F.hb d_Formula_join_191 ?_
      refine r_lif_eq (tgt := 205) F.hx F.hb  d_Formula_join_192 (by decide) (fun c5 => ?_) (fun c5 => ?_)
      · replace hT := (if_pos c5).symm.trans hT
        exact k_Formula_join_L205 l hlo x1 x2 x3 hx1 F hlk hr M _ _ _ hS (lv_sub hl [] rfl) hT
      · replace hT := (if_neg c5).symm.trans hT
        refine lv_lload_n F.hx F.hb d_Formula_join_195 rfl (lv_at hl 2 rfl) ?_
        refine lv_lconst (v := 0) F.hx F.hb d_Formula_join_196 rfl ?_
        refine W.lcmp F.hx F.hb d_Formula_join_197 ?_
        refine r_lif_eq (tgt := 205) F.hx F.hb  d_Formula_join_198 (by decide) (fun c6 => ?_) (fun c6 => ?_)
        · replace hT := (if_pos c6).symm.trans hT
          exact k_Formula_join_L205 l hlo x1 x2 x3 hx1 F hlk hr M _ _ _ hS (lv_sub hl [] rfl) hT
        · replace hT := (if_neg c6).symm.trans hT
          refine r_iconst F.hx F.hb d_Formula_join_201 ?_
          refine lv_goto (tgt := 206) F.hx F.hb d_Formula_join_202 (by decide) ?_
          exact k_Formula_join_L206 l hlo x1 x2 x3 hx1 F hlk hr M 1 (Or.inr rfl) _ _ _ hS (lv_sub hl [] rfl) hT
    ·
      rcases q_ite hT with ⟨c7, hT⟩ | ⟨c7, hT⟩
      · refine r_tableIn (i := 17) (tgt := 314) F.hx F.hb hx1 c7 d_Formula_join_1 (by decide) (by decide) rfl (by decide) ?_
        exact k_Formula_join_L314 l hlo x1 x2 x3 hx1 F hlk hr M _ _ _ hS (lv_sub hl [1, 2] rfl) hT
      ·
        rcases q_ite hT with ⟨c8, hT⟩ | ⟨c8, hT⟩
        · refine r_tableIn (i := 18) (tgt := 314) F.hx F.hb hx1 c8 d_Formula_join_1 (by decide) (by decide) rfl (by decide) ?_
          exact k_Formula_join_L314 l hlo x1 x2 x3 hx1 F hlk hr M _ _ _ hS (lv_sub hl [1, 2] rfl) hT
        ·
          rcases q_ite hT with ⟨c9, hT⟩ | ⟨c9, hT⟩
          · refine r_tableIn (i := 19) (tgt := 314) F.hx F.hb hx1 c9 d_Formula_join_1 (by decide) (by decide) rfl (by decide) ?_
            exact k_Formula_join_L314 l hlo x1 x2 x3 hx1 F hlk hr M _ _ _ hS (lv_sub hl [1, 2] rfl) hT
          ·
            rcases q_ite hT with ⟨c10, hT⟩ | ⟨c10, hT⟩
            · refine r_tableIn (i := 20) (tgt := 314) F.hx F.hb hx1 c10 d_Formula_join_1 (by decide) (by decide) rfl (by decide) ?_
              exact k_Formula_join_L314 l hlo x1 x2 x3 hx1 F hlk hr M _ _ _ hS (lv_sub hl [1, 2] rfl) hT
            ·
              rcases q_ite hT with ⟨c11, hT⟩ | ⟨c11, hT⟩
              · refine r_tableIn (i := 21) (tgt := 314) F.hx F.hb hx1 c11 d_Formula_join_1 (by decide) (by decide) rfl (by decide) ?_
                exact k_Formula_join_L314 l hlo x1 x2 x3 hx1 F hlk hr M _ _ _ hS (lv_sub hl [1, 2] rfl) hT
              ·
                rcases q_ite hT with ⟨c12, hT⟩ | ⟨c12, hT⟩
                · refine r_tableIn (i := 22) (tgt := 314) F.hx F.hb hx1 c12 d_Formula_join_1 (by decide) (by decide) rfl (by decide) ?_
                  exact k_Formula_join_L314 l hlo x1 x2 x3 hx1 F hlk hr M _ _ _ hS (lv_sub hl [1, 2] rfl) hT
                ·
                  rcases q_ite hT with ⟨c13, hT⟩ | ⟨c13, hT⟩
                  · refine r_tableIn (i := 23) (tgt := 314) F.hx F.hb hx1 c13 d_Formula_join_1 (by decide) (by decide) rfl (by decide) ?_
                    exact k_Formula_join_L314 l hlo x1 x2 x3 hx1 F hlk hr M _ _ _ hS (lv_sub hl [1, 2] rfl) hT
                  ·
                    rcases q_ite hT with ⟨c14, hT⟩ | ⟨c14, hT⟩
                    · refine r_tableIn (i := 24) (tgt := 314) F.hx F.hb hx1 c14 d_Formula_join_1 (by decide) (by decide) rfl (by decide) ?_
                      exact k_Formula_join_L314 l hlo x1 x2 x3 hx1 F hlk hr M _ _ _ hS (lv_sub hl [1, 2] rfl) hT
                    ·
                      rcases q_ite hT with ⟨c15, hT⟩ | ⟨c15, hT⟩
                      · refine r_tableIn (i := 25) (tgt := 314) F.hx F.hb hx1 c15 d_Formula_join_1 (by decide) (by decide) rfl (by decide) ?_
                        exact k_Formula_join_L314 l hlo x1 x2 x3 hx1 F hlk hr M _ _ _ hS (lv_sub hl [1, 2] rfl) hT
                      ·
                        rcases q_ite hT with ⟨c16, hT⟩ | ⟨c16, hT⟩
                        · refine r_tableIn (i := 26) (tgt := 314) F.hx F.hb hx1 c16 d_Formula_join_1 (by decide) (by decide) rfl (by decide) ?_
                          exact k_Formula_join_L314 l hlo x1 x2 x3 hx1 F hlk hr M _ _ _ hS (lv_sub hl [1, 2] rfl) hT
                        ·
                          rcases q_ite hT with ⟨c17, hT⟩ | ⟨c17, hT⟩
                          · refine r_tableIn (i := 27) (tgt := 314) F.hx F.hb hx1 c17 d_Formula_join_1 (by decide) (by decide) rfl (by decide) ?_
                            exact k_Formula_join_L314 l hlo x1 x2 x3 hx1 F hlk hr M _ _ _ hS (lv_sub hl [1, 2] rfl) hT
                          ·
                            rcases q_ite hT with ⟨c18, hT⟩ | ⟨c18, hT⟩
                            · refine r_tableIn (i := 28) (tgt := 314) F.hx F.hb hx1 c18 d_Formula_join_1 (by decide) (by decide) rfl (by decide) ?_
                              exact k_Formula_join_L314 l hlo x1 x2 x3 hx1 F hlk hr M _ _ _ hS (lv_sub hl [1, 2] rfl) hT
                            ·
                              rcases q_ite hT with ⟨c19, hT⟩ | ⟨c19, hT⟩
                              · refine r_tableIn (i := 29) (tgt := 314) F.hx F.hb hx1 c19 d_Formula_join_1 (by decide) (by decide) rfl (by decide) ?_
                                exact k_Formula_join_L314 l hlo x1 x2 x3 hx1 F hlk hr M _ _ _ hS (lv_sub hl [1, 2] rfl) hT
                              ·
                                rcases q_ite hT with ⟨c20, hT⟩ | ⟨c20, hT⟩
                                · refine r_tableIn (i := 30) (tgt := 314) F.hx F.hb hx1 c20 d_Formula_join_1 (by decide) (by decide) rfl (by decide) ?_
                                  exact k_Formula_join_L314 l hlo x1 x2 x3 hx1 F hlk hr M _ _ _ hS (lv_sub hl [1, 2] rfl) hT
                                ·
                                  rcases q_ite hT with ⟨c21, hT⟩ | ⟨c21, hT⟩
                                  · refine r_tableIn (i := 31) (tgt := 314) F.hx F.hb hx1 c21 d_Formula_join_1 (by decide) (by decide) rfl (by decide) ?_
                                    exact k_Formula_join_L314 l hlo x1 x2 x3 hx1 F hlk hr M _ _ _ hS (lv_sub hl [1, 2] rfl) hT
                                  ·
                                    rcases q_ite hT with ⟨c22, hT⟩ | ⟨c22, hT⟩
                                    · refine r_tableIn (i := 32) (tgt := 314) F.hx F.hb hx1 c22 d_Formula_join_1 (by decide) (by decide) rfl (by decide) ?_
                                      exact k_Formula_join_L314 l hlo x1 x2 x3 hx1 F hlk hr M _ _ _ hS (lv_sub hl [1, 2] rfl) hT
                                    ·
                                      rcases q_ite hT with ⟨c23, hT⟩ | ⟨c23, hT⟩
                                      · refine r_tableIn (i := 33) (tgt := 314) F.hx F.hb hx1 c23 d_Formula_join_1 (by decide) (by decide) rfl (by decide) ?_
                                        exact k_Formula_join_L314 l hlo x1 x2 x3 hx1 F hlk hr M _ _ _ hS (lv_sub hl [1, 2] rfl) hT
                                      ·
                                        rcases q_ite hT with ⟨c24, hT⟩ | ⟨c24, hT⟩
                                        · refine r_tableIn (i := 34) (tgt := 314) F.hx F.hb hx1 c24 d_Formula_join_1 (by decide) (by decide) rfl (by decide) ?_
                                          exact k_Formula_join_L314 l hlo x1 x2 x3 hx1 F hlk hr M _ _ _ hS (lv_sub hl [1, 2] rfl) hT
                                        ·
                                          rcases q_ite hT with ⟨c25, hT⟩ | ⟨c25, hT⟩
                                          · refine r_tableIn (i := 35) (tgt := 314) F.hx F.hb hx1 c25 d_Formula_join_1 (by decide) (by decide) rfl (by decide) ?_
                                            exact k_Formula_join_L314 l hlo x1 x2 x3 hx1 F hlk hr M _ _ _ hS (lv_sub hl [1, 2] rfl) hT
                                          ·
                                            rcases q_ite hT with ⟨c26, hT⟩ | ⟨c26, hT⟩
                                            · refine r_tableIn (i := 36) (tgt := 314) F.hx F.hb hx1 c26 d_Formula_join_1 (by decide) (by decide) rfl (by decide) ?_
                                              exact k_Formula_join_L314 l hlo x1 x2 x3 hx1 F hlk hr M _ _ _ hS (lv_sub hl [1, 2] rfl) hT
                                            ·
                                              rcases q_ite hT with ⟨c27, hT⟩ | ⟨c27, hT⟩
                                              · refine r_tableIn (i := 37) (tgt := 314) F.hx F.hb hx1 c27 d_Formula_join_1 (by decide) (by decide) rfl (by decide) ?_
                                                exact k_Formula_join_L314 l hlo x1 x2 x3 hx1 F hlk hr M _ _ _ hS (lv_sub hl [1, 2] rfl) hT
                                              ·
                                                rcases q_ite hT with ⟨c28, hT⟩ | ⟨c28, hT⟩
                                                · refine r_tableIn (i := 38) (tgt := 314) F.hx F.hb hx1 c28 d_Formula_join_1 (by decide) (by decide) rfl (by decide) ?_
                                                  exact k_Formula_join_L314 l hlo x1 x2 x3 hx1 F hlk hr M _ _ _ hS (lv_sub hl [1, 2] rfl) hT
                                                ·
                                                  rcases q_ite hT with ⟨c29, hT⟩ | ⟨c29, hT⟩
                                                  · refine r_tableIn (i := 39) (tgt := 314) F.hx F.hb hx1 c29 d_Formula_join_1 (by decide) (by decide) rfl (by decide) ?_
                                                    exact k_Formula_join_L314 l hlo x1 x2 x3 hx1 F hlk hr M _ _ _ hS (lv_sub hl [1, 2] rfl) hT
                                                  ·
                                                    rcases q_ite hT with ⟨c30, hT⟩ | ⟨c30, hT⟩
                                                    · refine r_tableIn (i := 40) (tgt := 314) F.hx F.hb hx1 c30 d_Formula_join_1 (by decide) (by decide) rfl (by decide) ?_
                                                      exact k_Formula_join_L314 l hlo x1 x2 x3 hx1 F hlk hr M _ _ _ hS (lv_sub hl [1, 2] rfl) hT
                                                    ·
                                                      rcases q_ite hT with ⟨c31, hT⟩ | ⟨c31, hT⟩
                                                      · refine r_tableIn (i := 41) (tgt := 314) F.hx F.hb hx1 c31 d_Formula_join_1 (by decide) (by decide) rfl (by decide) ?_
                                                        exact k_Formula_join_L314 l hlo x1 x2 x3 hx1 F hlk hr M _ _ _ hS (lv_sub hl [1, 2] rfl) hT
                                                      ·
                                                        rcases q_ite hT with ⟨c32, hT⟩ | ⟨c32, hT⟩
                                                        · refine r_tableIn (i := 42) (tgt := 314) F.hx F.hb hx1 c32 d_Formula_join_1 (by decide) (by decide) rfl (by decide) ?_
                                                          exact k_Formula_join_L314 l hlo x1 x2 x3 hx1 F hlk hr M _ _ _ hS (lv_sub hl [1, 2] rfl) hT
                                                        ·
                                                          rcases q_ite hT with ⟨c33, hT⟩ | ⟨c33, hT⟩
                                                          · refine r_tableIn (i := 43) (tgt := 300) F.hx F.hb hx1 c33 d_Formula_join_1 (by decide) (by decide) rfl (by decide) ?_
                                                            refine lv_lload_n F.hx F.hb d_Formula_join_300 rfl (lv_at hl 1 rfl) ?_
                                                            refine lv_lload_n F.hx F.hb d_Formula_join_301 rfl (lv_at hl 2 rfl) ?_
                                                            refine lv_ladd F.hx F.hb d_Formula_join_302 ?_
                                                            cases hT
                                                            exact r_lret F hlk hr hS d_Formula_join_303
                                                          ·
                                                            rcases q_ite hT with ⟨c34, hT⟩ | ⟨c34, hT⟩
                                                            · refine r_tableIn (i := 44) (tgt := 304) F.hx F.hb hx1 c34 d_Formula_join_1 (by decide) (by decide) rfl (by decide) ?_
                                                              refine lv_lload_n F.hx F.hb d_Formula_join_304 rfl (lv_at hl 1 rfl) ?_
                                                              refine lv_lload_n F.hx F.hb d_Formula_join_305 rfl (lv_at hl 2 rfl) ?_
                                                              refine lv_lsub F.hx F.hb d_Formula_join_306 ?_
                                                              cases hT
                                                              exact r_lret F hlk hr hS d_Formula_join_307
                                                            ·
                                                              rcases q_ite hT with ⟨c35, hT⟩ | ⟨c35, hT⟩
                                                              · refine r_tableIn (i := 45) (tgt := 308) F.hx F.hb hx1 c35 d_Formula_join_1 (by decide) (by decide) rfl (by decide) ?_
                                                                refine lv_lload_n F.hx F.hb d_Formula_join_308 rfl (lv_at hl 1 rfl) ?_
                                                                refine lv_lload_n F.hx F.hb d_Formula_join_309 rfl (lv_at hl 2 rfl) ?_
                                                                obtain ⟨q36, hq36, hT⟩ := q_obind hT
                                                                refine r_backL F hS (r_runS (As := [.long x2, .long x3]) F hS (c_Formula_product l F.2.2.1 M x2 x3 _ hq36) gs_Formula_119 hd_Formula_product ⟨Nat.le_of_ble_eq_true rfl, Nat.le_of_ble_eq_true rfl⟩ rfl hl.1 (Nat.le_of_ble_eq_true rfl) ⟨Nat.zero_le _, Nat.zero_le _⟩ rfl d_Formula_join_310) (fun H locs hS => ?_)
                                                                cases hT
                                                                exact r_lret F hlk hr hS d_Formula_join_313
                                                              ·
                                                                rcases q_ite hT with ⟨c38, hT⟩ | ⟨c38, hT⟩
                                                                · refine r_tableIn (i := 46) (tgt := 314) F.hx F.hb hx1 c38 d_Formula_join_1 (by decide) (by decide) rfl (by decide) ?_
                                                                  exact k_Formula_join_L314 l hlo x1 x2 x3 hx1 F hlk hr M _ _ _ hS (lv_sub hl [1, 2] rfl) hT
                                                                ·
                                                                  rcases q_ite hT with ⟨c39, hT⟩ | ⟨c39, hT⟩
                                                                  · refine r_tableIn (i := 47) (tgt := 210) F.hx F.hb hx1 c39 d_Formula_join_1 (by decide) (by decide) rfl (by decide) ?_
                                                                    refine lv_lload_n F.hx F.hb d_Formula_join_210 rfl (lv_at hl 1 rfl) ?_
                                                                    refine lv_lload_n F.hx F.hb d_Formula_join_211 rfl (lv_at hl 2 rfl) ?_
                                                                    refine W.lcmp F.hx F.hb d_Formula_join_212 ?_
                                                                    refine r_lif_ge (tgt := 220) F.hx F.hb  d_Formula_join_213 (by decide) (fun c40 => ?_) (fun c40 => ?_)
                                                                    · replace hT := (if_pos c40).symm.trans hT
                                                                      refine r_iconst F.hx F.hb d_Formula_join_220 ?_
                                                                      exact k_Formula_join_L221 l hlo x1 x2 x3 hx1 F hlk hr M 0 (Or.inl rfl) _ _ _ hS (lv_sub hl [] rfl) hT
                                                                    · replace hT := (if_neg c40).symm.trans hT
                                                                      refine r_iconst F.hx F.hb d_Formula_join_216 ?_
                                                                      refine lv_goto (tgt := 221) F.hx F.hb d_Formula_join_217 (by decide) ?_
                                                                      exact k_Formula_join_L221 l hlo x1 x2 x3 hx1 F hlk hr M 1 (Or.inr rfl) _ _ _ hS (lv_sub hl [] rfl) hT
                                                                  ·
                                                                    rcases q_ite hT with ⟨c41, hT⟩ | ⟨c41, hT⟩
                                                                    · refine r_tableIn (i := 48) (tgt := 225) F.hx F.hb hx1 c41 d_Formula_join_1 (by decide) (by decide) rfl (by decide) ?_
                                                                      refine lv_lload_n F.hx F.hb d_Formula_join_225 rfl (lv_at hl 1 rfl) ?_
                                                                      refine lv_lload_n F.hx F.hb d_Formula_join_226 rfl (lv_at hl 2 rfl) ?_
                                                                      refine W.lcmp F.hx F.hb d_Formula_join_227 ?_
                                                                      refine r_lif_gt (tgt := 235) F.hx F.hb  d_Formula_join_228 (by decide) (fun c42 => ?_) (fun c42 => ?_)
                                                                      · replace hT := (if_pos c42).symm.trans hT
                                                                        refine r_iconst F.hx F.hb d_Formula_join_235 ?_
                                                                        exact k_Formula_join_L236 l hlo x1 x2 x3 hx1 F hlk hr M 0 (Or.inl rfl) _ _ _ hS (lv_sub hl [] rfl) hT
                                                                      · replace hT := (if_neg c42).symm.trans hT
                                                                        refine r_iconst F.hx F.hb d_Formula_join_231 ?_
                                                                        refine lv_goto (tgt := 236) F.hx F.hb d_Formula_join_232 (by decide) ?_
                                                                        exact k_Formula_join_L236 l hlo x1 x2 x3 hx1 F hlk hr M 1 (Or.inr rfl) _ _ _ hS (lv_sub hl [] rfl) hT
                                                                    ·
                                                                      rcases q_ite hT with ⟨c43, hT⟩ | ⟨c43, hT⟩
                                                                      · refine r_tableIn (i := 49) (tgt := 240) F.hx F.hb hx1 c43 d_Formula_join_1 (by decide) (by decide) rfl (by decide) ?_
                                                                        refine lv_lload_n F.hx F.hb d_Formula_join_240 rfl (lv_at hl 1 rfl) ?_
                                                                        refine lv_lload_n F.hx F.hb d_Formula_join_241 rfl (lv_at hl 2 rfl) ?_
                                                                        refine W.lcmp F.hx F.hb d_Formula_join_242 ?_
                                                                        refine r_lif_ne (tgt := 250) F.hx F.hb  d_Formula_join_243 (by decide) (fun c44 => ?_) (fun c44 => ?_)
                                                                        · replace hT := (if_neg c44).symm.trans hT
                                                                          refine r_iconst F.hx F.hb d_Formula_join_250 ?_
                                                                          exact k_Formula_join_L251 l hlo x1 x2 x3 hx1 F hlk hr M 0 (Or.inl rfl) _ _ _ hS (lv_sub hl [] rfl) hT
                                                                        · replace hT := (if_pos c44).symm.trans hT
                                                                          refine r_iconst F.hx F.hb d_Formula_join_246 ?_
                                                                          refine lv_goto (tgt := 251) F.hx F.hb d_Formula_join_247 (by decide) ?_
                                                                          exact k_Formula_join_L251 l hlo x1 x2 x3 hx1 F hlk hr M 1 (Or.inr rfl) _ _ _ hS (lv_sub hl [] rfl) hT
                                                                      ·
                                                                        rcases q_ite hT with ⟨c45, hT⟩ | ⟨c45, hT⟩
                                                                        · refine r_tableIn (i := 50) (tgt := 255) F.hx F.hb hx1 c45 d_Formula_join_1 (by decide) (by decide) rfl (by decide) ?_
                                                                          refine lv_lload_n F.hx F.hb d_Formula_join_255 rfl (lv_at hl 1 rfl) ?_
                                                                          refine lv_lload_n F.hx F.hb d_Formula_join_256 rfl (lv_at hl 2 rfl) ?_
                                                                          refine W.lcmp F.hx F.hb d_Formula_join_257 ?_
                                                                          refine r_lif_eq (tgt := 265) F.hx F.hb  d_Formula_join_258 (by decide) (fun c46 => ?_) (fun c46 => ?_)
                                                                          · replace hT := (if_pos c46).symm.trans hT
                                                                            refine r_iconst F.hx F.hb d_Formula_join_265 ?_
                                                                            exact k_Formula_join_L266 l hlo x1 x2 x3 hx1 F hlk hr M 0 (Or.inl rfl) _ _ _ hS (lv_sub hl [] rfl) hT
                                                                          · replace hT := (if_neg c46).symm.trans hT
                                                                            refine r_iconst F.hx F.hb d_Formula_join_261 ?_
                                                                            refine lv_goto (tgt := 266) F.hx F.hb d_Formula_join_262 (by decide) ?_
                                                                            exact k_Formula_join_L266 l hlo x1 x2 x3 hx1 F hlk hr M 1 (Or.inr rfl) _ _ _ hS (lv_sub hl [] rfl) hT
                                                                        ·
                                                                          rcases q_ite hT with ⟨c47, hT⟩ | ⟨c47, hT⟩
                                                                          · refine r_tableIn (i := 51) (tgt := 270) F.hx F.hb hx1 c47 d_Formula_join_1 (by decide) (by decide) rfl (by decide) ?_
                                                                            refine lv_lload_n F.hx F.hb d_Formula_join_270 rfl (lv_at hl 1 rfl) ?_
                                                                            refine lv_lload_n F.hx F.hb d_Formula_join_271 rfl (lv_at hl 2 rfl) ?_
                                                                            refine W.lcmp F.hx F.hb d_Formula_join_272 ?_
                                                                            refine r_lif_lt (tgt := 280) F.hx F.hb  d_Formula_join_273 (by decide) (fun c48 => ?_) (fun c48 => ?_)
                                                                            · replace hT := (if_pos c48).symm.trans hT
                                                                              refine r_iconst F.hx F.hb d_Formula_join_280 ?_
                                                                              exact k_Formula_join_L281 l hlo x1 x2 x3 hx1 F hlk hr M 0 (Or.inl rfl) _ _ _ hS (lv_sub hl [] rfl) hT
                                                                            · replace hT := (if_neg c48).symm.trans hT
                                                                              refine r_iconst F.hx F.hb d_Formula_join_276 ?_
                                                                              refine lv_goto (tgt := 281) F.hx F.hb d_Formula_join_277 (by decide) ?_
                                                                              exact k_Formula_join_L281 l hlo x1 x2 x3 hx1 F hlk hr M 1 (Or.inr rfl) _ _ _ hS (lv_sub hl [] rfl) hT
                                                                          ·
                                                                            rcases q_ite hT with ⟨c49, hT⟩ | ⟨c49, hT⟩
                                                                            · refine r_tableIn (i := 52) (tgt := 285) F.hx F.hb hx1 c49 d_Formula_join_1 (by decide) (by decide) rfl (by decide) ?_
                                                                              refine lv_lload_n F.hx F.hb d_Formula_join_285 rfl (lv_at hl 1 rfl) ?_
                                                                              refine lv_lload_n F.hx F.hb d_Formula_join_286 rfl (lv_at hl 2 rfl) ?_
                                                                              refine W.lcmp F.hx F.hb d_Formula_join_287 ?_
                                                                              refine r_lif_le (tgt := 295) F.hx F.hb  d_Formula_join_288 (by decide) (fun c50 => ?_) (fun c50 => ?_)
                                                                              · replace hT := (if_pos c50).symm.trans hT
                                                                                refine r_iconst F.hx F.hb d_Formula_join_295 ?_
                                                                                exact k_Formula_join_L296 l hlo x1 x2 x3 hx1 F hlk hr M 0 (Or.inl rfl) _ _ _ hS (lv_sub hl [] rfl) hT
                                                                              · replace hT := (if_neg c50).symm.trans hT
                                                                                refine r_iconst F.hx F.hb d_Formula_join_291 ?_
                                                                                refine lv_goto (tgt := 296) F.hx F.hb d_Formula_join_292 (by decide) ?_
                                                                                exact k_Formula_join_L296 l hlo x1 x2 x3 hx1 F hlk hr M 1 (Or.inr rfl) _ _ _ hS (lv_sub hl [] rfl) hT
                                                                            ·
                                                                              refine r_tableOut (tgt := 314) F.hx F.hb hx1 (by omega) d_Formula_join_1 (by decide) ?_
                                                                              exact k_Formula_join_L314 l hlo x1 x2 x3 hx1 F hlk hr M _ _ _ hS (lv_sub hl [1, 2] rfl) hT
