section
theorem wn_Laws_measure_0 : ∀ i, i < 96 → bA b_Laws_measure (0 + i) = wB [42, 180, 0, 15, 3, 184, 0, 35, 42, 180, 0, 19, 3, 184, 0, 35, 42, 180, 0, 22, 3, 184, 0, 35, 3, 62, 29, 43, 180, 0, 41, 162, 0, 120, 42, 180, 0, 28, 43, 44, 44, 180, 0, 47, 29, 184, 0, 52, 182, 0, 56, 43, 42, 180, 0, 28, 182, 0, 60, 182, 0, 64, 54, 4, 42, 180, 0, 15, 21, 4, 42, 180, 0, 15, 21, 4, 184, 0, 52, 4, 96, 184, 0, 68, 42, 180, 0, 19, 21, 4, 42, 180, 0, 19, 21, 4] i := wB_of (by decide +kernel)
theorem d_Laws_measure_0 : decode b_Laws_measure 0 = .ok (.aload_n 0, 1) := dc_42 (q0_win (r := 0) wn_Laws_measure_0 (by decide +kernel))
theorem d_Laws_measure_1 : decode b_Laws_measure 1 = .ok (.getfield 15, 3) := dc_180 (qU2_win (r := 1) wn_Laws_measure_0 (by decide +kernel))
theorem d_Laws_measure_4 : decode b_Laws_measure 4 = .ok (.iconst 0, 1) := dc_3 (q0_win (r := 4) wn_Laws_measure_0 (by decide +kernel))
theorem d_Laws_measure_5 : decode b_Laws_measure 5 = .ok (.invokestatic 35, 3) := dc_184 (qU2_win (r := 5) wn_Laws_measure_0 (by decide +kernel))
theorem d_Laws_measure_8 : decode b_Laws_measure 8 = .ok (.aload_n 0, 1) := dc_42 (q0_win (r := 8) wn_Laws_measure_0 (by decide +kernel))
theorem d_Laws_measure_9 : decode b_Laws_measure 9 = .ok (.getfield 19, 3) := dc_180 (qU2_win (r := 9) wn_Laws_measure_0 (by decide +kernel))
theorem d_Laws_measure_12 : decode b_Laws_measure 12 = .ok (.iconst 0, 1) := dc_3 (q0_win (r := 12) wn_Laws_measure_0 (by decide +kernel))
theorem d_Laws_measure_13 : decode b_Laws_measure 13 = .ok (.invokestatic 35, 3) := dc_184 (qU2_win (r := 13) wn_Laws_measure_0 (by decide +kernel))
theorem d_Laws_measure_16 : decode b_Laws_measure 16 = .ok (.aload_n 0, 1) := dc_42 (q0_win (r := 16) wn_Laws_measure_0 (by decide +kernel))
theorem d_Laws_measure_17 : decode b_Laws_measure 17 = .ok (.getfield 22, 3) := dc_180 (qU2_win (r := 17) wn_Laws_measure_0 (by decide +kernel))
theorem d_Laws_measure_20 : decode b_Laws_measure 20 = .ok (.iconst 0, 1) := dc_3 (q0_win (r := 20) wn_Laws_measure_0 (by decide +kernel))
theorem d_Laws_measure_21 : decode b_Laws_measure 21 = .ok (.invokestatic 35, 3) := dc_184 (qU2_win (r := 21) wn_Laws_measure_0 (by decide +kernel))
theorem d_Laws_measure_24 : decode b_Laws_measure 24 = .ok (.iconst 0, 1) := dc_3 (q0_win (r := 24) wn_Laws_measure_0 (by decide +kernel))
theorem d_Laws_measure_25 : decode b_Laws_measure 25 = .ok (.istore_n 3, 1) := dc_62 (q0_win (r := 25) wn_Laws_measure_0 (by decide +kernel))
theorem d_Laws_measure_26 : decode b_Laws_measure 26 = .ok (.iload_n 3, 1) := dc_29 (q0_win (r := 26) wn_Laws_measure_0 (by decide +kernel))
theorem d_Laws_measure_27 : decode b_Laws_measure 27 = .ok (.aload_n 1, 1) := dc_43 (q0_win (r := 27) wn_Laws_measure_0 (by decide +kernel))
theorem d_Laws_measure_28 : decode b_Laws_measure 28 = .ok (.getfield 41, 3) := dc_180 (qU2_win (r := 28) wn_Laws_measure_0 (by decide +kernel))
theorem d_Laws_measure_31 : decode b_Laws_measure 31 = .ok (.if_icmp .ge 120, 3) := dc_162 (qS2_win (r := 31) wn_Laws_measure_0 (by decide +kernel))
theorem d_Laws_measure_34 : decode b_Laws_measure 34 = .ok (.aload_n 0, 1) := dc_42 (q0_win (r := 34) wn_Laws_measure_0 (by decide +kernel))
theorem d_Laws_measure_35 : decode b_Laws_measure 35 = .ok (.getfield 28, 3) := dc_180 (qU2_win (r := 35) wn_Laws_measure_0 (by decide +kernel))
theorem d_Laws_measure_38 : decode b_Laws_measure 38 = .ok (.aload_n 1, 1) := dc_43 (q0_win (r := 38) wn_Laws_measure_0 (by decide +kernel))
theorem d_Laws_measure_39 : decode b_Laws_measure 39 = .ok (.aload_n 2, 1) := dc_44 (q0_win (r := 39) wn_Laws_measure_0 (by decide +kernel))
theorem d_Laws_measure_40 : decode b_Laws_measure 40 = .ok (.aload_n 2, 1) := dc_44 (q0_win (r := 40) wn_Laws_measure_0 (by decide +kernel))
theorem d_Laws_measure_41 : decode b_Laws_measure 41 = .ok (.getfield 47, 3) := dc_180 (qU2_win (r := 41) wn_Laws_measure_0 (by decide +kernel))
theorem d_Laws_measure_44 : decode b_Laws_measure 44 = .ok (.iload_n 3, 1) := dc_29 (q0_win (r := 44) wn_Laws_measure_0 (by decide +kernel))
theorem d_Laws_measure_45 : decode b_Laws_measure 45 = .ok (.invokestatic 52, 3) := dc_184 (qU2_win (r := 45) wn_Laws_measure_0 (by decide +kernel))
theorem d_Laws_measure_48 : decode b_Laws_measure 48 = .ok (.invokevirtual 56, 3) := dc_182 (qU2_win (r := 48) wn_Laws_measure_0 (by decide +kernel))
theorem d_Laws_measure_51 : decode b_Laws_measure 51 = .ok (.aload_n 1, 1) := dc_43 (q0_win (r := 51) wn_Laws_measure_0 (by decide +kernel))
theorem d_Laws_measure_52 : decode b_Laws_measure 52 = .ok (.aload_n 0, 1) := dc_42 (q0_win (r := 52) wn_Laws_measure_0 (by decide +kernel))
theorem d_Laws_measure_53 : decode b_Laws_measure 53 = .ok (.getfield 28, 3) := dc_180 (qU2_win (r := 53) wn_Laws_measure_0 (by decide +kernel))
theorem d_Laws_measure_56 : decode b_Laws_measure 56 = .ok (.invokevirtual 60, 3) := dc_182 (qU2_win (r := 56) wn_Laws_measure_0 (by decide +kernel))
theorem d_Laws_measure_59 : decode b_Laws_measure 59 = .ok (.invokevirtual 64, 3) := dc_182 (qU2_win (r := 59) wn_Laws_measure_0 (by decide +kernel))
theorem d_Laws_measure_62 : decode b_Laws_measure 62 = .ok (.istore 4, 2) := dc_54 (qU1_win (r := 62) wn_Laws_measure_0 (by decide +kernel))
theorem d_Laws_measure_64 : decode b_Laws_measure 64 = .ok (.aload_n 0, 1) := dc_42 (q0_win (r := 64) wn_Laws_measure_0 (by decide +kernel))
theorem d_Laws_measure_65 : decode b_Laws_measure 65 = .ok (.getfield 15, 3) := dc_180 (qU2_win (r := 65) wn_Laws_measure_0 (by decide +kernel))
theorem d_Laws_measure_68 : decode b_Laws_measure 68 = .ok (.iload 4, 2) := dc_21 (qU1_win (r := 68) wn_Laws_measure_0 (by decide +kernel))
theorem d_Laws_measure_70 : decode b_Laws_measure 70 = .ok (.aload_n 0, 1) := dc_42 (q0_win (r := 70) wn_Laws_measure_0 (by decide +kernel))
theorem d_Laws_measure_71 : decode b_Laws_measure 71 = .ok (.getfield 15, 3) := dc_180 (qU2_win (r := 71) wn_Laws_measure_0 (by decide +kernel))
theorem d_Laws_measure_74 : decode b_Laws_measure 74 = .ok (.iload 4, 2) := dc_21 (qU1_win (r := 74) wn_Laws_measure_0 (by decide +kernel))
theorem d_Laws_measure_76 : decode b_Laws_measure 76 = .ok (.invokestatic 52, 3) := dc_184 (qU2_win (r := 76) wn_Laws_measure_0 (by decide +kernel))
theorem d_Laws_measure_79 : decode b_Laws_measure 79 = .ok (.iconst 1, 1) := dc_4 (q0_win (r := 79) wn_Laws_measure_0 (by decide +kernel))
theorem d_Laws_measure_80 : decode b_Laws_measure 80 = .ok (.iadd, 1) := dc_96 (q0_win (r := 80) wn_Laws_measure_0 (by decide +kernel))
theorem d_Laws_measure_81 : decode b_Laws_measure 81 = .ok (.invokestatic 68, 3) := dc_184 (qU2_win (r := 81) wn_Laws_measure_0 (by decide +kernel))
theorem d_Laws_measure_84 : decode b_Laws_measure 84 = .ok (.aload_n 0, 1) := dc_42 (q0_win (r := 84) wn_Laws_measure_0 (by decide +kernel))
theorem d_Laws_measure_85 : decode b_Laws_measure 85 = .ok (.getfield 19, 3) := dc_180 (qU2_win (r := 85) wn_Laws_measure_0 (by decide +kernel))
theorem d_Laws_measure_88 : decode b_Laws_measure 88 = .ok (.iload 4, 2) := dc_21 (qU1_win (r := 88) wn_Laws_measure_0 (by decide +kernel))
theorem d_Laws_measure_90 : decode b_Laws_measure 90 = .ok (.aload_n 0, 1) := dc_42 (q0_win (r := 90) wn_Laws_measure_0 (by decide +kernel))
theorem d_Laws_measure_91 : decode b_Laws_measure 91 = .ok (.getfield 19, 3) := dc_180 (qU2_win (r := 91) wn_Laws_measure_0 (by decide +kernel))
theorem d_Laws_measure_94 : decode b_Laws_measure 94 = .ok (.iload 4, 2) := dc_21 (qU1_win (r := 94) wn_Laws_measure_0 (by decide +kernel))
theorem wn_Laws_measure_96 : ∀ i, i < 56 → bA b_Laws_measure (96 + i) = wB [184, 0, 52, 43, 180, 0, 72, 29, 184, 0, 52, 96, 184, 0, 68, 42, 180, 0, 22, 21, 4, 42, 180, 0, 22, 21, 4, 184, 0, 52, 42, 180, 0, 28, 180, 0, 73, 158, 0, 7, 4, 167, 0, 4, 3, 96, 184, 0, 68, 132, 3, 1, 167, 255, 134, 177] i := wB_of (by decide +kernel)
theorem d_Laws_measure_96 : decode b_Laws_measure 96 = .ok (.invokestatic 52, 3) := dc_184 (qU2_win (r := 0) wn_Laws_measure_96 (by decide +kernel))
theorem d_Laws_measure_99 : decode b_Laws_measure 99 = .ok (.aload_n 1, 1) := dc_43 (q0_win (r := 3) wn_Laws_measure_96 (by decide +kernel))
theorem d_Laws_measure_100 : decode b_Laws_measure 100 = .ok (.getfield 72, 3) := dc_180 (qU2_win (r := 4) wn_Laws_measure_96 (by decide +kernel))
theorem d_Laws_measure_103 : decode b_Laws_measure 103 = .ok (.iload_n 3, 1) := dc_29 (q0_win (r := 7) wn_Laws_measure_96 (by decide +kernel))
theorem d_Laws_measure_104 : decode b_Laws_measure 104 = .ok (.invokestatic 52, 3) := dc_184 (qU2_win (r := 8) wn_Laws_measure_96 (by decide +kernel))
theorem d_Laws_measure_107 : decode b_Laws_measure 107 = .ok (.iadd, 1) := dc_96 (q0_win (r := 11) wn_Laws_measure_96 (by decide +kernel))
theorem d_Laws_measure_108 : decode b_Laws_measure 108 = .ok (.invokestatic 68, 3) := dc_184 (qU2_win (r := 12) wn_Laws_measure_96 (by decide +kernel))
theorem d_Laws_measure_111 : decode b_Laws_measure 111 = .ok (.aload_n 0, 1) := dc_42 (q0_win (r := 15) wn_Laws_measure_96 (by decide +kernel))
theorem d_Laws_measure_112 : decode b_Laws_measure 112 = .ok (.getfield 22, 3) := dc_180 (qU2_win (r := 16) wn_Laws_measure_96 (by decide +kernel))
theorem d_Laws_measure_115 : decode b_Laws_measure 115 = .ok (.iload 4, 2) := dc_21 (qU1_win (r := 19) wn_Laws_measure_96 (by decide +kernel))
theorem d_Laws_measure_117 : decode b_Laws_measure 117 = .ok (.aload_n 0, 1) := dc_42 (q0_win (r := 21) wn_Laws_measure_96 (by decide +kernel))
theorem d_Laws_measure_118 : decode b_Laws_measure 118 = .ok (.getfield 22, 3) := dc_180 (qU2_win (r := 22) wn_Laws_measure_96 (by decide +kernel))
theorem d_Laws_measure_121 : decode b_Laws_measure 121 = .ok (.iload 4, 2) := dc_21 (qU1_win (r := 25) wn_Laws_measure_96 (by decide +kernel))
theorem d_Laws_measure_123 : decode b_Laws_measure 123 = .ok (.invokestatic 52, 3) := dc_184 (qU2_win (r := 27) wn_Laws_measure_96 (by decide +kernel))
theorem d_Laws_measure_126 : decode b_Laws_measure 126 = .ok (.aload_n 0, 1) := dc_42 (q0_win (r := 30) wn_Laws_measure_96 (by decide +kernel))
theorem d_Laws_measure_127 : decode b_Laws_measure 127 = .ok (.getfield 28, 3) := dc_180 (qU2_win (r := 31) wn_Laws_measure_96 (by decide +kernel))
theorem d_Laws_measure_130 : decode b_Laws_measure 130 = .ok (.getfield 73, 3) := dc_180 (qU2_win (r := 34) wn_Laws_measure_96 (by decide +kernel))
theorem d_Laws_measure_133 : decode b_Laws_measure 133 = .ok (.ifCond .le 7, 3) := dc_158 (qS2_win (r := 37) wn_Laws_measure_96 (by decide +kernel))
theorem d_Laws_measure_136 : decode b_Laws_measure 136 = .ok (.iconst 1, 1) := dc_4 (q0_win (r := 40) wn_Laws_measure_96 (by decide +kernel))
theorem d_Laws_measure_137 : decode b_Laws_measure 137 = .ok (.goto 4, 3) := dc_167 (qS2_win (r := 41) wn_Laws_measure_96 (by decide +kernel))
theorem d_Laws_measure_140 : decode b_Laws_measure 140 = .ok (.iconst 0, 1) := dc_3 (q0_win (r := 44) wn_Laws_measure_96 (by decide +kernel))
theorem d_Laws_measure_141 : decode b_Laws_measure 141 = .ok (.iadd, 1) := dc_96 (q0_win (r := 45) wn_Laws_measure_96 (by decide +kernel))
theorem d_Laws_measure_142 : decode b_Laws_measure 142 = .ok (.invokestatic 68, 3) := dc_184 (qU2_win (r := 46) wn_Laws_measure_96 (by decide +kernel))
theorem d_Laws_measure_145 : decode b_Laws_measure 145 = .ok (.iinc 3 1, 3) := dc_132 (qI_win (r := 49) wn_Laws_measure_96 (by decide +kernel))
theorem d_Laws_measure_148 : decode b_Laws_measure 148 = .ok (.goto (-122), 3) := dc_167 (qS2_win (r := 52) wn_Laws_measure_96 (by decide +kernel))
theorem d_Laws_measure_151 : decode b_Laws_measure 151 = .ok (.return_, 1) := dc_177 (q0_win (r := 55) wn_Laws_measure_96 (by decide +kernel))
def t_Laws_measure_L141 (k1 : Nat) (k2 : Nat) (bk26 : Mem → Int → Option (Mem)) (M : Mem) (v3_ : Int) (v5_ : Int) (v6_ : Int) (v7_ : Int) : Option (Mem) := (qlet (t_WF_put M 181 4 v5_ (w32 (v6_ + v7_))) fun q31 => (bk26 q31 (w32 (v3_ + 1))))
def t_Laws_measure_L26 (k1 : Nat) (k2 : Nat)  : Nat → Mem → Int → Option (Mem)
  | 0, _, _ => none
  | fu + 1, M, v3_ => (if (M.1 k1 15) ≤ v3_ then (some M) else (qlet (t_WF_look M (k2 + 2) 8 v3_) fun q9 => (obind (t_Trail_follow M 182 k1 k2 q9) fun q11 => (qlet (t_Trail_end q11 182) fun q13 => (qlet (t_Town_ownerOf q11 k1 q13) fun q15 => (qlet (t_WF_look q11 179 4 q15) fun q17 => (qlet (t_WF_put q11 179 4 q15 (w32 (q17 + 1))) fun q19 => (qlet (t_WF_look q19 180 4 q15) fun q21 => (qlet (t_WF_look q19 (k1 + 6) 8 v3_) fun q23 => (qlet (t_WF_put q19 180 4 q15 (w32 (q21 + q23))) fun q25 => (qlet (t_WF_look q25 181 4 q15) fun q27 => (if (q25.1 182 4) ≤ 0 then (t_Laws_measure_L141 k1 k2 (fun a0_ a1_ => t_Laws_measure_L26 k1 k2 fu a0_ a1_) q25 v3_ q15 q27 0) else (t_Laws_measure_L141 k1 k2 (fun a0_ a1_ => t_Laws_measure_L26 k1 k2 fu a0_ a1_) q25 v3_ q15 q27 1)))))))))))))
def t_Laws_measure (M : Mem) (k1 : Nat) (k2 : Nat) : Option (Mem) := (obind (t_Arrays_fill M 179 4 0) fun q1 => (obind (t_Arrays_fill q1 180 4 0) fun q3 => (obind (t_Arrays_fill q3 181 4 0) fun q5 => (t_Laws_measure_L26 k1 k2 FU q5 0))))
set_option maxHeartbeats 4000000 in
set_option maxRecDepth 100000 in
theorem k_Laws_measure_L141 (l : Launch) {p : Program} {e : Env} {s : State} {m : MethodId} {below : List Frame} {meth : Method} {c : Code} {b n : Nat} {C : CT} (hlo : 191 ≤ n) (k1 : Nat) (k2 : Nat) (hk1 : isTown k1) (hk2 : isScene k2) (F : Cx b p m c b_Laws_measure 5 s ([.ref (b + 177), .ref (b + k1), .ref (b + k2)] : List Value).toArray "WardFalls$Laws" C n 191) (hlk : meth.locks = false) (hr : meth.sig.returnType = none) {res : Mem} (bk26 : Mem → Int → Option (Mem)) (hbk26 : ∀ (M : Mem) (v3_ : Int) (hv3_ : InR v3_) (H : Heap) (locs : List Loc) (ls : Array Slot), St b C n M s H locs → lv_has ls 5 [(0, .ref (b + 177)), (1, .ref (b + k1)), (2, .ref (b + k2)), (3, vI v3_)] → bk26 M v3_ = some res → W p l e (headSpec (wsM y_Laws_measure b_Laws_measure 5 (none)) (rmD 4)).room s m ([.ref (b + 177), .ref (b + k1), .ref (b + k2)] : List Value).toArray below meth c H locs 0 0 (MQ below (QV b C n res) ([.ref (b + 177), .ref (b + k1), .ref (b + k2)] : List Value).toArray s 0 0 (frb b)) (F0 m 26 ls [])) (M : Mem) (v3_ : Int) (hv3_ : InR v3_) (v5_ : Int) (hv5_ : InR v5_) (v6_ : Int) (hv6_ : InR v6_) (v7_ : Int) (hv7_ : v7_ = 0 ∨ v7_ = 1) (H : Heap) (locs : List Loc) (ls : Array Slot) (hS : St b C n M s H locs) (hl : lv_has ls 5 [(0, .ref (b + 177)), (1, .ref (b + k1)), (2, .ref (b + k2)), (3, vI v3_)]) (hT : t_Laws_measure_L141 k1 k2 bk26 M v3_ v5_ v6_ v7_ = some res) : W p l e (headSpec (wsM y_Laws_measure b_Laws_measure 5 (none)) (rmD 4)).room s m ([.ref (b + 177), .ref (b + k1), .ref (b + k2)] : List Value).toArray below meth c H locs 0 0 (MQ below (QV b C n res) ([.ref (b + 177), .ref (b + k1), .ref (b + k2)] : List Value).toArray s 0 0 (frb b)) (F0 m 141 ls [vI v7_, vI v6_, vI v5_, .ref (b + 181)]) := by
  unfold t_Laws_measure_L141 at hT
  refine r_iadd F.hx F.hb d_Laws_measure_141 ?_
  obtain ⟨q31, hq31⟩ : ∃ q, q = (t_WF_put M 181 4 v5_ (w32 (v6_ + v7_))) := ⟨_, rfl⟩
  replace hT := qlet_eq hT hq31
  refine r_backV F hS (r_runSN (As := [.ref (b + 181), vI v5_, vI (w32 (v6_ + v7_))]) F hS (c_WF_put l F.2.2.1 M 181 4 v5_ (w32 (v6_ + v7_)) (show arrP 0 181 4 191 from ⟨rfl, rfl, by decide⟩) hv5_ (inr_w32 _) _ hq31.symm) mw_512 mw_511 mw_1 gs_Laws_68 hd_WF_put ⟨Nat.le_of_ble_eq_true rfl, Nat.le_of_ble_eq_true rfl⟩ rfl hl.1 (Nat.le_of_ble_eq_true rfl) ⟨Nat.zero_le _, Nat.zero_le _⟩ rfl d_Laws_measure_142) (fun H locs hS => ?_)
  refine lv_iinc (v := Int32.ofInt (w32 (v3_ + 1))) (lv' := [(3, vI (w32 (v3_ + 1))), (0, .ref (b + 177)), (1, .ref (b + k1)), (2, .ref (b + k2))]) F.hx F.hb d_Laws_measure_145 hl (k := 3) rfl (q_of_add _ _) (Nat.le_of_ble_eq_true rfl) rfl (fun ls hl => ?_)
  refine lv_goto (tgt := 26) F.hx F.hb d_Laws_measure_148 (by decide) ?_
  exact hbk26 q31 (w32 (v3_ + 1)) (inr_w32 _) _ _ _ hS (lv_sub hl [1, 2, 3, 0] rfl) hT
set_option maxHeartbeats 4000000 in
set_option maxRecDepth 100000 in
theorem k_Laws_measure_L26 (l : Launch) {p : Program} {e : Env} {s : State} {m : MethodId} {below : List Frame} {meth : Method} {c : Code} {b n : Nat} {C : CT} (hlo : 191 ≤ n) (k1 : Nat) (k2 : Nat) (hk1 : isTown k1) (hk2 : isScene k2) (F : Cx b p m c b_Laws_measure 5 s ([.ref (b + 177), .ref (b + k1), .ref (b + k2)] : List Value).toArray "WardFalls$Laws" C n 191) (hlk : meth.locks = false) (hr : meth.sig.returnType = none) {res : Mem} : ∀ (fu : Nat) (M : Mem) (v3_ : Int) (hv3_ : InR v3_) (H : Heap) (locs : List Loc) (ls : Array Slot), St b C n M s H locs → lv_has ls 5 [(0, .ref (b + 177)), (1, .ref (b + k1)), (2, .ref (b + k2)), (3, vI v3_)] → t_Laws_measure_L26 k1 k2 fu M v3_ = some res → W p l e (headSpec (wsM y_Laws_measure b_Laws_measure 5 (none)) (rmD 4)).room s m ([.ref (b + 177), .ref (b + k1), .ref (b + k2)] : List Value).toArray below meth c H locs 0 0 (MQ below (QV b C n res) ([.ref (b + 177), .ref (b + k1), .ref (b + k2)] : List Value).toArray s 0 0 (frb b)) (F0 m 26 ls []) := by
  intro fu
  induction fu with
  | zero => intro M v3_ hv3_ H locs ls hS hl hT; exact absurd hT (by simp [t_Laws_measure_L26])
  | succ fu ih =>
    intro M v3_ hv3_ H locs ls hS hl hT
    rw [t_Laws_measure_L26] at hT
    refine lv_iload_n F.hx F.hb d_Laws_measure_26 rfl (lv_at hl 3 rfl) ?_
    refine lv_aload_n F.hx F.hb d_Laws_measure_27 rfl (lv_at hl 1 rfl) ?_
    refine r_get (v := vI (M.1 k1 15)) (N := 20) (T := T11) (j := 15) F hS (Town_lt hk1) (Town_sh hk1) (Town_N hk1) rfl (Nat.le_of_ble_eq_true rfl) ing11 mw_141 (fv_int rfl) d_Laws_measure_28 ?_
    have i7 := hS.rng k1 15
    refine r_icmp_ge (tgt := 151) F.hx F.hb hv3_ i7 d_Laws_measure_31 (by decide) (fun c8 => ?_) (fun c8 => ?_)
    · replace hT := (if_pos c8).symm.trans hT
      cases hT
      exact r_vret F hlk hr hS d_Laws_measure_151
    · replace hT := (if_neg c8).symm.trans hT
      refine lv_aload_n F.hx F.hb d_Laws_measure_34 rfl (lv_at hl 0 rfl) ?_
      refine r_get (v := .ref (b + 182)) (N := 9) (T := T4) (j := 4) F hS (show 177 < 191 by decide) (show shK 177 = 8 from rfl) (show shN 177 = 9 from rfl) rfl (Nat.le_of_ble_eq_true rfl) ing4 mw_442 (fv_sg rfl rfl rfl) d_Laws_measure_35 ?_
      refine lv_aload_n F.hx F.hb d_Laws_measure_38 rfl (lv_at hl 1 rfl) ?_
      refine lv_aload_n F.hx F.hb d_Laws_measure_39 rfl (lv_at hl 2 rfl) ?_
      refine lv_aload_n F.hx F.hb d_Laws_measure_40 rfl (lv_at hl 2 rfl) ?_
      refine r_get (v := .ref (b + (k2 + 2))) (N := 7) (T := T9) (j := 1) F hS (Scene_lt hk2) (Scene_sh hk2) (Scene_N hk2) rfl (Nat.le_of_ble_eq_true rfl) ing9 mw_279 (Scene_g1 hk2 _) d_Laws_measure_41 ?_
      refine lv_iload_n F.hx F.hb d_Laws_measure_44 rfl (lv_at hl 3 rfl) ?_
      obtain ⟨q9, hq9⟩ : ∃ q, q = (t_WF_look M (k2 + 2) 8 v3_) := ⟨_, rfl⟩
      replace hT := qlet_eq hT hq9
      refine r_backI F hS (r_runSN (As := [.ref (b + (k2 + 2)), vI v3_]) F hS (c_WF_look l F.2.2.1 M (k2 + 2) 8 v3_ (Scene_f1 hk2) hv3_ _ hq9.symm) mw_519 mw_518 mw_1 gs_Laws_52 hd_WF_look ⟨Nat.le_of_ble_eq_true rfl, Nat.le_of_ble_eq_true rfl⟩ rfl hl.1 (Nat.le_of_ble_eq_true rfl) ⟨Nat.zero_le _, Nat.zero_le _⟩ rfl d_Laws_measure_45) (fun H locs hS h10 => ?_)
      obtain ⟨q11, hq11, hT⟩ := q_obind hT
      refine r_backV F hS (r_runV (k := 182) (N := 9) (T := T12) (As := [.ref (b + k1), .ref (b + k2), vI q9]) F hS (show 182 < 191 by decide) (show shK 182 = 16 from rfl) rfl (c_Trail_follow l F.2.2.1 M 182 k1 k2 q9 (by decide : isTrail 182) hk1 hk2 h10 _ hq11) gs_Laws_56 hd_Trail_follow ⟨Nat.le_of_ble_eq_true rfl, Nat.le_of_ble_eq_true rfl⟩ rfl hl.1 (Nat.le_of_ble_eq_true rfl) ⟨Nat.zero_le _, Nat.zero_le _⟩ rfl d_Laws_measure_48) (fun H locs hS => ?_)
      refine lv_aload_n F.hx F.hb d_Laws_measure_51 rfl (lv_at hl 1 rfl) ?_
      refine lv_aload_n F.hx F.hb d_Laws_measure_52 rfl (lv_at hl 0 rfl) ?_
      refine r_get (v := .ref (b + 182)) (N := 9) (T := T4) (j := 4) F hS (show 177 < 191 by decide) (show shK 177 = 8 from rfl) (show shN 177 = 9 from rfl) rfl (Nat.le_of_ble_eq_true rfl) ing4 mw_442 (fv_sg rfl rfl rfl) d_Laws_measure_53 ?_
      obtain ⟨q13, hq13⟩ : ∃ q, q = (t_Trail_end q11 182) := ⟨_, rfl⟩
      replace hT := qlet_eq hT hq13
      refine r_backI F hS (r_runV (k := 182) (N := 9) (T := T12) (As := []) F hS (show 182 < 191 by decide) (show shK 182 = 16 from rfl) rfl (c_Trail_end l F.2.2.1 q11 182 (by decide : isTrail 182) _ hq13.symm) gs_Laws_60 hd_Trail_end ⟨Nat.le_of_ble_eq_true rfl, Nat.le_of_ble_eq_true rfl⟩ rfl hl.1 (Nat.le_of_ble_eq_true rfl) ⟨Nat.zero_le _, Nat.zero_le _⟩ rfl d_Laws_measure_56) (fun H locs hS h14 => ?_)
      obtain ⟨q15, hq15⟩ : ∃ q, q = (t_Town_ownerOf q11 k1 q13) := ⟨_, rfl⟩
      replace hT := qlet_eq hT hq15
      refine r_backI F hS (r_runV (k := k1) (N := 20) (T := T11) (As := [vI q13]) F hS (Town_lt hk1) (Town_sh hk1) rfl (c_Town_ownerOf l F.2.2.1 q11 k1 q13 hk1 h14 _ hq15.symm) gs_Laws_64 hd_Town_ownerOf ⟨Nat.le_of_ble_eq_true rfl, Nat.le_of_ble_eq_true rfl⟩ rfl hl.1 (Nat.le_of_ble_eq_true rfl) ⟨Nat.zero_le _, Nat.zero_le _⟩ rfl d_Laws_measure_59) (fun H locs hS h16 => ?_)
      refine lv_istore (lv' := [(4, vI q15), (0, .ref (b + 177)), (1, .ref (b + k1)), (2, .ref (b + k2)), (3, vI v3_)]) F.hx F.hb d_Laws_measure_62 hl (Nat.le_of_ble_eq_true rfl) rfl (fun ls hl => ?_)
      refine lv_aload_n F.hx F.hb d_Laws_measure_64 rfl (lv_at hl 1 rfl) ?_
      refine r_get (v := .ref (b + 179)) (N := 9) (T := T4) (j := 1) F hS (show 177 < 191 by decide) (show shK 177 = 8 from rfl) (show shN 177 = 9 from rfl) rfl (Nat.le_of_ble_eq_true rfl) ing4 mw_439 (fv_sg rfl rfl rfl) d_Laws_measure_65 ?_
      refine lv_iload F.hx F.hb d_Laws_measure_68 (lv_at hl 0 rfl) ?_
      refine lv_aload_n F.hx F.hb d_Laws_measure_70 rfl (lv_at hl 1 rfl) ?_
      refine r_get (v := .ref (b + 179)) (N := 9) (T := T4) (j := 1) F hS (show 177 < 191 by decide) (show shK 177 = 8 from rfl) (show shN 177 = 9 from rfl) rfl (Nat.le_of_ble_eq_true rfl) ing4 mw_439 (fv_sg rfl rfl rfl) d_Laws_measure_71 ?_
      refine lv_iload F.hx F.hb d_Laws_measure_74 (lv_at hl 0 rfl) ?_
      obtain ⟨q17, hq17⟩ : ∃ q, q = (t_WF_look q11 179 4 q15) := ⟨_, rfl⟩
      replace hT := qlet_eq hT hq17
      refine r_backI F hS (r_runSN (As := [.ref (b + 179), vI q15]) F hS (c_WF_look l F.2.2.1 q11 179 4 q15 (show arrP 0 179 4 191 from ⟨rfl, rfl, by decide⟩) h16 _ hq17.symm) mw_519 mw_518 mw_1 gs_Laws_52 hd_WF_look ⟨Nat.le_of_ble_eq_true rfl, Nat.le_of_ble_eq_true rfl⟩ rfl hl.1 (Nat.le_of_ble_eq_true rfl) ⟨Nat.zero_le _, Nat.zero_le _⟩ rfl d_Laws_measure_76) (fun H locs hS h18 => ?_)
      refine r_iconst F.hx F.hb d_Laws_measure_79 ?_
      refine r_iadd F.hx F.hb d_Laws_measure_80 ?_
      obtain ⟨q19, hq19⟩ : ∃ q, q = (t_WF_put q11 179 4 q15 (w32 (q17 + 1))) := ⟨_, rfl⟩
      replace hT := qlet_eq hT hq19
      refine r_backV F hS (r_runSN (As := [.ref (b + 179), vI q15, vI (w32 (q17 + 1))]) F hS (c_WF_put l F.2.2.1 q11 179 4 q15 (w32 (q17 + 1)) (show arrP 0 179 4 191 from ⟨rfl, rfl, by decide⟩) h16 (inr_w32 _) _ hq19.symm) mw_512 mw_511 mw_1 gs_Laws_68 hd_WF_put ⟨Nat.le_of_ble_eq_true rfl, Nat.le_of_ble_eq_true rfl⟩ rfl hl.1 (Nat.le_of_ble_eq_true rfl) ⟨Nat.zero_le _, Nat.zero_le _⟩ rfl d_Laws_measure_81) (fun H locs hS => ?_)
      refine lv_aload_n F.hx F.hb d_Laws_measure_84 rfl (lv_at hl 1 rfl) ?_
      refine r_get (v := .ref (b + 180)) (N := 9) (T := T4) (j := 2) F hS (show 177 < 191 by decide) (show shK 177 = 8 from rfl) (show shN 177 = 9 from rfl) rfl (Nat.le_of_ble_eq_true rfl) ing4 mw_440 (fv_sg rfl rfl rfl) d_Laws_measure_85 ?_
      refine lv_iload F.hx F.hb d_Laws_measure_88 (lv_at hl 0 rfl) ?_
      refine lv_aload_n F.hx F.hb d_Laws_measure_90 rfl (lv_at hl 1 rfl) ?_
      refine r_get (v := .ref (b + 180)) (N := 9) (T := T4) (j := 2) F hS (show 177 < 191 by decide) (show shK 177 = 8 from rfl) (show shN 177 = 9 from rfl) rfl (Nat.le_of_ble_eq_true rfl) ing4 mw_440 (fv_sg rfl rfl rfl) d_Laws_measure_91 ?_
      refine lv_iload F.hx F.hb d_Laws_measure_94 (lv_at hl 0 rfl) ?_
      obtain ⟨q21, hq21⟩ : ∃ q, q = (t_WF_look q19 180 4 q15) := ⟨_, rfl⟩
      replace hT := qlet_eq hT hq21
      refine r_backI F hS (r_runSN (As := [.ref (b + 180), vI q15]) F hS (c_WF_look l F.2.2.1 q19 180 4 q15 (show arrP 0 180 4 191 from ⟨rfl, rfl, by decide⟩) h16 _ hq21.symm) mw_519 mw_518 mw_1 gs_Laws_52 hd_WF_look ⟨Nat.le_of_ble_eq_true rfl, Nat.le_of_ble_eq_true rfl⟩ rfl hl.1 (Nat.le_of_ble_eq_true rfl) ⟨Nat.zero_le _, Nat.zero_le _⟩ rfl d_Laws_measure_96) (fun H locs hS h22 => ?_)
      refine lv_aload_n F.hx F.hb d_Laws_measure_99 rfl (lv_at hl 2 rfl) ?_
      refine r_get (v := .ref (b + (k1 + 6))) (N := 20) (T := T11) (j := 5) F hS (Town_lt hk1) (Town_sh hk1) (Town_N hk1) rfl (Nat.le_of_ble_eq_true rfl) ing11 mw_105 (Town_g5 hk1 _) d_Laws_measure_100 ?_
      refine lv_iload_n F.hx F.hb d_Laws_measure_103 rfl (lv_at hl 4 rfl) ?_
      obtain ⟨q23, hq23⟩ : ∃ q, q = (t_WF_look q19 (k1 + 6) 8 v3_) := ⟨_, rfl⟩
      replace hT := qlet_eq hT hq23
      refine r_backI F hS (r_runSN (As := [.ref (b + (k1 + 6)), vI v3_]) F hS (c_WF_look l F.2.2.1 q19 (k1 + 6) 8 v3_ (Town_f5 hk1) hv3_ _ hq23.symm) mw_519 mw_518 mw_1 gs_Laws_52 hd_WF_look ⟨Nat.le_of_ble_eq_true rfl, Nat.le_of_ble_eq_true rfl⟩ rfl hl.1 (Nat.le_of_ble_eq_true rfl) ⟨Nat.zero_le _, Nat.zero_le _⟩ rfl d_Laws_measure_104) (fun H locs hS h24 => ?_)
      refine r_iadd F.hx F.hb d_Laws_measure_107 ?_
      obtain ⟨q25, hq25⟩ : ∃ q, q = (t_WF_put q19 180 4 q15 (w32 (q21 + q23))) := ⟨_, rfl⟩
      replace hT := qlet_eq hT hq25
      refine r_backV F hS (r_runSN (As := [.ref (b + 180), vI q15, vI (w32 (q21 + q23))]) F hS (c_WF_put l F.2.2.1 q19 180 4 q15 (w32 (q21 + q23)) (show arrP 0 180 4 191 from ⟨rfl, rfl, by decide⟩) h16 (inr_w32 _) _ hq25.symm) mw_512 mw_511 mw_1 gs_Laws_68 hd_WF_put ⟨Nat.le_of_ble_eq_true rfl, Nat.le_of_ble_eq_true rfl⟩ rfl hl.1 (Nat.le_of_ble_eq_true rfl) ⟨Nat.zero_le _, Nat.zero_le _⟩ rfl d_Laws_measure_108) (fun H locs hS => ?_)
      refine lv_aload_n F.hx F.hb d_Laws_measure_111 rfl (lv_at hl 1 rfl) ?_
      refine r_get (v := .ref (b + 181)) (N := 9) (T := T4) (j := 3) F hS (show 177 < 191 by decide) (show shK 177 = 8 from rfl) (show shN 177 = 9 from rfl) rfl (Nat.le_of_ble_eq_true rfl) ing4 mw_441 (fv_sg rfl rfl rfl) d_Laws_measure_112 ?_
      refine lv_iload F.hx F.hb d_Laws_measure_115 (lv_at hl 0 rfl) ?_
      refine lv_aload_n F.hx F.hb d_Laws_measure_117 rfl (lv_at hl 1 rfl) ?_
      refine r_get (v := .ref (b + 181)) (N := 9) (T := T4) (j := 3) F hS (show 177 < 191 by decide) (show shK 177 = 8 from rfl) (show shN 177 = 9 from rfl) rfl (Nat.le_of_ble_eq_true rfl) ing4 mw_441 (fv_sg rfl rfl rfl) d_Laws_measure_118 ?_
      refine lv_iload F.hx F.hb d_Laws_measure_121 (lv_at hl 0 rfl) ?_
      obtain ⟨q27, hq27⟩ : ∃ q, q = (t_WF_look q25 181 4 q15) := ⟨_, rfl⟩
      replace hT := qlet_eq hT hq27
      refine r_backI F hS (r_runSN (As := [.ref (b + 181), vI q15]) F hS (c_WF_look l F.2.2.1 q25 181 4 q15 (show arrP 0 181 4 191 from ⟨rfl, rfl, by decide⟩) h16 _ hq27.symm) mw_519 mw_518 mw_1 gs_Laws_52 hd_WF_look ⟨Nat.le_of_ble_eq_true rfl, Nat.le_of_ble_eq_true rfl⟩ rfl hl.1 (Nat.le_of_ble_eq_true rfl) ⟨Nat.zero_le _, Nat.zero_le _⟩ rfl d_Laws_measure_123) (fun H locs hS h28 => ?_)
      refine lv_aload_n F.hx F.hb d_Laws_measure_126 rfl (lv_at hl 1 rfl) ?_
      refine r_get (v := .ref (b + 182)) (N := 9) (T := T4) (j := 4) F hS (show 177 < 191 by decide) (show shK 177 = 8 from rfl) (show shN 177 = 9 from rfl) rfl (Nat.le_of_ble_eq_true rfl) ing4 mw_442 (fv_sg rfl rfl rfl) d_Laws_measure_127 ?_
      refine r_get (v := vI (q25.1 182 4)) (N := 9) (T := T12) (j := 4) F hS (show 182 < 191 by decide) (show shK 182 = 16 from rfl) (show shN 182 = 9 from rfl) rfl (Nat.le_of_ble_eq_true rfl) ing12 mw_409 (fv_int rfl) d_Laws_measure_130 ?_
      have i29 := hS.rng 182 4
      refine r_if_le (tgt := 140) F.hx F.hb i29 d_Laws_measure_133 (by decide) (fun c30 => ?_) (fun c30 => ?_)
      · replace hT := (if_pos c30).symm.trans hT
        refine r_iconst F.hx F.hb d_Laws_measure_140 ?_
        exact k_Laws_measure_L141 l hlo k1 k2 hk1 hk2 F hlk hr (fun a0_ a1_ => t_Laws_measure_L26 k1 k2 fu a0_ a1_) ih q25 v3_ hv3_ q15 h16 q27 h28 0 (Or.inl rfl) _ _ _ hS (lv_sub hl [1, 2, 3, 4] rfl) hT
      · replace hT := (if_neg c30).symm.trans hT
        refine r_iconst F.hx F.hb d_Laws_measure_136 ?_
        refine lv_goto (tgt := 141) F.hx F.hb d_Laws_measure_137 (by decide) ?_
        exact k_Laws_measure_L141 l hlo k1 k2 hk1 hk2 F hlk hr (fun a0_ a1_ => t_Laws_measure_L26 k1 k2 fu a0_ a1_) ih q25 v3_ hv3_ q15 h16 q27 h28 1 (Or.inr rfl) _ _ _ hS (lv_sub hl [1, 2, 3, 4] rfl) hT
set_option maxHeartbeats 4000000 in
set_option maxRecDepth 100000 in
theorem c_Laws_measure (l : Launch) {b n : Nat} {C : CT} (hlo : 191 ≤ n) (M : Mem) (k1 : Nat) (k2 : Nat) (hk1 : isTown k1) (hk2 : isScene k2) (res : Mem) (hT : t_Laws_measure M k1 k2 = some res) : CM l b C n 4 y_Laws_measure b_Laws_measure 5 (none) [.ref (b + 177), .ref (b + k1), .ref (b + k2)] M (QV b C n res) := by
  refine CM.of (lo := 191) (ow := "WardFalls$Laws") (by decide) rfl (Nat.le_of_ble_eq_true rfl) hlo (fun p e s m below meth c F hlk hr hS ls hl => ?_)
  have hl : lv_has ls 5 [(0, .ref (b + 177)), (1, .ref (b + k1)), (2, .ref (b + k2))] := hl
  unfold t_Laws_measure at hT
  refine lv_aload_n F.hx F.hb d_Laws_measure_0 rfl (lv_at hl 0 rfl) ?_
  refine r_get (v := .ref (b + 179)) (N := 9) (T := T4) (j := 1) F hS (show 177 < 191 by decide) (show shK 177 = 8 from rfl) (show shN 177 = 9 from rfl) rfl (Nat.le_of_ble_eq_true rfl) ing4 mw_439 (fv_sg rfl rfl rfl) d_Laws_measure_1 ?_
  refine r_iconst F.hx F.hb d_Laws_measure_4 ?_
  obtain ⟨q1, hq1, hT⟩ := q_obind hT
  refine r_backV F hS (r_runS (As := [.ref (b + 179), vI 0]) F hS (c_Arrays_fill l F.2.2.1 M 179 4 0 (show arrP 0 179 4 191 from ⟨rfl, rfl, by decide⟩) (inr_c rfl) _ hq1) gs_Laws_35 hd_Arrays_fill ⟨Nat.le_of_ble_eq_true rfl, Nat.le_of_ble_eq_true rfl⟩ rfl hl.1 (Nat.le_of_ble_eq_true rfl) ⟨Nat.zero_le _, Nat.zero_le _⟩ rfl d_Laws_measure_5) (fun H locs hS => ?_)
  refine lv_aload_n F.hx F.hb d_Laws_measure_8 rfl (lv_at hl 0 rfl) ?_
  refine r_get (v := .ref (b + 180)) (N := 9) (T := T4) (j := 2) F hS (show 177 < 191 by decide) (show shK 177 = 8 from rfl) (show shN 177 = 9 from rfl) rfl (Nat.le_of_ble_eq_true rfl) ing4 mw_440 (fv_sg rfl rfl rfl) d_Laws_measure_9 ?_
  refine r_iconst F.hx F.hb d_Laws_measure_12 ?_
  obtain ⟨q3, hq3, hT⟩ := q_obind hT
  refine r_backV F hS (r_runS (As := [.ref (b + 180), vI 0]) F hS (c_Arrays_fill l F.2.2.1 q1 180 4 0 (show arrP 0 180 4 191 from ⟨rfl, rfl, by decide⟩) (inr_c rfl) _ hq3) gs_Laws_35 hd_Arrays_fill ⟨Nat.le_of_ble_eq_true rfl, Nat.le_of_ble_eq_true rfl⟩ rfl hl.1 (Nat.le_of_ble_eq_true rfl) ⟨Nat.zero_le _, Nat.zero_le _⟩ rfl d_Laws_measure_13) (fun H locs hS => ?_)
  refine lv_aload_n F.hx F.hb d_Laws_measure_16 rfl (lv_at hl 0 rfl) ?_
  refine r_get (v := .ref (b + 181)) (N := 9) (T := T4) (j := 3) F hS (show 177 < 191 by decide) (show shK 177 = 8 from rfl) (show shN 177 = 9 from rfl) rfl (Nat.le_of_ble_eq_true rfl) ing4 mw_441 (fv_sg rfl rfl rfl) d_Laws_measure_17 ?_
  refine r_iconst F.hx F.hb d_Laws_measure_20 ?_
  obtain ⟨q5, hq5, hT⟩ := q_obind hT
  refine r_backV F hS (r_runS (As := [.ref (b + 181), vI 0]) F hS (c_Arrays_fill l F.2.2.1 q3 181 4 0 (show arrP 0 181 4 191 from ⟨rfl, rfl, by decide⟩) (inr_c rfl) _ hq5) gs_Laws_35 hd_Arrays_fill ⟨Nat.le_of_ble_eq_true rfl, Nat.le_of_ble_eq_true rfl⟩ rfl hl.1 (Nat.le_of_ble_eq_true rfl) ⟨Nat.zero_le _, Nat.zero_le _⟩ rfl d_Laws_measure_21) (fun H locs hS => ?_)
  refine r_iconst F.hx F.hb d_Laws_measure_24 ?_
  refine lv_istore_n (lv' := [(3, vI 0), (0, .ref (b + 177)), (1, .ref (b + k1)), (2, .ref (b + k2))]) F.hx F.hb d_Laws_measure_25 rfl hl (Nat.le_of_ble_eq_true rfl) rfl (fun ls hl => ?_)
  exact k_Laws_measure_L26 l hlo k1 k2 hk1 hk2 F hlk hr FU q5 0 (inr_c rfl) _ _ _ hS (lv_sub hl [1, 2, 3, 0] rfl) hT
theorem d_Laws_name_0 : decode b_Laws_name 0 = .ok (.iload_n 1, 1) := dc_27 (by decide +kernel)
theorem d_Laws_name_1 : decode b_Laws_name 1 = .ok (.bipush 18, 2) := dc_16 (by decide +kernel)
theorem d_Laws_name_3 : decode b_Laws_name 3 = .ok (.isub, 1) := dc_100 (by decide +kernel)
theorem d_Laws_name_4 : decode b_Laws_name 4 = .ok (.istore 4, 2) := dc_54 (by decide +kernel)
theorem d_Laws_name_6 : decode b_Laws_name 6 = .ok (.iload 4, 2) := dc_21 (by decide +kernel)
theorem d_Laws_name_8 : decode b_Laws_name 8 = .ok (.ifCond .lt 21, 3) := dc_155 (by decide +kernel)
theorem d_Laws_name_11 : decode b_Laws_name 11 = .ok (.iload 4, 2) := dc_21 (by decide +kernel)
theorem d_Laws_name_13 : decode b_Laws_name 13 = .ok (.aload_n 0, 1) := dc_42 (by decide +kernel)
theorem d_Laws_name_14 : decode b_Laws_name 14 = .ok (.getfield 9, 3) := dc_180 (by decide +kernel)
theorem d_Laws_name_17 : decode b_Laws_name 17 = .ok (.arraylength, 1) := dc_190 (by decide +kernel)
theorem d_Laws_name_18 : decode b_Laws_name 18 = .ok (.if_icmp .ge 11, 3) := dc_162 (by decide +kernel)
theorem d_Laws_name_21 : decode b_Laws_name 21 = .ok (.aload_n 0, 1) := dc_42 (by decide +kernel)
theorem d_Laws_name_22 : decode b_Laws_name 22 = .ok (.getfield 9, 3) := dc_180 (by decide +kernel)
theorem d_Laws_name_25 : decode b_Laws_name 25 = .ok (.iload 4, 2) := dc_21 (by decide +kernel)
theorem d_Laws_name_27 : decode b_Laws_name 27 = .ok (.lload_n 2, 1) := dc_32 (by decide +kernel)
theorem d_Laws_name_28 : decode b_Laws_name 28 = .ok (.lastore, 1) := dc_80 (by decide +kernel)
theorem d_Laws_name_29 : decode b_Laws_name 29 = .ok (.return_, 1) := dc_177 (by decide +kernel)
def t_Laws_name (M : Mem) (x1 : Int) (x2 : Int64) : Mem := (if (w32 (x1 - 18)) < 0 then M else (if 7 ≤ (w32 (x1 - 18)) then M else (qlet (setL M 178 (w32 (x1 - 18)) x2) fun M3 => M3)))
set_option maxHeartbeats 4000000 in
set_option maxRecDepth 100000 in
theorem c_Laws_name (l : Launch) {b n : Nat} {C : CT} (hlo : 191 ≤ n) (M : Mem) (x1 : Int) (x2 : Int64) (hx1 : InR x1) (res : Mem) (hT : t_Laws_name M x1 x2 = res) : CM l b C n 0 y_Laws_name b_Laws_name 5 (none) [.ref (b + 177), vI x1, .long x2] M (QV b C n res) := by
  refine CM.of (lo := 191) (ow := "WardFalls$Laws") (by decide) rfl (Nat.le_of_ble_eq_true rfl) hlo (fun p e s m below meth c F hlk hr hS ls hl => ?_)
  have hl : lv_has ls 5 [(0, .ref (b + 177)), (1, vI x1), (2, .long x2)] := hl
  unfold t_Laws_name at hT
  refine lv_iload_n F.hx F.hb d_Laws_name_0 rfl (lv_at hl 1 rfl) ?_
  refine r_bipush F.hx F.hb d_Laws_name_1 rfl ?_
  refine r_isub F.hx F.hb d_Laws_name_3 ?_
  refine lv_istore (lv' := [(4, vI (w32 (x1 - 18))), (0, .ref (b + 177)), (1, vI x1), (2, .long x2)]) F.hx F.hb d_Laws_name_4 hl (Nat.le_of_ble_eq_true rfl) rfl (fun ls hl => ?_)
  refine lv_iload F.hx F.hb d_Laws_name_6 (lv_at hl 0 rfl) ?_
  refine r_if_lt (tgt := 29) F.hx F.hb (inr_w32 _) d_Laws_name_8 (by decide) (fun c1 => ?_) (fun c1 => ?_)
  · replace hT := (if_pos c1).symm.trans hT
    subst hT
    exact r_vret F hlk hr hS d_Laws_name_29
  · replace hT := (if_neg c1).symm.trans hT
    refine lv_iload F.hx F.hb d_Laws_name_11 (lv_at hl 0 rfl) ?_
    refine lv_aload_n F.hx F.hb d_Laws_name_13 rfl (lv_at hl 1 rfl) ?_
    refine r_get (v := .ref (b + 178)) (N := 9) (T := T4) (j := 0) F hS (show 177 < 191 by decide) (show shK 177 = 8 from rfl) (show shN 177 = 9 from rfl) rfl (Nat.le_of_ble_eq_true rfl) ing4 mw_438 (fv_sg rfl rfl rfl) d_Laws_name_14 ?_
    refine r_alen F hS (show 178 < 191 by decide) (by rw [(show shK 178 = 2 from rfl)]; decide) (show shN 178 = 7 from rfl) d_Laws_name_17 rfl ?_
    refine r_icmp_ge (tgt := 29) F.hx F.hb (inr_w32 _) (inr_c rfl) d_Laws_name_18 (by decide) (fun c2 => ?_) (fun c2 => ?_)
    · replace hT := (if_pos c2).symm.trans hT
      subst hT
      exact r_vret F hlk hr hS d_Laws_name_29
    · replace hT := (if_neg c2).symm.trans hT
      refine lv_aload_n F.hx F.hb d_Laws_name_21 rfl (lv_at hl 1 rfl) ?_
      refine r_get (v := .ref (b + 178)) (N := 9) (T := T4) (j := 0) F hS (show 177 < 191 by decide) (show shK 177 = 8 from rfl) (show shN 177 = 9 from rfl) rfl (Nat.le_of_ble_eq_true rfl) ing4 mw_438 (fv_sg rfl rfl rfl) d_Laws_name_22 ?_
      refine lv_iload F.hx F.hb d_Laws_name_25 (lv_at hl 0 rfl) ?_
      refine lv_lload_n F.hx F.hb d_Laws_name_27 rfl (lv_at hl 3 rfl) ?_
      refine r_last F hS (show 178 < 191 by decide) (show shK 178 = 2 from rfl) (show shN 178 = 7 from rfl) (inr_w32 _) (by omega) (by omega) d_Laws_name_28 (fun H locs hS => ?_)
      obtain ⟨M3, eM3⟩ : ∃ q, q = (setL M 178 (w32 (x1 - 18)) x2) := ⟨_, rfl⟩
      replace hS : St b C n M3 s H locs := by rw [eM3]; exact hS
      replace hT := qlet_eq hT eM3
      subst hT
      exact r_vret F hlk hr hS d_Laws_name_29
theorem d_Formula_valueOf_0 : decode b_Formula_valueOf 0 = .ok (.iload_n 1, 1) := dc_27 (by decide +kernel)
theorem d_Formula_valueOf_1 : decode b_Formula_valueOf 1 = .ok (.ifCond .lt 15, 3) := dc_155 (by decide +kernel)
theorem d_Formula_valueOf_4 : decode b_Formula_valueOf 4 = .ok (.iload_n 1, 1) := dc_27 (by decide +kernel)
theorem d_Formula_valueOf_5 : decode b_Formula_valueOf 5 = .ok (.aload_n 0, 1) := dc_42 (by decide +kernel)
theorem d_Formula_valueOf_6 : decode b_Formula_valueOf 6 = .ok (.arraylength, 1) := dc_190 (by decide +kernel)
theorem d_Formula_valueOf_7 : decode b_Formula_valueOf 7 = .ok (.if_icmp .ge 9, 3) := dc_162 (by decide +kernel)
theorem d_Formula_valueOf_10 : decode b_Formula_valueOf 10 = .ok (.aload_n 0, 1) := dc_42 (by decide +kernel)
theorem d_Formula_valueOf_11 : decode b_Formula_valueOf 11 = .ok (.iload_n 1, 1) := dc_27 (by decide +kernel)
theorem d_Formula_valueOf_12 : decode b_Formula_valueOf 12 = .ok (.laload, 1) := dc_47 (by decide +kernel)
theorem d_Formula_valueOf_13 : decode b_Formula_valueOf 13 = .ok (.goto 4, 3) := dc_167 (by decide +kernel)
theorem d_Formula_valueOf_16 : decode b_Formula_valueOf 16 = .ok (.lconst 0, 1) := dc_9 (by decide +kernel)
theorem d_Formula_valueOf_17 : decode b_Formula_valueOf 17 = .ok (.lreturn, 1) := dc_173 (by decide +kernel)
def t_Formula_valueOf (M : Mem) (r1 : Nat) (N1 : Nat) (x2 : Int) : Int64 := (if x2 < 0 then 0 else (if (N1 : Int) ≤ x2 then 0 else (M.2 r1 x2)))
set_option maxHeartbeats 4000000 in
set_option maxRecDepth 100000 in
theorem c_Formula_valueOf (l : Launch) {b n : Nat} {C : CT} (hlo : 191 ≤ n) (M : Mem) (r1 : Nat) (N1 : Nat) (x2 : Int) (hr1 : arrP 2 r1 N1 191) (hx2 : InR x2) (res : Int64) (hT : t_Formula_valueOf M r1 N1 x2 = res) : CM l b C n 0 y_Formula_valueOf b_Formula_valueOf 2 (some .long) [.ref (b + r1), vI x2] M (QL b C n M res) := by
  refine CM.of (lo := 191) (ow := "WardFalls$Formula") (by decide) rfl (Nat.le_of_ble_eq_true rfl) hlo (fun p e s m below meth c F hlk hr hS ls hl => ?_)
  have hl : lv_has ls 2 [(0, .ref (b + r1)), (1, vI x2)] := hl
  unfold t_Formula_valueOf at hT
  refine lv_iload_n F.hx F.hb d_Formula_valueOf_0 rfl (lv_at hl 1 rfl) ?_
  refine r_if_lt (tgt := 16) F.hx F.hb hx2 d_Formula_valueOf_1 (by decide) (fun c1 => ?_) (fun c1 => ?_)
  · replace hT := (if_pos c1).symm.trans hT
    refine lv_lconst (v := 0) F.hx F.hb d_Formula_valueOf_16 rfl ?_
    subst hT
    exact r_lret F hlk hr hS d_Formula_valueOf_17
  · replace hT := (if_neg c1).symm.trans hT
    refine lv_iload_n F.hx F.hb d_Formula_valueOf_4 rfl (lv_at hl 1 rfl) ?_
    refine lv_aload_n F.hx F.hb d_Formula_valueOf_5 rfl (lv_at hl 0 rfl) ?_
    refine r_alen F hS hr1.2.2 (by rw [hr1.1]; decide) hr1.2.1 d_Formula_valueOf_6 rfl ?_
    refine r_icmp_ge (tgt := 16) F.hx F.hb hx2 (inr_len hr1) d_Formula_valueOf_7 (by decide) (fun c2 => ?_) (fun c2 => ?_)
    · replace hT := (if_pos c2).symm.trans hT
      refine lv_lconst (v := 0) F.hx F.hb d_Formula_valueOf_16 rfl ?_
      subst hT
      exact r_lret F hlk hr hS d_Formula_valueOf_17
    · replace hT := (if_neg c2).symm.trans hT
      refine lv_aload_n F.hx F.hb d_Formula_valueOf_10 rfl (lv_at hl 0 rfl) ?_
      refine lv_iload_n F.hx F.hb d_Formula_valueOf_11 rfl (lv_at hl 1 rfl) ?_
      refine r_lald F hS hr1.2.2 hr1.1 hr1.2.1 hx2 (by omega) (by omega) d_Formula_valueOf_12 ?_
      refine lv_goto (tgt := 17) F.hx F.hb d_Formula_valueOf_13 (by decide) ?_
      subst hT
      exact r_lret F hlk hr hS d_Formula_valueOf_17
theorem d_Formula_asBit_0 : decode b_Formula_asBit 0 = .ok (.iload_n 0, 1) := dc_26 (by decide +kernel)
theorem d_Formula_asBit_1 : decode b_Formula_asBit 1 = .ok (.ifCond .eq 7, 3) := dc_153 (by decide +kernel)
theorem d_Formula_asBit_4 : decode b_Formula_asBit 4 = .ok (.lconst 1, 1) := dc_10 (by decide +kernel)
theorem d_Formula_asBit_5 : decode b_Formula_asBit 5 = .ok (.goto 4, 3) := dc_167 (by decide +kernel)
theorem d_Formula_asBit_8 : decode b_Formula_asBit 8 = .ok (.lconst 0, 1) := dc_9 (by decide +kernel)
theorem d_Formula_asBit_9 : decode b_Formula_asBit 9 = .ok (.lreturn, 1) := dc_173 (by decide +kernel)
def t_Formula_asBit (M : Mem) (x1 : Int) : Int64 := (if x1 = 0 then 0 else 1)
set_option maxHeartbeats 4000000 in
set_option maxRecDepth 100000 in
theorem c_Formula_asBit (l : Launch) {b n : Nat} {C : CT} (hlo : 191 ≤ n) (M : Mem) (x1 : Int) (hx1 : InR x1) (res : Int64) (hT : t_Formula_asBit M x1 = res) : CM l b C n 0 y_Formula_asBit b_Formula_asBit 1 (some .long) [vI x1] M (QL b C n M res) := by
  refine CM.of (lo := 191) (ow := "WardFalls$Formula") (by decide) rfl (Nat.le_of_ble_eq_true rfl) hlo (fun p e s m below meth c F hlk hr hS ls hl => ?_)
  have hl : lv_has ls 1 [(0, vI x1)] := hl
  unfold t_Formula_asBit at hT
  refine lv_iload_n F.hx F.hb d_Formula_asBit_0 rfl (lv_at hl 0 rfl) ?_
  refine r_if_eq (tgt := 8) F.hx F.hb hx1 d_Formula_asBit_1 (by decide) (fun c1 => ?_) (fun c1 => ?_)
  · replace hT := (if_pos c1).symm.trans hT
    refine lv_lconst (v := 0) F.hx F.hb d_Formula_asBit_8 rfl ?_
    subst hT
    exact r_lret F hlk hr hS d_Formula_asBit_9
  · replace hT := (if_neg c1).symm.trans hT
    refine lv_lconst (v := 1) F.hx F.hb d_Formula_asBit_4 rfl ?_
    refine lv_goto (tgt := 9) F.hx F.hb d_Formula_asBit_5 (by decide) ?_
    subst hT
    exact r_lret F hlk hr hS d_Formula_asBit_9
theorem d_Formula_product_0 : decode b_Formula_product 0 = .ok (.lload_n 0, 1) := dc_30 (by decide +kernel)
theorem d_Formula_product_1 : decode b_Formula_product 1 = .ok (.lconst 0, 1) := dc_9 (by decide +kernel)
theorem d_Formula_product_2 : decode b_Formula_product 2 = .ok (.lcmp, 1) := dc_148 (by decide +kernel)
theorem d_Formula_product_3 : decode b_Formula_product 3 = .ok (.ifCond .eq 9, 3) := dc_153 (by decide +kernel)
theorem d_Formula_product_6 : decode b_Formula_product 6 = .ok (.lload_n 2, 1) := dc_32 (by decide +kernel)
theorem d_Formula_product_7 : decode b_Formula_product 7 = .ok (.lconst 0, 1) := dc_9 (by decide +kernel)
theorem d_Formula_product_8 : decode b_Formula_product 8 = .ok (.lcmp, 1) := dc_148 (by decide +kernel)
theorem d_Formula_product_9 : decode b_Formula_product 9 = .ok (.ifCond .ne 5, 3) := dc_154 (by decide +kernel)
theorem d_Formula_product_12 : decode b_Formula_product 12 = .ok (.lconst 0, 1) := dc_9 (by decide +kernel)
theorem d_Formula_product_13 : decode b_Formula_product 13 = .ok (.lreturn, 1) := dc_173 (by decide +kernel)
theorem d_Formula_product_14 : decode b_Formula_product 14 = .ok (.lload_n 2, 1) := dc_32 (by decide +kernel)
theorem d_Formula_product_15 : decode b_Formula_product 15 = .ok (.invokestatic 123, 3) := dc_184 (by decide +kernel)
theorem d_Formula_product_18 : decode b_Formula_product 18 = .ok (.ldc2_w 115, 3) := dc_20 (by decide +kernel)
theorem d_Formula_product_21 : decode b_Formula_product 21 = .ok (.lload_n 0, 1) := dc_30 (by decide +kernel)
theorem d_Formula_product_22 : decode b_Formula_product 22 = .ok (.invokestatic 123, 3) := dc_184 (by decide +kernel)
theorem d_Formula_product_25 : decode b_Formula_product 25 = .ok (.ldiv, 1) := dc_109 (by decide +kernel)
theorem d_Formula_product_26 : decode b_Formula_product 26 = .ok (.lcmp, 1) := dc_148 (by decide +kernel)
theorem d_Formula_product_27 : decode b_Formula_product 27 = .ok (.ifCond .le 9, 3) := dc_158 (by decide +kernel)
theorem d_Formula_product_30 : decode b_Formula_product 30 = .ok (.ldc2_w 101, 3) := dc_20 (by decide +kernel)
theorem d_Formula_product_33 : decode b_Formula_product 33 = .ok (.goto 6, 3) := dc_167 (by decide +kernel)
theorem d_Formula_product_36 : decode b_Formula_product 36 = .ok (.lload_n 0, 1) := dc_30 (by decide +kernel)
theorem d_Formula_product_37 : decode b_Formula_product 37 = .ok (.lload_n 2, 1) := dc_32 (by decide +kernel)
theorem d_Formula_product_38 : decode b_Formula_product 38 = .ok (.lmul, 1) := dc_105 (by decide +kernel)
theorem d_Formula_product_39 : decode b_Formula_product 39 = .ok (.lreturn, 1) := dc_173 (by decide +kernel)
def t_Formula_product (M : Mem) (x1 : Int64) (x2 : Int64) : Option (Int64) := (if x1 = 0 then (some 0) else (if x2 = 0 then (some 0) else (if (q_absl x1) = 0 then none else (if (q_absl x2) ≤ (1000000000000 / (q_absl x1)) then (some (x1 * x2)) else (some (-9223372036854775808))))))
set_option maxHeartbeats 4000000 in
set_option maxRecDepth 100000 in
theorem c_Formula_product (l : Launch) {b n : Nat} {C : CT} (hlo : 191 ≤ n) (M : Mem) (x1 : Int64) (x2 : Int64)  (res : Int64) (hT : t_Formula_product M x1 x2 = some res) : CM l b C n 1 y_Formula_product b_Formula_product 4 (some .long) [.long x1, .long x2] M (QL b C n M res) := by
  refine CM.of (lo := 191) (ow := "WardFalls$Formula") (by decide) rfl (Nat.le_of_ble_eq_true rfl) hlo (fun p e s m below meth c F hlk hr hS ls hl => ?_)
  have hl : lv_has ls 4 [(0, .long x1), (2, .long x2)] := hl
  unfold t_Formula_product at hT
  refine lv_lload_n F.hx F.hb d_Formula_product_0 rfl (lv_at hl 0 rfl) ?_
  refine lv_lconst (v := 0) F.hx F.hb d_Formula_product_1 rfl ?_
  refine W.lcmp F.hx F.hb d_Formula_product_2 ?_
  refine r_lif_eq (tgt := 12) F.hx F.hb  d_Formula_product_3 (by decide) (fun c1 => ?_) (fun c1 => ?_)
  · replace hT := (if_pos c1).symm.trans hT
    refine lv_lconst (v := 0) F.hx F.hb d_Formula_product_12 rfl ?_
    cases hT
    exact r_lret F hlk hr hS d_Formula_product_13
  · replace hT := (if_neg c1).symm.trans hT
    refine lv_lload_n F.hx F.hb d_Formula_product_6 rfl (lv_at hl 1 rfl) ?_
    refine lv_lconst (v := 0) F.hx F.hb d_Formula_product_7 rfl ?_
    refine W.lcmp F.hx F.hb d_Formula_product_8 ?_
    refine r_lif_ne (tgt := 14) F.hx F.hb  d_Formula_product_9 (by decide) (fun c2 => ?_) (fun c2 => ?_)
    · replace hT := (if_neg c2).symm.trans hT
      refine lv_lload_n F.hx F.hb d_Formula_product_14 rfl (lv_at hl 1 rfl) ?_
      refine r_mabsl F hl.1 mw_915 mw_916 mw_14 mw_917 ⟨Nat.le_of_ble_eq_true rfl, Nat.le_of_ble_eq_true rfl⟩ (Nat.le_of_ble_eq_true rfl) ⟨Nat.zero_le _, Nat.zero_le _⟩ d_Formula_product_15 ?_
      refine lv_ldc2 (v := 1000000000000) F.hx F.hb F.hown (F.hts mw_918) d_Formula_product_18 ?_
      refine lv_lload_n F.hx F.hb d_Formula_product_21 rfl (lv_at hl 0 rfl) ?_
      refine r_mabsl F hl.1 mw_915 mw_916 mw_14 mw_917 ⟨Nat.le_of_ble_eq_true rfl, Nat.le_of_ble_eq_true rfl⟩ (Nat.le_of_ble_eq_true rfl) ⟨Nat.zero_le _, Nat.zero_le _⟩ d_Formula_product_22 ?_
      obtain ⟨c3, hT⟩ := q_guardn hT
      refine lv_ldiv F.hx F.hb d_Formula_product_25 c3 ?_
      refine W.lcmp F.hx F.hb d_Formula_product_26 ?_
      refine r_lif_le (tgt := 36) F.hx F.hb  d_Formula_product_27 (by decide) (fun c4 => ?_) (fun c4 => ?_)
      · replace hT := (if_pos c4).symm.trans hT
        refine lv_lload_n F.hx F.hb d_Formula_product_36 rfl (lv_at hl 0 rfl) ?_
        refine lv_lload_n F.hx F.hb d_Formula_product_37 rfl (lv_at hl 1 rfl) ?_
        refine lv_lmul F.hx F.hb d_Formula_product_38 ?_
        cases hT
        exact r_lret F hlk hr hS d_Formula_product_39
      · replace hT := (if_neg c4).symm.trans hT
        refine lv_ldc2 (v := (-9223372036854775808)) F.hx F.hb F.hown (F.hts mw_902) d_Formula_product_30 ?_
        refine lv_goto (tgt := 39) F.hx F.hb d_Formula_product_33 (by decide) ?_
        cases hT
        exact r_lret F hlk hr hS d_Formula_product_39
    · replace hT := (if_pos c2).symm.trans hT
      refine lv_lconst (v := 0) F.hx F.hb d_Formula_product_12 rfl ?_
      cases hT
      exact r_lret F hlk hr hS d_Formula_product_13
theorem wn_Formula_join_0 : ∀ i, i < 1 → bA b_Formula_join (0 + i) = wB [26] i := wB_of (by decide +kernel)
theorem d_Formula_join_0 : decode b_Formula_join 0 = .ok (.iload_n 0, 1) := dc_26 (q0_win (r := 0) wn_Formula_join_0 (by decide +kernel))
theorem d_Formula_join_1 : decode b_Formula_join 1 = .ok (.tableswitch 313 15 52 #[167, 188, 313, 313, 313, 313, 313, 313, 313, 313, 313, 313, 313, 313, 313, 313, 313, 313, 313, 313, 313, 313, 313, 313, 313, 313, 313, 313, 299, 303, 307, 313, 209, 224, 239, 254, 269, 284], 167) := by decide +kernel
theorem wn_Formula_join_168 : ∀ i, i < 94 → bA b_Formula_join (168 + i) = wB [31, 9, 148, 154, 0, 9, 33, 9, 148, 153, 0, 7, 4, 167, 0, 4, 3, 184, 0, 107, 173, 31, 9, 148, 153, 0, 13, 33, 9, 148, 153, 0, 7, 4, 167, 0, 4, 3, 184, 0, 107, 173, 31, 33, 148, 156, 0, 7, 4, 167, 0, 4, 3, 184, 0, 107, 173, 31, 33, 148, 157, 0, 7, 4, 167, 0, 4, 3, 184, 0, 107, 173, 31, 33, 148, 154, 0, 7, 4, 167, 0, 4, 3, 184, 0, 107, 173, 31, 33, 148, 153, 0, 7, 4] i := wB_of (by decide +kernel)
theorem d_Formula_join_168 : decode b_Formula_join 168 = .ok (.lload_n 1, 1) := dc_31 (q0_win (r := 0) wn_Formula_join_168 (by decide +kernel))
theorem d_Formula_join_169 : decode b_Formula_join 169 = .ok (.lconst 0, 1) := dc_9 (q0_win (r := 1) wn_Formula_join_168 (by decide +kernel))
theorem d_Formula_join_170 : decode b_Formula_join 170 = .ok (.lcmp, 1) := dc_148 (q0_win (r := 2) wn_Formula_join_168 (by decide +kernel))
theorem d_Formula_join_171 : decode b_Formula_join 171 = .ok (.ifCond .ne 9, 3) := dc_154 (qS2_win (r := 3) wn_Formula_join_168 (by decide +kernel))
theorem d_Formula_join_174 : decode b_Formula_join 174 = .ok (.lload_n 3, 1) := dc_33 (q0_win (r := 6) wn_Formula_join_168 (by decide +kernel))
theorem d_Formula_join_175 : decode b_Formula_join 175 = .ok (.lconst 0, 1) := dc_9 (q0_win (r := 7) wn_Formula_join_168 (by decide +kernel))
theorem d_Formula_join_176 : decode b_Formula_join 176 = .ok (.lcmp, 1) := dc_148 (q0_win (r := 8) wn_Formula_join_168 (by decide +kernel))
theorem d_Formula_join_177 : decode b_Formula_join 177 = .ok (.ifCond .eq 7, 3) := dc_153 (qS2_win (r := 9) wn_Formula_join_168 (by decide +kernel))
theorem d_Formula_join_180 : decode b_Formula_join 180 = .ok (.iconst 1, 1) := dc_4 (q0_win (r := 12) wn_Formula_join_168 (by decide +kernel))
theorem d_Formula_join_181 : decode b_Formula_join 181 = .ok (.goto 4, 3) := dc_167 (qS2_win (r := 13) wn_Formula_join_168 (by decide +kernel))
theorem d_Formula_join_184 : decode b_Formula_join 184 = .ok (.iconst 0, 1) := dc_3 (q0_win (r := 16) wn_Formula_join_168 (by decide +kernel))
theorem d_Formula_join_185 : decode b_Formula_join 185 = .ok (.invokestatic 107, 3) := dc_184 (qU2_win (r := 17) wn_Formula_join_168 (by decide +kernel))
theorem d_Formula_join_188 : decode b_Formula_join 188 = .ok (.lreturn, 1) := dc_173 (q0_win (r := 20) wn_Formula_join_168 (by decide +kernel))
theorem d_Formula_join_189 : decode b_Formula_join 189 = .ok (.lload_n 1, 1) := dc_31 (q0_win (r := 21) wn_Formula_join_168 (by decide +kernel))
theorem d_Formula_join_190 : decode b_Formula_join 190 = .ok (.lconst 0, 1) := dc_9 (q0_win (r := 22) wn_Formula_join_168 (by decide +kernel))
theorem d_Formula_join_191 : decode b_Formula_join 191 = .ok (.lcmp, 1) := dc_148 (q0_win (r := 23) wn_Formula_join_168 (by decide +kernel))
theorem d_Formula_join_192 : decode b_Formula_join 192 = .ok (.ifCond .eq 13, 3) := dc_153 (qS2_win (r := 24) wn_Formula_join_168 (by decide +kernel))
theorem d_Formula_join_195 : decode b_Formula_join 195 = .ok (.lload_n 3, 1) := dc_33 (q0_win (r := 27) wn_Formula_join_168 (by decide +kernel))
theorem d_Formula_join_196 : decode b_Formula_join 196 = .ok (.lconst 0, 1) := dc_9 (q0_win (r := 28) wn_Formula_join_168 (by decide +kernel))
theorem d_Formula_join_197 : decode b_Formula_join 197 = .ok (.lcmp, 1) := dc_148 (q0_win (r := 29) wn_Formula_join_168 (by decide +kernel))
theorem d_Formula_join_198 : decode b_Formula_join 198 = .ok (.ifCond .eq 7, 3) := dc_153 (qS2_win (r := 30) wn_Formula_join_168 (by decide +kernel))
theorem d_Formula_join_201 : decode b_Formula_join 201 = .ok (.iconst 1, 1) := dc_4 (q0_win (r := 33) wn_Formula_join_168 (by decide +kernel))
theorem d_Formula_join_202 : decode b_Formula_join 202 = .ok (.goto 4, 3) := dc_167 (qS2_win (r := 34) wn_Formula_join_168 (by decide +kernel))
theorem d_Formula_join_205 : decode b_Formula_join 205 = .ok (.iconst 0, 1) := dc_3 (q0_win (r := 37) wn_Formula_join_168 (by decide +kernel))
theorem d_Formula_join_206 : decode b_Formula_join 206 = .ok (.invokestatic 107, 3) := dc_184 (qU2_win (r := 38) wn_Formula_join_168 (by decide +kernel))
theorem d_Formula_join_209 : decode b_Formula_join 209 = .ok (.lreturn, 1) := dc_173 (q0_win (r := 41) wn_Formula_join_168 (by decide +kernel))
theorem d_Formula_join_210 : decode b_Formula_join 210 = .ok (.lload_n 1, 1) := dc_31 (q0_win (r := 42) wn_Formula_join_168 (by decide +kernel))
theorem d_Formula_join_211 : decode b_Formula_join 211 = .ok (.lload_n 3, 1) := dc_33 (q0_win (r := 43) wn_Formula_join_168 (by decide +kernel))
theorem d_Formula_join_212 : decode b_Formula_join 212 = .ok (.lcmp, 1) := dc_148 (q0_win (r := 44) wn_Formula_join_168 (by decide +kernel))
theorem d_Formula_join_213 : decode b_Formula_join 213 = .ok (.ifCond .ge 7, 3) := dc_156 (qS2_win (r := 45) wn_Formula_join_168 (by decide +kernel))
theorem d_Formula_join_216 : decode b_Formula_join 216 = .ok (.iconst 1, 1) := dc_4 (q0_win (r := 48) wn_Formula_join_168 (by decide +kernel))
theorem d_Formula_join_217 : decode b_Formula_join 217 = .ok (.goto 4, 3) := dc_167 (qS2_win (r := 49) wn_Formula_join_168 (by decide +kernel))
theorem d_Formula_join_220 : decode b_Formula_join 220 = .ok (.iconst 0, 1) := dc_3 (q0_win (r := 52) wn_Formula_join_168 (by decide +kernel))
theorem d_Formula_join_221 : decode b_Formula_join 221 = .ok (.invokestatic 107, 3) := dc_184 (qU2_win (r := 53) wn_Formula_join_168 (by decide +kernel))
theorem d_Formula_join_224 : decode b_Formula_join 224 = .ok (.lreturn, 1) := dc_173 (q0_win (r := 56) wn_Formula_join_168 (by decide +kernel))
theorem d_Formula_join_225 : decode b_Formula_join 225 = .ok (.lload_n 1, 1) := dc_31 (q0_win (r := 57) wn_Formula_join_168 (by decide +kernel))
theorem d_Formula_join_226 : decode b_Formula_join 226 = .ok (.lload_n 3, 1) := dc_33 (q0_win (r := 58) wn_Formula_join_168 (by decide +kernel))
theorem d_Formula_join_227 : decode b_Formula_join 227 = .ok (.lcmp, 1) := dc_148 (q0_win (r := 59) wn_Formula_join_168 (by decide +kernel))
theorem d_Formula_join_228 : decode b_Formula_join 228 = .ok (.ifCond .gt 7, 3) := dc_157 (qS2_win (r := 60) wn_Formula_join_168 (by decide +kernel))
theorem d_Formula_join_231 : decode b_Formula_join 231 = .ok (.iconst 1, 1) := dc_4 (q0_win (r := 63) wn_Formula_join_168 (by decide +kernel))
theorem d_Formula_join_232 : decode b_Formula_join 232 = .ok (.goto 4, 3) := dc_167 (qS2_win (r := 64) wn_Formula_join_168 (by decide +kernel))
theorem d_Formula_join_235 : decode b_Formula_join 235 = .ok (.iconst 0, 1) := dc_3 (q0_win (r := 67) wn_Formula_join_168 (by decide +kernel))
theorem d_Formula_join_236 : decode b_Formula_join 236 = .ok (.invokestatic 107, 3) := dc_184 (qU2_win (r := 68) wn_Formula_join_168 (by decide +kernel))
theorem d_Formula_join_239 : decode b_Formula_join 239 = .ok (.lreturn, 1) := dc_173 (q0_win (r := 71) wn_Formula_join_168 (by decide +kernel))
theorem d_Formula_join_240 : decode b_Formula_join 240 = .ok (.lload_n 1, 1) := dc_31 (q0_win (r := 72) wn_Formula_join_168 (by decide +kernel))
theorem d_Formula_join_241 : decode b_Formula_join 241 = .ok (.lload_n 3, 1) := dc_33 (q0_win (r := 73) wn_Formula_join_168 (by decide +kernel))
theorem d_Formula_join_242 : decode b_Formula_join 242 = .ok (.lcmp, 1) := dc_148 (q0_win (r := 74) wn_Formula_join_168 (by decide +kernel))
theorem d_Formula_join_243 : decode b_Formula_join 243 = .ok (.ifCond .ne 7, 3) := dc_154 (qS2_win (r := 75) wn_Formula_join_168 (by decide +kernel))
theorem d_Formula_join_246 : decode b_Formula_join 246 = .ok (.iconst 1, 1) := dc_4 (q0_win (r := 78) wn_Formula_join_168 (by decide +kernel))
theorem d_Formula_join_247 : decode b_Formula_join 247 = .ok (.goto 4, 3) := dc_167 (qS2_win (r := 79) wn_Formula_join_168 (by decide +kernel))
theorem d_Formula_join_250 : decode b_Formula_join 250 = .ok (.iconst 0, 1) := dc_3 (q0_win (r := 82) wn_Formula_join_168 (by decide +kernel))
theorem d_Formula_join_251 : decode b_Formula_join 251 = .ok (.invokestatic 107, 3) := dc_184 (qU2_win (r := 83) wn_Formula_join_168 (by decide +kernel))
theorem d_Formula_join_254 : decode b_Formula_join 254 = .ok (.lreturn, 1) := dc_173 (q0_win (r := 86) wn_Formula_join_168 (by decide +kernel))
theorem d_Formula_join_255 : decode b_Formula_join 255 = .ok (.lload_n 1, 1) := dc_31 (q0_win (r := 87) wn_Formula_join_168 (by decide +kernel))
theorem d_Formula_join_256 : decode b_Formula_join 256 = .ok (.lload_n 3, 1) := dc_33 (q0_win (r := 88) wn_Formula_join_168 (by decide +kernel))
theorem d_Formula_join_257 : decode b_Formula_join 257 = .ok (.lcmp, 1) := dc_148 (q0_win (r := 89) wn_Formula_join_168 (by decide +kernel))
theorem d_Formula_join_258 : decode b_Formula_join 258 = .ok (.ifCond .eq 7, 3) := dc_153 (qS2_win (r := 90) wn_Formula_join_168 (by decide +kernel))
theorem d_Formula_join_261 : decode b_Formula_join 261 = .ok (.iconst 1, 1) := dc_4 (q0_win (r := 93) wn_Formula_join_168 (by decide +kernel))
theorem wn_Formula_join_262 : ∀ i, i < 68 → bA b_Formula_join (262 + i) = wB [167, 0, 4, 3, 184, 0, 107, 173, 31, 33, 148, 155, 0, 7, 4, 167, 0, 4, 3, 184, 0, 107, 173, 31, 33, 148, 158, 0, 7, 4, 167, 0, 4, 3, 184, 0, 107, 173, 31, 33, 97, 173, 31, 33, 101, 173, 31, 33, 184, 0, 119, 173, 33, 9, 148, 154, 0, 9, 20, 0, 101, 167, 0, 6, 31, 33, 109, 173] i := wB_of (by decide +kernel)
theorem d_Formula_join_262 : decode b_Formula_join 262 = .ok (.goto 4, 3) := dc_167 (qS2_win (r := 0) wn_Formula_join_262 (by decide +kernel))
theorem d_Formula_join_265 : decode b_Formula_join 265 = .ok (.iconst 0, 1) := dc_3 (q0_win (r := 3) wn_Formula_join_262 (by decide +kernel))
theorem d_Formula_join_266 : decode b_Formula_join 266 = .ok (.invokestatic 107, 3) := dc_184 (qU2_win (r := 4) wn_Formula_join_262 (by decide +kernel))
theorem d_Formula_join_269 : decode b_Formula_join 269 = .ok (.lreturn, 1) := dc_173 (q0_win (r := 7) wn_Formula_join_262 (by decide +kernel))
theorem d_Formula_join_270 : decode b_Formula_join 270 = .ok (.lload_n 1, 1) := dc_31 (q0_win (r := 8) wn_Formula_join_262 (by decide +kernel))
theorem d_Formula_join_271 : decode b_Formula_join 271 = .ok (.lload_n 3, 1) := dc_33 (q0_win (r := 9) wn_Formula_join_262 (by decide +kernel))
theorem d_Formula_join_272 : decode b_Formula_join 272 = .ok (.lcmp, 1) := dc_148 (q0_win (r := 10) wn_Formula_join_262 (by decide +kernel))
theorem d_Formula_join_273 : decode b_Formula_join 273 = .ok (.ifCond .lt 7, 3) := dc_155 (qS2_win (r := 11) wn_Formula_join_262 (by decide +kernel))
theorem d_Formula_join_276 : decode b_Formula_join 276 = .ok (.iconst 1, 1) := dc_4 (q0_win (r := 14) wn_Formula_join_262 (by decide +kernel))
theorem d_Formula_join_277 : decode b_Formula_join 277 = .ok (.goto 4, 3) := dc_167 (qS2_win (r := 15) wn_Formula_join_262 (by decide +kernel))
theorem d_Formula_join_280 : decode b_Formula_join 280 = .ok (.iconst 0, 1) := dc_3 (q0_win (r := 18) wn_Formula_join_262 (by decide +kernel))
theorem d_Formula_join_281 : decode b_Formula_join 281 = .ok (.invokestatic 107, 3) := dc_184 (qU2_win (r := 19) wn_Formula_join_262 (by decide +kernel))
theorem d_Formula_join_284 : decode b_Formula_join 284 = .ok (.lreturn, 1) := dc_173 (q0_win (r := 22) wn_Formula_join_262 (by decide +kernel))
theorem d_Formula_join_285 : decode b_Formula_join 285 = .ok (.lload_n 1, 1) := dc_31 (q0_win (r := 23) wn_Formula_join_262 (by decide +kernel))
theorem d_Formula_join_286 : decode b_Formula_join 286 = .ok (.lload_n 3, 1) := dc_33 (q0_win (r := 24) wn_Formula_join_262 (by decide +kernel))
theorem d_Formula_join_287 : decode b_Formula_join 287 = .ok (.lcmp, 1) := dc_148 (q0_win (r := 25) wn_Formula_join_262 (by decide +kernel))
theorem d_Formula_join_288 : decode b_Formula_join 288 = .ok (.ifCond .le 7, 3) := dc_158 (qS2_win (r := 26) wn_Formula_join_262 (by decide +kernel))
theorem d_Formula_join_291 : decode b_Formula_join 291 = .ok (.iconst 1, 1) := dc_4 (q0_win (r := 29) wn_Formula_join_262 (by decide +kernel))
theorem d_Formula_join_292 : decode b_Formula_join 292 = .ok (.goto 4, 3) := dc_167 (qS2_win (r := 30) wn_Formula_join_262 (by decide +kernel))
theorem d_Formula_join_295 : decode b_Formula_join 295 = .ok (.iconst 0, 1) := dc_3 (q0_win (r := 33) wn_Formula_join_262 (by decide +kernel))
theorem d_Formula_join_296 : decode b_Formula_join 296 = .ok (.invokestatic 107, 3) := dc_184 (qU2_win (r := 34) wn_Formula_join_262 (by decide +kernel))
theorem d_Formula_join_299 : decode b_Formula_join 299 = .ok (.lreturn, 1) := dc_173 (q0_win (r := 37) wn_Formula_join_262 (by decide +kernel))
theorem d_Formula_join_300 : decode b_Formula_join 300 = .ok (.lload_n 1, 1) := dc_31 (q0_win (r := 38) wn_Formula_join_262 (by decide +kernel))
theorem d_Formula_join_301 : decode b_Formula_join 301 = .ok (.lload_n 3, 1) := dc_33 (q0_win (r := 39) wn_Formula_join_262 (by decide +kernel))
theorem d_Formula_join_302 : decode b_Formula_join 302 = .ok (.ladd, 1) := dc_97 (q0_win (r := 40) wn_Formula_join_262 (by decide +kernel))
theorem d_Formula_join_303 : decode b_Formula_join 303 = .ok (.lreturn, 1) := dc_173 (q0_win (r := 41) wn_Formula_join_262 (by decide +kernel))
theorem d_Formula_join_304 : decode b_Formula_join 304 = .ok (.lload_n 1, 1) := dc_31 (q0_win (r := 42) wn_Formula_join_262 (by decide +kernel))
theorem d_Formula_join_305 : decode b_Formula_join 305 = .ok (.lload_n 3, 1) := dc_33 (q0_win (r := 43) wn_Formula_join_262 (by decide +kernel))
theorem d_Formula_join_306 : decode b_Formula_join 306 = .ok (.lsub, 1) := dc_101 (q0_win (r := 44) wn_Formula_join_262 (by decide +kernel))
theorem d_Formula_join_307 : decode b_Formula_join 307 = .ok (.lreturn, 1) := dc_173 (q0_win (r := 45) wn_Formula_join_262 (by decide +kernel))
theorem d_Formula_join_308 : decode b_Formula_join 308 = .ok (.lload_n 1, 1) := dc_31 (q0_win (r := 46) wn_Formula_join_262 (by decide +kernel))
theorem d_Formula_join_309 : decode b_Formula_join 309 = .ok (.lload_n 3, 1) := dc_33 (q0_win (r := 47) wn_Formula_join_262 (by decide +kernel))
theorem d_Formula_join_310 : decode b_Formula_join 310 = .ok (.invokestatic 119, 3) := dc_184 (qU2_win (r := 48) wn_Formula_join_262 (by decide +kernel))
theorem d_Formula_join_313 : decode b_Formula_join 313 = .ok (.lreturn, 1) := dc_173 (q0_win (r := 51) wn_Formula_join_262 (by decide +kernel))
theorem d_Formula_join_314 : decode b_Formula_join 314 = .ok (.lload_n 3, 1) := dc_33 (q0_win (r := 52) wn_Formula_join_262 (by decide +kernel))
theorem d_Formula_join_315 : decode b_Formula_join 315 = .ok (.lconst 0, 1) := dc_9 (q0_win (r := 53) wn_Formula_join_262 (by decide +kernel))
theorem d_Formula_join_316 : decode b_Formula_join 316 = .ok (.lcmp, 1) := dc_148 (q0_win (r := 54) wn_Formula_join_262 (by decide +kernel))
theorem d_Formula_join_317 : decode b_Formula_join 317 = .ok (.ifCond .ne 9, 3) := dc_154 (qS2_win (r := 55) wn_Formula_join_262 (by decide +kernel))
theorem d_Formula_join_320 : decode b_Formula_join 320 = .ok (.ldc2_w 101, 3) := dc_20 (qU2_win (r := 58) wn_Formula_join_262 (by decide +kernel))
theorem d_Formula_join_323 : decode b_Formula_join 323 = .ok (.goto 6, 3) := dc_167 (qS2_win (r := 61) wn_Formula_join_262 (by decide +kernel))
theorem d_Formula_join_326 : decode b_Formula_join 326 = .ok (.lload_n 1, 1) := dc_31 (q0_win (r := 64) wn_Formula_join_262 (by decide +kernel))
theorem d_Formula_join_327 : decode b_Formula_join 327 = .ok (.lload_n 3, 1) := dc_33 (q0_win (r := 65) wn_Formula_join_262 (by decide +kernel))
theorem d_Formula_join_328 : decode b_Formula_join 328 = .ok (.ldiv, 1) := dc_109 (q0_win (r := 66) wn_Formula_join_262 (by decide +kernel))
theorem d_Formula_join_329 : decode b_Formula_join 329 = .ok (.lreturn, 1) := dc_173 (q0_win (r := 67) wn_Formula_join_262 (by decide +kernel))
def t_Formula_join_L185 (x1 : Int) (x2 : Int64) (x3 : Int64)  (M : Mem) (v0_ : Int) : Option (Int64) := (qlet (t_Formula_asBit M v0_) fun q51 => (some q51))
def t_Formula_join_L180 (x1 : Int) (x2 : Int64) (x3 : Int64)  (M : Mem)  : Option (Int64) := (t_Formula_join_L185 x1 x2 x3 M 1)
def t_Formula_join_L206 (x1 : Int) (x2 : Int64) (x3 : Int64)  (M : Mem) (v0_ : Int) : Option (Int64) := (qlet (t_Formula_asBit M v0_) fun q53 => (some q53))
def t_Formula_join_L205 (x1 : Int) (x2 : Int64) (x3 : Int64)  (M : Mem)  : Option (Int64) := (t_Formula_join_L206 x1 x2 x3 M 0)
def t_Formula_join_L221 (x1 : Int) (x2 : Int64) (x3 : Int64)  (M : Mem) (v0_ : Int) : Option (Int64) := (qlet (t_Formula_asBit M v0_) fun q56 => (some q56))
def t_Formula_join_L236 (x1 : Int) (x2 : Int64) (x3 : Int64)  (M : Mem) (v0_ : Int) : Option (Int64) := (qlet (t_Formula_asBit M v0_) fun q58 => (some q58))
def t_Formula_join_L251 (x1 : Int) (x2 : Int64) (x3 : Int64)  (M : Mem) (v0_ : Int) : Option (Int64) := (qlet (t_Formula_asBit M v0_) fun q60 => (some q60))
def t_Formula_join_L266 (x1 : Int) (x2 : Int64) (x3 : Int64)  (M : Mem) (v0_ : Int) : Option (Int64) := (qlet (t_Formula_asBit M v0_) fun q62 => (some q62))
def t_Formula_join_L281 (x1 : Int) (x2 : Int64) (x3 : Int64)  (M : Mem) (v0_ : Int) : Option (Int64) := (qlet (t_Formula_asBit M v0_) fun q64 => (some q64))
def t_Formula_join_L296 (x1 : Int) (x2 : Int64) (x3 : Int64)  (M : Mem) (v0_ : Int) : Option (Int64) := (qlet (t_Formula_asBit M v0_) fun q66 => (some q66))
def t_Formula_join_L314 (x1 : Int) (x2 : Int64) (x3 : Int64)  (M : Mem)  : Option (Int64) := (if x3 = 0 then (some (-9223372036854775808)) else (some (x2 / x3)))
def t_Formula_join (M : Mem) (x1 : Int) (x2 : Int64) (x3 : Int64) : Option (Int64) := (if x1 = 15 then (if x2 = 0 then (if x3 = 0 then (t_Formula_join_L185 x1 x2 x3 M 0) else (t_Formula_join_L180 x1 x2 x3 M)) else (t_Formula_join_L180 x1 x2 x3 M)) else (if x1 = 16 then (if x2 = 0 then (t_Formula_join_L205 x1 x2 x3 M) else (if x3 = 0 then (t_Formula_join_L205 x1 x2 x3 M) else (t_Formula_join_L206 x1 x2 x3 M 1))) else (if x1 = 17 then (t_Formula_join_L314 x1 x2 x3 M) else (if x1 = 18 then (t_Formula_join_L314 x1 x2 x3 M) else (if x1 = 19 then (t_Formula_join_L314 x1 x2 x3 M) else (if x1 = 20 then (t_Formula_join_L314 x1 x2 x3 M) else (if x1 = 21 then (t_Formula_join_L314 x1 x2 x3 M) else (if x1 = 22 then (t_Formula_join_L314 x1 x2 x3 M) else (if x1 = 23 then (t_Formula_join_L314 x1 x2 x3 M) else (if x1 = 24 then (t_Formula_join_L314 x1 x2 x3 M) else (if x1 = 25 then (t_Formula_join_L314 x1 x2 x3 M) else (if x1 = 26 then (t_Formula_join_L314 x1 x2 x3 M) else (if x1 = 27 then (t_Formula_join_L314 x1 x2 x3 M) else (if x1 = 28 then (t_Formula_join_L314 x1 x2 x3 M) else (if x1 = 29 then (t_Formula_join_L314 x1 x2 x3 M) else (if x1 = 30 then (t_Formula_join_L314 x1 x2 x3 M) else (if x1 = 31 then (t_Formula_join_L314 x1 x2 x3 M) else (if x1 = 32 then (t_Formula_join_L314 x1 x2 x3 M) else (if x1 = 33 then (t_Formula_join_L314 x1 x2 x3 M) else (if x1 = 34 then (t_Formula_join_L314 x1 x2 x3 M) else (if x1 = 35 then (t_Formula_join_L314 x1 x2 x3 M) else (if x1 = 36 then (t_Formula_join_L314 x1 x2 x3 M) else (if x1 = 37 then (t_Formula_join_L314 x1 x2 x3 M) else (if x1 = 38 then (t_Formula_join_L314 x1 x2 x3 M) else (if x1 = 39 then (t_Formula_join_L314 x1 x2 x3 M) else (if x1 = 40 then (t_Formula_join_L314 x1 x2 x3 M) else (if x1 = 41 then (t_Formula_join_L314 x1 x2 x3 M) else (if x1 = 42 then (t_Formula_join_L314 x1 x2 x3 M) else (if x1 = 43 then (some (x2 + x3)) else (if x1 = 44 then (some (x2 - x3)) else (if x1 = 45 then (obind (t_Formula_product M x2 x3) fun q36 => (some q36)) else (if x1 = 46 then (t_Formula_join_L314 x1 x2 x3 M) else (if x1 = 47 then (if x3 ≤ x2 then (t_Formula_join_L221 x1 x2 x3 M 0) else (t_Formula_join_L221 x1 x2 x3 M 1)) else (if x1 = 48 then (if x3 < x2 then (t_Formula_join_L236 x1 x2 x3 M 0) else (t_Formula_join_L236 x1 x2 x3 M 1)) else (if x1 = 49 then (if x2 = x3 then (t_Formula_join_L251 x1 x2 x3 M 1) else (t_Formula_join_L251 x1 x2 x3 M 0)) else (if x1 = 50 then (if x2 = x3 then (t_Formula_join_L266 x1 x2 x3 M 0) else (t_Formula_join_L266 x1 x2 x3 M 1)) else (if x1 = 51 then (if x2 < x3 then (t_Formula_join_L281 x1 x2 x3 M 0) else (t_Formula_join_L281 x1 x2 x3 M 1)) else (if x1 = 52 then (if x2 ≤ x3 then (t_Formula_join_L296 x1 x2 x3 M 0) else (t_Formula_join_L296 x1 x2 x3 M 1)) else (t_Formula_join_L314 x1 x2 x3 M)))))))))))))))))))))))))))))))))))))))
set_option maxHeartbeats 4000000 in
set_option maxRecDepth 100000 in
theorem k_Formula_join_L185 (l : Launch) {p : Program} {e : Env} {s : State} {m : MethodId} {below : List Frame} {meth : Method} {c : Code} {b n : Nat} {C : CT} (hlo : 191 ≤ n) (x1 : Int) (x2 : Int64) (x3 : Int64) (hx1 : InR x1) (F : Cx b p m c b_Formula_join 5 s ([vI x1, .long x2, .long x3] : List Value).toArray "WardFalls$Formula" C n 191) (hlk : meth.locks = false) (hr : meth.sig.returnType = some .long) {res : Int64} (M : Mem) (v0_ : Int) (hv0_ : v0_ = 0 ∨ v0_ = 1) (H : Heap) (locs : List Loc) (ls : Array Slot) (hS : St b C n M s H locs) (hl : lv_has ls 5 []) (hT : t_Formula_join_L185 x1 x2 x3 M v0_ = some res) : W p l e (headSpec (wsM y_Formula_join b_Formula_join 5 (some .long)) (rmD 2)).room s m ([vI x1, .long x2, .long x3] : List Value).toArray below meth c H locs 0 0 (MQ below (QL b C n M res) ([vI x1, .long x2, .long x3] : List Value).toArray s 0 0 (frb b)) (F0 m 185 ls [vI v0_]) := by
  unfold t_Formula_join_L185 at hT
  obtain ⟨q51, hq51⟩ : ∃ q, q = (t_Formula_asBit M v0_) := ⟨_, rfl⟩
  replace hT := qlet_eq hT hq51
  refine r_backL F hS (r_runS (As := [vI v0_]) F hS (c_Formula_asBit l F.2.2.1 M v0_ (inr_z hv0_) _ hq51.symm) gs_Formula_107 hd_Formula_asBit ⟨Nat.le_of_ble_eq_true rfl, Nat.le_of_ble_eq_true rfl⟩ rfl hl.1 (Nat.le_of_ble_eq_true rfl) ⟨Nat.zero_le _, Nat.zero_le _⟩ rfl d_Formula_join_185) (fun H locs hS => ?_)
  cases hT
  exact r_lret F hlk hr hS d_Formula_join_188
set_option maxHeartbeats 4000000 in
set_option maxRecDepth 100000 in
theorem k_Formula_join_L180 (l : Launch) {p : Program} {e : Env} {s : State} {m : MethodId} {below : List Frame} {meth : Method} {c : Code} {b n : Nat} {C : CT} (hlo : 191 ≤ n) (x1 : Int) (x2 : Int64) (x3 : Int64) (hx1 : InR x1) (F : Cx b p m c b_Formula_join 5 s ([vI x1, .long x2, .long x3] : List Value).toArray "WardFalls$Formula" C n 191) (hlk : meth.locks = false) (hr : meth.sig.returnType = some .long) {res : Int64} (M : Mem)  (H : Heap) (locs : List Loc) (ls : Array Slot) (hS : St b C n M s H locs) (hl : lv_has ls 5 []) (hT : t_Formula_join_L180 x1 x2 x3 M = some res) : W p l e (headSpec (wsM y_Formula_join b_Formula_join 5 (some .long)) (rmD 2)).room s m ([vI x1, .long x2, .long x3] : List Value).toArray below meth c H locs 0 0 (MQ below (QL b C n M res) ([vI x1, .long x2, .long x3] : List Value).toArray s 0 0 (frb b)) (F0 m 180 ls []) := by
  unfold t_Formula_join_L180 at hT
  refine r_iconst F.hx F.hb d_Formula_join_180 ?_
  refine lv_goto (tgt := 185) F.hx F.hb d_Formula_join_181 (by decide) ?_
  exact k_Formula_join_L185 l hlo x1 x2 x3 hx1 F hlk hr M 1 (Or.inr rfl) _ _ _ hS (lv_sub hl [] rfl) hT
set_option maxHeartbeats 4000000 in
set_option maxRecDepth 100000 in
theorem k_Formula_join_L206 (l : Launch) {p : Program} {e : Env} {s : State} {m : MethodId} {below : List Frame} {meth : Method} {c : Code} {b n : Nat} {C : CT} (hlo : 191 ≤ n) (x1 : Int) (x2 : Int64) (x3 : Int64) (hx1 : InR x1) (F : Cx b p m c b_Formula_join 5 s ([vI x1, .long x2, .long x3] : List Value).toArray "WardFalls$Formula" C n 191) (hlk : meth.locks = false) (hr : meth.sig.returnType = some .long) {res : Int64} (M : Mem) (v0_ : Int) (hv0_ : v0_ = 0 ∨ v0_ = 1) (H : Heap) (locs : List Loc) (ls : Array Slot) (hS : St b C n M s H locs) (hl : lv_has ls 5 []) (hT : t_Formula_join_L206 x1 x2 x3 M v0_ = some res) : W p l e (headSpec (wsM y_Formula_join b_Formula_join 5 (some .long)) (rmD 2)).room s m ([vI x1, .long x2, .long x3] : List Value).toArray below meth c H locs 0 0 (MQ below (QL b C n M res) ([vI x1, .long x2, .long x3] : List Value).toArray s 0 0 (frb b)) (F0 m 206 ls [vI v0_]) := by
  unfold t_Formula_join_L206 at hT
  obtain ⟨q53, hq53⟩ : ∃ q, q = (t_Formula_asBit M v0_) := ⟨_, rfl⟩
  replace hT := qlet_eq hT hq53
  refine r_backL F hS (r_runS (As := [vI v0_]) F hS (c_Formula_asBit l F.2.2.1 M v0_ (inr_z hv0_) _ hq53.symm) gs_Formula_107 hd_Formula_asBit ⟨Nat.le_of_ble_eq_true rfl, Nat.le_of_ble_eq_true rfl⟩ rfl hl.1 (Nat.le_of_ble_eq_true rfl) ⟨Nat.zero_le _, Nat.zero_le _⟩ rfl d_Formula_join_206) (fun H locs hS => ?_)
  cases hT
  exact r_lret F hlk hr hS d_Formula_join_209
set_option maxHeartbeats 4000000 in
set_option maxRecDepth 100000 in
theorem k_Formula_join_L205 (l : Launch) {p : Program} {e : Env} {s : State} {m : MethodId} {below : List Frame} {meth : Method} {c : Code} {b n : Nat} {C : CT} (hlo : 191 ≤ n) (x1 : Int) (x2 : Int64) (x3 : Int64) (hx1 : InR x1) (F : Cx b p m c b_Formula_join 5 s ([vI x1, .long x2, .long x3] : List Value).toArray "WardFalls$Formula" C n 191) (hlk : meth.locks = false) (hr : meth.sig.returnType = some .long) {res : Int64} (M : Mem)  (H : Heap) (locs : List Loc) (ls : Array Slot) (hS : St b C n M s H locs) (hl : lv_has ls 5 []) (hT : t_Formula_join_L205 x1 x2 x3 M = some res) : W p l e (headSpec (wsM y_Formula_join b_Formula_join 5 (some .long)) (rmD 2)).room s m ([vI x1, .long x2, .long x3] : List Value).toArray below meth c H locs 0 0 (MQ below (QL b C n M res) ([vI x1, .long x2, .long x3] : List Value).toArray s 0 0 (frb b)) (F0 m 205 ls []) := by
  unfold t_Formula_join_L205 at hT
  refine r_iconst F.hx F.hb d_Formula_join_205 ?_
  exact k_Formula_join_L206 l hlo x1 x2 x3 hx1 F hlk hr M 0 (Or.inl rfl) _ _ _ hS (lv_sub hl [] rfl) hT
set_option maxHeartbeats 4000000 in
set_option maxRecDepth 100000 in
theorem k_Formula_join_L221 (l : Launch) {p : Program} {e : Env} {s : State} {m : MethodId} {below : List Frame} {meth : Method} {c : Code} {b n : Nat} {C : CT} (hlo : 191 ≤ n) (x1 : Int) (x2 : Int64) (x3 : Int64) (hx1 : InR x1) (F : Cx b p m c b_Formula_join 5 s ([vI x1, .long x2, .long x3] : List Value).toArray "WardFalls$Formula" C n 191) (hlk : meth.locks = false) (hr : meth.sig.returnType = some .long) {res : Int64} (M : Mem) (v0_ : Int) (hv0_ : v0_ = 0 ∨ v0_ = 1) (H : Heap) (locs : List Loc) (ls : Array Slot) (hS : St b C n M s H locs) (hl : lv_has ls 5 []) (hT : t_Formula_join_L221 x1 x2 x3 M v0_ = some res) : W p l e (headSpec (wsM y_Formula_join b_Formula_join 5 (some .long)) (rmD 2)).room s m ([vI x1, .long x2, .long x3] : List Value).toArray below meth c H locs 0 0 (MQ below (QL b C n M res) ([vI x1, .long x2, .long x3] : List Value).toArray s 0 0 (frb b)) (F0 m 221 ls [vI v0_]) := by
  unfold t_Formula_join_L221 at hT
  obtain ⟨q56, hq56⟩ : ∃ q, q = (t_Formula_asBit M v0_) := ⟨_, rfl⟩
  replace hT := qlet_eq hT hq56
  refine r_backL F hS (r_runS (As := [vI v0_]) F hS (c_Formula_asBit l F.2.2.1 M v0_ (inr_z hv0_) _ hq56.symm) gs_Formula_107 hd_Formula_asBit ⟨Nat.le_of_ble_eq_true rfl, Nat.le_of_ble_eq_true rfl⟩ rfl hl.1 (Nat.le_of_ble_eq_true rfl) ⟨Nat.zero_le _, Nat.zero_le _⟩ rfl d_Formula_join_221) (fun H locs hS => ?_)
  cases hT
  exact r_lret F hlk hr hS d_Formula_join_224
set_option maxHeartbeats 4000000 in
set_option maxRecDepth 100000 in
theorem k_Formula_join_L236 (l : Launch) {p : Program} {e : Env} {s : State} {m : MethodId} {below : List Frame} {meth : Method} {c : Code} {b n : Nat} {C : CT} (hlo : 191 ≤ n) (x1 : Int) (x2 : Int64) (x3 : Int64) (hx1 : InR x1) (F : Cx b p m c b_Formula_join 5 s ([vI x1, .long x2, .long x3] : List Value).toArray "WardFalls$Formula" C n 191) (hlk : meth.locks = false) (hr : meth.sig.returnType = some .long) {res : Int64} (M : Mem) (v0_ : Int) (hv0_ : v0_ = 0 ∨ v0_ = 1) (H : Heap) (locs : List Loc) (ls : Array Slot) (hS : St b C n M s H locs) (hl : lv_has ls 5 []) (hT : t_Formula_join_L236 x1 x2 x3 M v0_ = some res) : W p l e (headSpec (wsM y_Formula_join b_Formula_join 5 (some .long)) (rmD 2)).room s m ([vI x1, .long x2, .long x3] : List Value).toArray below meth c H locs 0 0 (MQ below (QL b C n M res) ([vI x1, .long x2, .long x3] : List Value).toArray s 0 0 (frb b)) (F0 m 236 ls [vI v0_]) := by
  unfold t_Formula_join_L236 at hT
  obtain ⟨q58, hq58⟩ : ∃ q, q = (t_Formula_asBit M v0_) := ⟨_, rfl⟩
  replace hT := qlet_eq hT hq58
  refine r_backL F hS (r_runS (As := [vI v0_]) F hS (c_Formula_asBit l F.2.2.1 M v0_ (inr_z hv0_) _ hq58.symm) gs_Formula_107 hd_Formula_asBit ⟨Nat.le_of_ble_eq_true rfl, Nat.le_of_ble_eq_true rfl⟩ rfl hl.1 (Nat.le_of_ble_eq_true rfl) ⟨Nat.zero_le _, Nat.zero_le _⟩ rfl d_Formula_join_236) (fun H locs hS => ?_)
  cases hT
  exact r_lret F hlk hr hS d_Formula_join_239
set_option maxHeartbeats 4000000 in
set_option maxRecDepth 100000 in
theorem k_Formula_join_L251 (l : Launch) {p : Program} {e : Env} {s : State} {m : MethodId} {below : List Frame} {meth : Method} {c : Code} {b n : Nat} {C : CT} (hlo : 191 ≤ n) (x1 : Int) (x2 : Int64) (x3 : Int64) (hx1 : InR x1) (F : Cx b p m c b_Formula_join 5 s ([vI x1, .long x2, .long x3] : List Value).toArray "WardFalls$Formula" C n 191) (hlk : meth.locks = false) (hr : meth.sig.returnType = some .long) {res : Int64} (M : Mem) (v0_ : Int) (hv0_ : v0_ = 0 ∨ v0_ = 1) (H : Heap) (locs : List Loc) (ls : Array Slot) (hS : St b C n M s H locs) (hl : lv_has ls 5 []) (hT : t_Formula_join_L251 x1 x2 x3 M v0_ = some res) : W p l e (headSpec (wsM y_Formula_join b_Formula_join 5 (some .long)) (rmD 2)).room s m ([vI x1, .long x2, .long x3] : List Value).toArray below meth c H locs 0 0 (MQ below (QL b C n M res) ([vI x1, .long x2, .long x3] : List Value).toArray s 0 0 (frb b)) (F0 m 251 ls [vI v0_]) := by
  unfold t_Formula_join_L251 at hT
  obtain ⟨q60, hq60⟩ : ∃ q, q = (t_Formula_asBit M v0_) := ⟨_, rfl⟩
  replace hT := qlet_eq hT hq60
  refine r_backL F hS (r_runS (As := [vI v0_]) F hS (c_Formula_asBit l F.2.2.1 M v0_ (inr_z hv0_) _ hq60.symm) gs_Formula_107 hd_Formula_asBit ⟨Nat.le_of_ble_eq_true rfl, Nat.le_of_ble_eq_true rfl⟩ rfl hl.1 (Nat.le_of_ble_eq_true rfl) ⟨Nat.zero_le _, Nat.zero_le _⟩ rfl d_Formula_join_251) (fun H locs hS => ?_)
  cases hT
  exact r_lret F hlk hr hS d_Formula_join_254
set_option maxHeartbeats 4000000 in
set_option maxRecDepth 100000 in
theorem k_Formula_join_L266 (l : Launch) {p : Program} {e : Env} {s : State} {m : MethodId} {below : List Frame} {meth : Method} {c : Code} {b n : Nat} {C : CT} (hlo : 191 ≤ n) (x1 : Int) (x2 : Int64) (x3 : Int64) (hx1 : InR x1) (F : Cx b p m c b_Formula_join 5 s ([vI x1, .long x2, .long x3] : List Value).toArray "WardFalls$Formula" C n 191) (hlk : meth.locks = false) (hr : meth.sig.returnType = some .long) {res : Int64} (M : Mem) (v0_ : Int) (hv0_ : v0_ = 0 ∨ v0_ = 1) (H : Heap) (locs : List Loc) (ls : Array Slot) (hS : St b C n M s H locs) (hl : lv_has ls 5 []) (hT : t_Formula_join_L266 x1 x2 x3 M v0_ = some res) : W p l e (headSpec (wsM y_Formula_join b_Formula_join 5 (some .long)) (rmD 2)).room s m ([vI x1, .long x2, .long x3] : List Value).toArray below meth c H locs 0 0 (MQ below (QL b C n M res) ([vI x1, .long x2, .long x3] : List Value).toArray s 0 0 (frb b)) (F0 m 266 ls [vI v0_]) := by
  unfold t_Formula_join_L266 at hT
  obtain ⟨q62, hq62⟩ : ∃ q, q = (t_Formula_asBit M v0_) := ⟨_, rfl⟩
  replace hT := qlet_eq hT hq62
  refine r_backL F hS (r_runS (As := [vI v0_]) F hS (c_Formula_asBit l F.2.2.1 M v0_ (inr_z hv0_) _ hq62.symm) gs_Formula_107 hd_Formula_asBit ⟨Nat.le_of_ble_eq_true rfl, Nat.le_of_ble_eq_true rfl⟩ rfl hl.1 (Nat.le_of_ble_eq_true rfl) ⟨Nat.zero_le _, Nat.zero_le _⟩ rfl d_Formula_join_266) (fun H locs hS => ?_)
  cases hT
  exact r_lret F hlk hr hS d_Formula_join_269
set_option maxHeartbeats 4000000 in
set_option maxRecDepth 100000 in
theorem k_Formula_join_L281 (l : Launch) {p : Program} {e : Env} {s : State} {m : MethodId} {below : List Frame} {meth : Method} {c : Code} {b n : Nat} {C : CT} (hlo : 191 ≤ n) (x1 : Int) (x2 : Int64) (x3 : Int64) (hx1 : InR x1) (F : Cx b p m c b_Formula_join 5 s ([vI x1, .long x2, .long x3] : List Value).toArray "WardFalls$Formula" C n 191) (hlk : meth.locks = false) (hr : meth.sig.returnType = some .long) {res : Int64} (M : Mem) (v0_ : Int) (hv0_ : v0_ = 0 ∨ v0_ = 1) (H : Heap) (locs : List Loc) (ls : Array Slot) (hS : St b C n M s H locs) (hl : lv_has ls 5 []) (hT : t_Formula_join_L281 x1 x2 x3 M v0_ = some res) : W p l e (headSpec (wsM y_Formula_join b_Formula_join 5 (some .long)) (rmD 2)).room s m ([vI x1, .long x2, .long x3] : List Value).toArray below meth c H locs 0 0 (MQ below (QL b C n M res) ([vI x1, .long x2, .long x3] : List Value).toArray s 0 0 (frb b)) (F0 m 281 ls [vI v0_]) := by
  unfold t_Formula_join_L281 at hT
  obtain ⟨q64, hq64⟩ : ∃ q, q = (t_Formula_asBit M v0_) := ⟨_, rfl⟩
  replace hT := qlet_eq hT hq64
  refine r_backL F hS (r_runS (As := [vI v0_]) F hS (c_Formula_asBit l F.2.2.1 M v0_ (inr_z hv0_) _ hq64.symm) gs_Formula_107 hd_Formula_asBit ⟨Nat.le_of_ble_eq_true rfl, Nat.le_of_ble_eq_true rfl⟩ rfl hl.1 (Nat.le_of_ble_eq_true rfl) ⟨Nat.zero_le _, Nat.zero_le _⟩ rfl d_Formula_join_281) (fun H locs hS => ?_)
  cases hT
  exact r_lret F hlk hr hS d_Formula_join_284
set_option maxHeartbeats 4000000 in
set_option maxRecDepth 100000 in
theorem k_Formula_join_L296 (l : Launch) {p : Program} {e : Env} {s : State} {m : MethodId} {below : List Frame} {meth : Method} {c : Code} {b n : Nat} {C : CT} (hlo : 191 ≤ n) (x1 : Int) (x2 : Int64) (x3 : Int64) (hx1 : InR x1) (F : Cx b p m c b_Formula_join 5 s ([vI x1, .long x2, .long x3] : List Value).toArray "WardFalls$Formula" C n 191) (hlk : meth.locks = false) (hr : meth.sig.returnType = some .long) {res : Int64} (M : Mem) (v0_ : Int) (hv0_ : v0_ = 0 ∨ v0_ = 1) (H : Heap) (locs : List Loc) (ls : Array Slot) (hS : St b C n M s H locs) (hl : lv_has ls 5 []) (hT : t_Formula_join_L296 x1 x2 x3 M v0_ = some res) : W p l e (headSpec (wsM y_Formula_join b_Formula_join 5 (some .long)) (rmD 2)).room s m ([vI x1, .long x2, .long x3] : List Value).toArray below meth c H locs 0 0 (MQ below (QL b C n M res) ([vI x1, .long x2, .long x3] : List Value).toArray s 0 0 (frb b)) (F0 m 296 ls [vI v0_]) := by
  unfold t_Formula_join_L296 at hT
  obtain ⟨q66, hq66⟩ : ∃ q, q = (t_Formula_asBit M v0_) := ⟨_, rfl⟩
  replace hT := qlet_eq hT hq66
  refine r_backL F hS (r_runS (As := [vI v0_]) F hS (c_Formula_asBit l F.2.2.1 M v0_ (inr_z hv0_) _ hq66.symm) gs_Formula_107 hd_Formula_asBit ⟨Nat.le_of_ble_eq_true rfl, Nat.le_of_ble_eq_true rfl⟩ rfl hl.1 (Nat.le_of_ble_eq_true rfl) ⟨Nat.zero_le _, Nat.zero_le _⟩ rfl d_Formula_join_296) (fun H locs hS => ?_)
  cases hT
  exact r_lret F hlk hr hS d_Formula_join_299
set_option maxHeartbeats 4000000 in
set_option maxRecDepth 100000 in
theorem k_Formula_join_L314 (l : Launch) {p : Program} {e : Env} {s : State} {m : MethodId} {below : List Frame} {meth : Method} {c : Code} {b n : Nat} {C : CT} (hlo : 191 ≤ n) (x1 : Int) (x2 : Int64) (x3 : Int64) (hx1 : InR x1) (F : Cx b p m c b_Formula_join 5 s ([vI x1, .long x2, .long x3] : List Value).toArray "WardFalls$Formula" C n 191) (hlk : meth.locks = false) (hr : meth.sig.returnType = some .long) {res : Int64} (M : Mem)  (H : Heap) (locs : List Loc) (ls : Array Slot) (hS : St b C n M s H locs) (hl : lv_has ls 5 [(1, .long x2), (3, .long x3)]) (hT : t_Formula_join_L314 x1 x2 x3 M = some res) : W p l e (headSpec (wsM y_Formula_join b_Formula_join 5 (some .long)) (rmD 2)).room s m ([vI x1, .long x2, .long x3] : List Value).toArray below meth c H locs 0 0 (MQ below (QL b C n M res) ([vI x1, .long x2, .long x3] : List Value).toArray s 0 0 (frb b)) (F0 m 314 ls []) := by
  unfold t_Formula_join_L314 at hT
  refine lv_lload_n F.hx F.hb d_Formula_join_314 rfl (lv_at hl 1 rfl) ?_
  refine lv_lconst (v := 0) F.hx F.hb d_Formula_join_315 rfl ?_
  refine W.lcmp F.hx F.hb d_Formula_join_316 ?_
  refine r_lif_ne (tgt := 326) F.hx F.hb  d_Formula_join_317 (by decide) (fun c55 => ?_) (fun c55 => ?_)
  · replace hT := (if_neg c55).symm.trans hT
    refine lv_lload_n F.hx F.hb d_Formula_join_326 rfl (lv_at hl 0 rfl) ?_
    refine lv_lload_n F.hx F.hb d_Formula_join_327 rfl (lv_at hl 1 rfl) ?_
    refine lv_ldiv F.hx F.hb d_Formula_join_328 c55 ?_
    cases hT
    exact r_lret F hlk hr hS d_Formula_join_329
  · replace hT := (if_pos c55).symm.trans hT
    refine lv_ldc2 (v := (-9223372036854775808)) F.hx F.hb F.hown (F.hts mw_902) d_Formula_join_320 ?_
    refine lv_goto (tgt := 329) F.hx F.hb d_Formula_join_323 (by decide) ?_
    cases hT
    exact r_lret F hlk hr hS d_Formula_join_329
set_option maxHeartbeats 4000000 in
set_option maxRecDepth 100000 in
theorem c_Formula_join (l : Launch) {b n : Nat} {C : CT} (hlo : 191 ≤ n) (M : Mem) (x1 : Int) (x2 : Int64) (x3 : Int64) (hx1 : InR x1) (res : Int64) (hT : t_Formula_join M x1 x2 x3 = some res) : CM l b C n 2 y_Formula_join b_Formula_join 5 (some .long) [vI x1, .long x2, .long x3] M (QL b C n M res) := by
  refine CM.of (lo := 191) (ow := "WardFalls$Formula") (by decide) rfl (Nat.le_of_ble_eq_true rfl) hlo (fun p e s m below meth c F hlk hr hS ls hl => ?_)
  have hl : lv_has ls 5 [(0, vI x1), (1, .long x2), (3, .long x3)] := hl
  unfold t_Formula_join at hT
  refine lv_iload_n F.hx F.hb d_Formula_join_0 rfl (lv_at hl 0 rfl) ?_
  rcases q_ite hT with ⟨c1, hT⟩ | ⟨c1, hT⟩
  · refine r_tableIn (i := 15) (tgt := 168) F.hx F.hb hx1 c1 d_Formula_join_1 (by decide) (by decide) rfl (by decide) ?_
    refine lv_lload_n F.hx F.hb d_Formula_join_168 rfl (lv_at hl 1 rfl) ?_
    refine lv_lconst (v := 0) F.hx F.hb d_Formula_join_169 rfl ?_
    refine W.lcmp F.hx F.hb d_Formula_join_170 ?_
    refine r_lif_ne (tgt := 180) F.hx F.hb  d_Formula_join_171 (by decide) (fun c2 => ?_) (fun c2 => ?_)
    · replace hT := (if_neg c2).symm.trans hT
      exact k_Formula_join_L180 l hlo x1 x2 x3 hx1 F hlk hr M _ _ _ hS (lv_sub hl [] rfl) hT
    · replace hT := (if_pos c2).symm.trans hT
      refine lv_lload_n F.hx F.hb d_Formula_join_174 rfl (lv_at hl 2 rfl) ?_
      refine lv_lconst (v := 0) F.hx F.hb d_Formula_join_175 rfl ?_
      refine W.lcmp F.hx F.hb d_Formula_join_176 ?_
      refine r_lif_eq (tgt := 184) F.hx F.hb  d_Formula_join_177 (by decide) (fun c3 => ?_) (fun c3 => ?_)
      · replace hT := (if_pos c3).symm.trans hT
        refine r_iconst F.hx F.hb d_Formula_join_184 ?_
        exact k_Formula_join_L185 l hlo x1 x2 x3 hx1 F hlk hr M 0 (Or.inl rfl) _ _ _ hS (lv_sub hl [] rfl) hT
      · replace hT := (if_neg c3).symm.trans hT
        exact k_Formula_join_L180 l hlo x1 x2 x3 hx1 F hlk hr M _ _ _ hS (lv_sub hl [] rfl) hT
  ·
    rcases q_ite hT with ⟨c4, hT⟩ | ⟨c4, hT⟩
    · refine r_tableIn (i := 16) (tgt := 189) F.hx F.hb hx1 c4 d_Formula_join_1 (by decide) (by decide) rfl (by decide) ?_
      refine lv_lload_n F.hx F.hb d_Formula_join_189 rfl (lv_at hl 1 rfl) ?_
      refine lv_lconst (v := 0) F.hx F.hb d_Formula_join_190 rfl ?_
      refine W.lcmp F.hx F.hb d_Formula_join_191 ?_
      refine r_lif_eq (tgt := 205) F.hx F.hb  d_Formula_join_192 (by decide) (fun c5 => ?_) (fun c5 => ?_)
      · replace hT := (if_pos c5).symm.trans hT
        exact k_Formula_join_L205 l hlo x1 x2 x3 hx1 F hlk hr M _ _ _ hS (lv_sub hl [] rfl) hT
      · replace hT := (if_neg c5).symm.trans hT
        refine lv_lload_n F.hx F.hb d_Formula_join_195 rfl (lv_at hl 2 rfl) ?_
        refine lv_lconst (v := 0) F.hx F.hb d_Formula_join_196 rfl ?_
        refine W.lcmp F.hx F.hb d_Formula_join_197 ?_
        refine r_lif_eq (tgt := 205) F.hx F.hb  d_Formula_join_198 (by decide) (fun c6 => ?_) (fun c6 => ?_)
        · replace hT := (if_pos c6).symm.trans hT
          exact k_Formula_join_L205 l hlo x1 x2 x3 hx1 F hlk hr M _ _ _ hS (lv_sub hl [] rfl) hT
        · replace hT := (if_neg c6).symm.trans hT
          refine r_iconst F.hx F.hb d_Formula_join_201 ?_
          refine lv_goto (tgt := 206) F.hx F.hb d_Formula_join_202 (by decide) ?_
          exact k_Formula_join_L206 l hlo x1 x2 x3 hx1 F hlk hr M 1 (Or.inr rfl) _ _ _ hS (lv_sub hl [] rfl) hT
    ·
      rcases q_ite hT with ⟨c7, hT⟩ | ⟨c7, hT⟩
      · refine r_tableIn (i := 17) (tgt := 314) F.hx F.hb hx1 c7 d_Formula_join_1 (by decide) (by decide) rfl (by decide) ?_
        exact k_Formula_join_L314 l hlo x1 x2 x3 hx1 F hlk hr M _ _ _ hS (lv_sub hl [1, 2] rfl) hT
      ·
        rcases q_ite hT with ⟨c8, hT⟩ | ⟨c8, hT⟩
        · refine r_tableIn (i := 18) (tgt := 314) F.hx F.hb hx1 c8 d_Formula_join_1 (by decide) (by decide) rfl (by decide) ?_
          exact k_Formula_join_L314 l hlo x1 x2 x3 hx1 F hlk hr M _ _ _ hS (lv_sub hl [1, 2] rfl) hT
        ·
          rcases q_ite hT with ⟨c9, hT⟩ | ⟨c9, hT⟩
          · refine r_tableIn (i := 19) (tgt := 314) F.hx F.hb hx1 c9 d_Formula_join_1 (by decide) (by decide) rfl (by decide) ?_
            exact k_Formula_join_L314 l hlo x1 x2 x3 hx1 F hlk hr M _ _ _ hS (lv_sub hl [1, 2] rfl) hT
          ·
            rcases q_ite hT with ⟨c10, hT⟩ | ⟨c10, hT⟩
            · refine r_tableIn (i := 20) (tgt := 314) F.hx F.hb hx1 c10 d_Formula_join_1 (by decide) (by decide) rfl (by decide) ?_
              exact k_Formula_join_L314 l hlo x1 x2 x3 hx1 F hlk hr M _ _ _ hS (lv_sub hl [1, 2] rfl) hT
            ·
              rcases q_ite hT with ⟨c11, hT⟩ | ⟨c11, hT⟩
              · refine r_tableIn (i := 21) (tgt := 314) F.hx F.hb hx1 c11 d_Formula_join_1 (by decide) (by decide) rfl (by decide) ?_
                exact k_Formula_join_L314 l hlo x1 x2 x3 hx1 F hlk hr M _ _ _ hS (lv_sub hl [1, 2] rfl) hT
              ·
                rcases q_ite hT with ⟨c12, hT⟩ | ⟨c12, hT⟩
                · refine r_tableIn (i := 22) (tgt := 314) F.hx F.hb hx1 c12 d_Formula_join_1 (by decide) (by decide) rfl (by decide) ?_
                  exact k_Formula_join_L314 l hlo x1 x2 x3 hx1 F hlk hr M _ _ _ hS (lv_sub hl [1, 2] rfl) hT
                ·
                  rcases q_ite hT with ⟨c13, hT⟩ | ⟨c13, hT⟩
                  · refine r_tableIn (i := 23) (tgt := 314) F.hx F.hb hx1 c13 d_Formula_join_1 (by decide) (by decide) rfl (by decide) ?_
                    exact k_Formula_join_L314 l hlo x1 x2 x3 hx1 F hlk hr M _ _ _ hS (lv_sub hl [1, 2] rfl) hT
                  ·
                    rcases q_ite hT with ⟨c14, hT⟩ | ⟨c14, hT⟩
                    · refine r_tableIn (i := 24) (tgt := 314) F.hx F.hb hx1 c14 d_Formula_join_1 (by decide) (by decide) rfl (by decide) ?_
                      exact k_Formula_join_L314 l hlo x1 x2 x3 hx1 F hlk hr M _ _ _ hS (lv_sub hl [1, 2] rfl) hT
                    ·
                      rcases q_ite hT with ⟨c15, hT⟩ | ⟨c15, hT⟩
                      · refine r_tableIn (i := 25) (tgt := 314) F.hx F.hb hx1 c15 d_Formula_join_1 (by decide) (by decide) rfl (by decide) ?_
                        exact k_Formula_join_L314 l hlo x1 x2 x3 hx1 F hlk hr M _ _ _ hS (lv_sub hl [1, 2] rfl) hT
                      ·
                        rcases q_ite hT with ⟨c16, hT⟩ | ⟨c16, hT⟩
                        · refine r_tableIn (i := 26) (tgt := 314) F.hx F.hb hx1 c16 d_Formula_join_1 (by decide) (by decide) rfl (by decide) ?_
                          exact k_Formula_join_L314 l hlo x1 x2 x3 hx1 F hlk hr M _ _ _ hS (lv_sub hl [1, 2] rfl) hT
                        ·
                          rcases q_ite hT with ⟨c17, hT⟩ | ⟨c17, hT⟩
                          · refine r_tableIn (i := 27) (tgt := 314) F.hx F.hb hx1 c17 d_Formula_join_1 (by decide) (by decide) rfl (by decide) ?_
                            exact k_Formula_join_L314 l hlo x1 x2 x3 hx1 F hlk hr M _ _ _ hS (lv_sub hl [1, 2] rfl) hT
                          ·
                            rcases q_ite hT with ⟨c18, hT⟩ | ⟨c18, hT⟩
                            · refine r_tableIn (i := 28) (tgt := 314) F.hx F.hb hx1 c18 d_Formula_join_1 (by decide) (by decide) rfl (by decide) ?_
                              exact k_Formula_join_L314 l hlo x1 x2 x3 hx1 F hlk hr M _ _ _ hS (lv_sub hl [1, 2] rfl) hT
                            ·
                              rcases q_ite hT with ⟨c19, hT⟩ | ⟨c19, hT⟩
                              · refine r_tableIn (i := 29) (tgt := 314) F.hx F.hb hx1 c19 d_Formula_join_1 (by decide) (by decide) rfl (by decide) ?_
                                exact k_Formula_join_L314 l hlo x1 x2 x3 hx1 F hlk hr M _ _ _ hS (lv_sub hl [1, 2] rfl) hT
                              ·
                                rcases q_ite hT with ⟨c20, hT⟩ | ⟨c20, hT⟩
                                · refine r_tableIn (i := 30) (tgt := 314) F.hx F.hb hx1 c20 d_Formula_join_1 (by decide) (by decide) rfl (by decide) ?_
                                  exact k_Formula_join_L314 l hlo x1 x2 x3 hx1 F hlk hr M _ _ _ hS (lv_sub hl [1, 2] rfl) hT
                                ·
                                  rcases q_ite hT with ⟨c21, hT⟩ | ⟨c21, hT⟩
                                  · refine r_tableIn (i := 31) (tgt := 314) F.hx F.hb hx1 c21 d_Formula_join_1 (by decide) (by decide) rfl (by decide) ?_
                                    exact k_Formula_join_L314 l hlo x1 x2 x3 hx1 F hlk hr M _ _ _ hS (lv_sub hl [1, 2] rfl) hT
                                  ·
                                    rcases q_ite hT with ⟨c22, hT⟩ | ⟨c22, hT⟩
                                    · refine r_tableIn (i := 32) (tgt := 314) F.hx F.hb hx1 c22 d_Formula_join_1 (by decide) (by decide) rfl (by decide) ?_
                                      exact k_Formula_join_L314 l hlo x1 x2 x3 hx1 F hlk hr M _ _ _ hS (lv_sub hl [1, 2] rfl) hT
                                    ·
                                      rcases q_ite hT with ⟨c23, hT⟩ | ⟨c23, hT⟩
                                      · refine r_tableIn (i := 33) (tgt := 314) F.hx F.hb hx1 c23 d_Formula_join_1 (by decide) (by decide) rfl (by decide) ?_
                                        exact k_Formula_join_L314 l hlo x1 x2 x3 hx1 F hlk hr M _ _ _ hS (lv_sub hl [1, 2] rfl) hT
                                      ·
                                        rcases q_ite hT with ⟨c24, hT⟩ | ⟨c24, hT⟩
                                        · refine r_tableIn (i := 34) (tgt := 314) F.hx F.hb hx1 c24 d_Formula_join_1 (by decide) (by decide) rfl (by decide) ?_
                                          exact k_Formula_join_L314 l hlo x1 x2 x3 hx1 F hlk hr M _ _ _ hS (lv_sub hl [1, 2] rfl) hT
                                        ·
                                          rcases q_ite hT with ⟨c25, hT⟩ | ⟨c25, hT⟩
                                          · refine r_tableIn (i := 35) (tgt := 314) F.hx F.hb hx1 c25 d_Formula_join_1 (by decide) (by decide) rfl (by decide) ?_
                                            exact k_Formula_join_L314 l hlo x1 x2 x3 hx1 F hlk hr M _ _ _ hS (lv_sub hl [1, 2] rfl) hT
                                          ·
                                            rcases q_ite hT with ⟨c26, hT⟩ | ⟨c26, hT⟩
                                            · refine r_tableIn (i := 36) (tgt := 314) F.hx F.hb hx1 c26 d_Formula_join_1 (by decide) (by decide) rfl (by decide) ?_
                                              exact k_Formula_join_L314 l hlo x1 x2 x3 hx1 F hlk hr M _ _ _ hS (lv_sub hl [1, 2] rfl) hT
                                            ·
                                              rcases q_ite hT with ⟨c27, hT⟩ | ⟨c27, hT⟩
                                              · refine r_tableIn (i := 37) (tgt := 314) F.hx F.hb hx1 c27 d_Formula_join_1 (by decide) (by decide) rfl (by decide) ?_
                                                exact k_Formula_join_L314 l hlo x1 x2 x3 hx1 F hlk hr M _ _ _ hS (lv_sub hl [1, 2] rfl) hT
                                              ·
                                                rcases q_ite hT with ⟨c28, hT⟩ | ⟨c28, hT⟩
                                                · refine r_tableIn (i := 38) (tgt := 314) F.hx F.hb hx1 c28 d_Formula_join_1 (by decide) (by decide) rfl (by decide) ?_
                                                  exact k_Formula_join_L314 l hlo x1 x2 x3 hx1 F hlk hr M _ _ _ hS (lv_sub hl [1, 2] rfl) hT
                                                ·
                                                  rcases q_ite hT with ⟨c29, hT⟩ | ⟨c29, hT⟩
                                                  · refine r_tableIn (i := 39) (tgt := 314) F.hx F.hb hx1 c29 d_Formula_join_1 (by decide) (by decide) rfl (by decide) ?_
                                                    exact k_Formula_join_L314 l hlo x1 x2 x3 hx1 F hlk hr M _ _ _ hS (lv_sub hl [1, 2] rfl) hT
                                                  ·
                                                    rcases q_ite hT with ⟨c30, hT⟩ | ⟨c30, hT⟩
                                                    · refine r_tableIn (i := 40) (tgt := 314) F.hx F.hb hx1 c30 d_Formula_join_1 (by decide) (by decide) rfl (by decide) ?_
                                                      exact k_Formula_join_L314 l hlo x1 x2 x3 hx1 F hlk hr M _ _ _ hS (lv_sub hl [1, 2] rfl) hT
                                                    ·
                                                      rcases q_ite hT with ⟨c31, hT⟩ | ⟨c31, hT⟩
                                                      · refine r_tableIn (i := 41) (tgt := 314) F.hx F.hb hx1 c31 d_Formula_join_1 (by decide) (by decide) rfl (by decide) ?_
                                                        exact k_Formula_join_L314 l hlo x1 x2 x3 hx1 F hlk hr M _ _ _ hS (lv_sub hl [1, 2] rfl) hT
                                                      ·
                                                        rcases q_ite hT with ⟨c32, hT⟩ | ⟨c32, hT⟩
                                                        · refine r_tableIn (i := 42) (tgt := 314) F.hx F.hb hx1 c32 d_Formula_join_1 (by decide) (by decide) rfl (by decide) ?_
                                                          exact k_Formula_join_L314 l hlo x1 x2 x3 hx1 F hlk hr M _ _ _ hS (lv_sub hl [1, 2] rfl) hT
                                                        ·
                                                          rcases q_ite hT with ⟨c33, hT⟩ | ⟨c33, hT⟩
                                                          · refine r_tableIn (i := 43) (tgt := 300) F.hx F.hb hx1 c33 d_Formula_join_1 (by decide) (by decide) rfl (by decide) ?_
                                                            refine lv_lload_n F.hx F.hb d_Formula_join_300 rfl (lv_at hl 1 rfl) ?_
                                                            refine lv_lload_n F.hx F.hb d_Formula_join_301 rfl (lv_at hl 2 rfl) ?_
                                                            refine lv_ladd F.hx F.hb d_Formula_join_302 ?_
                                                            cases hT
                                                            exact r_lret F hlk hr hS d_Formula_join_303
                                                          ·
                                                            rcases q_ite hT with ⟨c34, hT⟩ | ⟨c34, hT⟩
                                                            · refine r_tableIn (i := 44) (tgt := 304) F.hx F.hb hx1 c34 d_Formula_join_1 (by decide) (by decide) rfl (by decide) ?_
                                                              refine lv_lload_n F.hx F.hb d_Formula_join_304 rfl (lv_at hl 1 rfl) ?_
                                                              refine lv_lload_n F.hx F.hb d_Formula_join_305 rfl (lv_at hl 2 rfl) ?_
                                                              refine lv_lsub F.hx F.hb d_Formula_join_306 ?_
                                                              cases hT
                                                              exact r_lret F hlk hr hS d_Formula_join_307
                                                            ·
                                                              rcases q_ite hT with ⟨c35, hT⟩ | ⟨c35, hT⟩
                                                              · refine r_tableIn (i := 45) (tgt := 308) F.hx F.hb hx1 c35 d_Formula_join_1 (by decide) (by decide) rfl (by decide) ?_
                                                                refine lv_lload_n F.hx F.hb d_Formula_join_308 rfl (lv_at hl 1 rfl) ?_
                                                                refine lv_lload_n F.hx F.hb d_Formula_join_309 rfl (lv_at hl 2 rfl) ?_
                                                                obtain ⟨q36, hq36, hT⟩ := q_obind hT
                                                                refine r_backL F hS (r_runS (As := [.long x2, .long x3]) F hS (c_Formula_product l F.2.2.1 M x2 x3 _ hq36) gs_Formula_119 hd_Formula_product ⟨Nat.le_of_ble_eq_true rfl, Nat.le_of_ble_eq_true rfl⟩ rfl hl.1 (Nat.le_of_ble_eq_true rfl) ⟨Nat.zero_le _, Nat.zero_le _⟩ rfl d_Formula_join_310) (fun H locs hS => ?_)
                                                                cases hT
                                                                exact r_lret F hlk hr hS d_Formula_join_313
                                                              ·
                                                                rcases q_ite hT with ⟨c38, hT⟩ | ⟨c38, hT⟩
                                                                · refine r_tableIn (i := 46) (tgt := 314) F.hx F.hb hx1 c38 d_Formula_join_1 (by decide) (by decide) rfl (by decide) ?_
                                                                  exact k_Formula_join_L314 l hlo x1 x2 x3 hx1 F hlk hr M _ _ _ hS (lv_sub hl [1, 2] rfl) hT
                                                                ·
                                                                  rcases q_ite hT with ⟨c39, hT⟩ | ⟨c39, hT⟩
                                                                  · refine r_tableIn (i := 47) (tgt := 210) F.hx F.hb hx1 c39 d_Formula_join_1 (by decide) (by decide) rfl (by decide) ?_
                                                                    refine lv_lload_n F.hx F.hb d_Formula_join_210 rfl (lv_at hl 1 rfl) ?_
                                                                    refine lv_lload_n F.hx F.hb d_Formula_join_211 rfl (lv_at hl 2 rfl) ?_
                                                                    refine W.lcmp F.hx F.hb d_Formula_join_212 ?_
                                                                    refine r_lif_ge (tgt := 220) F.hx F.hb  d_Formula_join_213 (by decide) (fun c40 => ?_) (fun c40 => ?_)
                                                                    · replace hT := (if_pos c40).symm.trans hT
                                                                      refine r_iconst F.hx F.hb d_Formula_join_220 ?_
                                                                      exact k_Formula_join_L221 l hlo x1 x2 x3 hx1 F hlk hr M 0 (Or.inl rfl) _ _ _ hS (lv_sub hl [] rfl) hT
                                                                    · replace hT := (if_neg c40).symm.trans hT
                                                                      refine r_iconst F.hx F.hb d_Formula_join_216 ?_
                                                                      refine lv_goto (tgt := 221) F.hx F.hb d_Formula_join_217 (by decide) ?_
                                                                      exact k_Formula_join_L221 l hlo x1 x2 x3 hx1 F hlk hr M 1 (Or.inr rfl) _ _ _ hS (lv_sub hl [] rfl) hT
                                                                  ·
                                                                    rcases q_ite hT with ⟨c41, hT⟩ | ⟨c41, hT⟩
                                                                    · refine r_tableIn (i := 48) (tgt := 225) F.hx F.hb hx1 c41 d_Formula_join_1 (by decide) (by decide) rfl (by decide) ?_
                                                                      refine lv_lload_n F.hx F.hb d_Formula_join_225 rfl (lv_at hl 1 rfl) ?_
                                                                      refine lv_lload_n F.hx F.hb d_Formula_join_226 rfl (lv_at hl 2 rfl) ?_
                                                                      refine W.lcmp F.hx F.hb d_Formula_join_227 ?_
                                                                      refine r_lif_gt (tgt := 235) F.hx F.hb  d_Formula_join_228 (by decide) (fun c42 => ?_) (fun c42 => ?_)
                                                                      · replace hT := (if_pos c42).symm.trans hT
                                                                        refine r_iconst F.hx F.hb d_Formula_join_235 ?_
                                                                        exact k_Formula_join_L236 l hlo x1 x2 x3 hx1 F hlk hr M 0 (Or.inl rfl) _ _ _ hS (lv_sub hl [] rfl) hT
                                                                      · replace hT := (if_neg c42).symm.trans hT
                                                                        refine r_iconst F.hx F.hb d_Formula_join_231 ?_
                                                                        refine lv_goto (tgt := 236) F.hx F.hb d_Formula_join_232 (by decide) ?_
                                                                        exact k_Formula_join_L236 l hlo x1 x2 x3 hx1 F hlk hr M 1 (Or.inr rfl) _ _ _ hS (lv_sub hl [] rfl) hT
                                                                    ·
                                                                      rcases q_ite hT with ⟨c43, hT⟩ | ⟨c43, hT⟩
                                                                      · refine r_tableIn (i := 49) (tgt := 240) F.hx F.hb hx1 c43 d_Formula_join_1 (by decide) (by decide) rfl (by decide) ?_
                                                                        refine lv_lload_n F.hx F.hb d_Formula_join_240 rfl (lv_at hl 1 rfl) ?_
                                                                        refine lv_lload_n F.hx F.hb d_Formula_join_241 rfl (lv_at hl 2 rfl) ?_
                                                                        refine W.lcmp F.hx F.hb d_Formula_join_242 ?_
                                                                        refine r_lif_ne (tgt := 250) F.hx F.hb  d_Formula_join_243 (by decide) (fun c44 => ?_) (fun c44 => ?_)
                                                                        · replace hT := (if_neg c44).symm.trans hT
                                                                          refine r_iconst F.hx F.hb d_Formula_join_250 ?_
                                                                          exact k_Formula_join_L251 l hlo x1 x2 x3 hx1 F hlk hr M 0 (Or.inl rfl) _ _ _ hS (lv_sub hl [] rfl) hT
                                                                        · replace hT := (if_pos c44).symm.trans hT
                                                                          refine r_iconst F.hx F.hb d_Formula_join_246 ?_
                                                                          refine lv_goto (tgt := 251) F.hx F.hb d_Formula_join_247 (by decide) ?_
                                                                          exact k_Formula_join_L251 l hlo x1 x2 x3 hx1 F hlk hr M 1 (Or.inr rfl) _ _ _ hS (lv_sub hl [] rfl) hT
                                                                      ·
                                                                        rcases q_ite hT with ⟨c45, hT⟩ | ⟨c45, hT⟩
                                                                        · refine r_tableIn (i := 50) (tgt := 255) F.hx F.hb hx1 c45 d_Formula_join_1 (by decide) (by decide) rfl (by decide) ?_
                                                                          refine lv_lload_n F.hx F.hb d_Formula_join_255 rfl (lv_at hl 1 rfl) ?_
                                                                          refine lv_lload_n F.hx F.hb d_Formula_join_256 rfl (lv_at hl 2 rfl) ?_
                                                                          refine W.lcmp F.hx F.hb d_Formula_join_257 ?_
                                                                          refine r_lif_eq (tgt := 265) F.hx F.hb  d_Formula_join_258 (by decide) (fun c46 => ?_) (fun c46 => ?_)
                                                                          · replace hT := (if_pos c46).symm.trans hT
                                                                            refine r_iconst F.hx F.hb d_Formula_join_265 ?_
                                                                            exact k_Formula_join_L266 l hlo x1 x2 x3 hx1 F hlk hr M 0 (Or.inl rfl) _ _ _ hS (lv_sub hl [] rfl) hT
                                                                          · replace hT := (if_neg c46).symm.trans hT
                                                                            refine r_iconst F.hx F.hb d_Formula_join_261 ?_
                                                                            refine lv_goto (tgt := 266) F.hx F.hb d_Formula_join_262 (by decide) ?_
                                                                            exact k_Formula_join_L266 l hlo x1 x2 x3 hx1 F hlk hr M 1 (Or.inr rfl) _ _ _ hS (lv_sub hl [] rfl) hT
                                                                        ·
                                                                          rcases q_ite hT with ⟨c47, hT⟩ | ⟨c47, hT⟩
                                                                          · refine r_tableIn (i := 51) (tgt := 270) F.hx F.hb hx1 c47 d_Formula_join_1 (by decide) (by decide) rfl (by decide) ?_
                                                                            refine lv_lload_n F.hx F.hb d_Formula_join_270 rfl (lv_at hl 1 rfl) ?_
                                                                            refine lv_lload_n F.hx F.hb d_Formula_join_271 rfl (lv_at hl 2 rfl) ?_
                                                                            refine W.lcmp F.hx F.hb d_Formula_join_272 ?_
                                                                            refine r_lif_lt (tgt := 280) F.hx F.hb  d_Formula_join_273 (by decide) (fun c48 => ?_) (fun c48 => ?_)
                                                                            · replace hT := (if_pos c48).symm.trans hT
                                                                              refine r_iconst F.hx F.hb d_Formula_join_280 ?_
                                                                              exact k_Formula_join_L281 l hlo x1 x2 x3 hx1 F hlk hr M 0 (Or.inl rfl) _ _ _ hS (lv_sub hl [] rfl) hT
                                                                            · replace hT := (if_neg c48).symm.trans hT
                                                                              refine r_iconst F.hx F.hb d_Formula_join_276 ?_
                                                                              refine lv_goto (tgt := 281) F.hx F.hb d_Formula_join_277 (by decide) ?_
                                                                              exact k_Formula_join_L281 l hlo x1 x2 x3 hx1 F hlk hr M 1 (Or.inr rfl) _ _ _ hS (lv_sub hl [] rfl) hT
                                                                          ·
                                                                            rcases q_ite hT with ⟨c49, hT⟩ | ⟨c49, hT⟩
                                                                            · refine r_tableIn (i := 52) (tgt := 285) F.hx F.hb hx1 c49 d_Formula_join_1 (by decide) (by decide) rfl (by decide) ?_
                                                                              refine lv_lload_n F.hx F.hb d_Formula_join_285 rfl (lv_at hl 1 rfl) ?_
                                                                              refine lv_lload_n F.hx F.hb d_Formula_join_286 rfl (lv_at hl 2 rfl) ?_
                                                                              refine W.lcmp F.hx F.hb d_Formula_join_287 ?_
                                                                              refine r_lif_le (tgt := 295) F.hx F.hb  d_Formula_join_288 (by decide) (fun c50 => ?_) (fun c50 => ?_)
                                                                              · replace hT := (if_pos c50).symm.trans hT
                                                                                refine r_iconst F.hx F.hb d_Formula_join_295 ?_
                                                                                exact k_Formula_join_L296 l hlo x1 x2 x3 hx1 F hlk hr M 0 (Or.inl rfl) _ _ _ hS (lv_sub hl [] rfl) hT
                                                                              · replace hT := (if_neg c50).symm.trans hT
                                                                                refine r_iconst F.hx F.hb d_Formula_join_291 ?_
                                                                                refine lv_goto (tgt := 296) F.hx F.hb d_Formula_join_292 (by decide) ?_
                                                                                exact k_Formula_join_L296 l hlo x1 x2 x3 hx1 F hlk hr M 1 (Or.inr rfl) _ _ _ hS (lv_sub hl [] rfl) hT
                                                                            ·
                                                                              refine r_tableOut (tgt := 314) F.hx F.hb hx1 (by omega) d_Formula_join_1 (by decide) ?_
                                                                              exact k_Formula_join_L314 l hlo x1 x2 x3 hx1 F hlk hr M _ _ _ hS (lv_sub hl [1, 2] rfl) hT
end
section
theorem wn_Formula_value_0 : ∀ i, i < 94 → bA b_Formula_value (0 + i) = wB [3, 61, 3, 62, 29, 42, 180, 0, 25, 162, 0, 225, 42, 180, 0, 29, 153, 0, 218, 42, 180, 0, 9, 29, 184, 0, 54, 54, 4, 21, 4, 16, 31, 159, 0, 11, 21, 4, 184, 0, 76, 153, 0, 56, 28, 42, 180, 0, 18, 190, 161, 0, 7, 20, 0, 101, 173, 42, 180, 0, 18, 28, 21, 4, 16, 31, 160, 0, 15, 42, 180, 0, 15, 29, 184, 0, 54, 133, 167, 0, 12, 43, 21, 4, 16, 18, 100, 184, 0, 103, 80, 132, 2, 1] i := wB_of (by decide +kernel)
theorem d_Formula_value_0 : decode b_Formula_value 0 = .ok (.iconst 0, 1) := dc_3 (q0_win (r := 0) wn_Formula_value_0 (by decide +kernel))
theorem d_Formula_value_1 : decode b_Formula_value 1 = .ok (.istore_n 2, 1) := dc_61 (q0_win (r := 1) wn_Formula_value_0 (by decide +kernel))
theorem d_Formula_value_2 : decode b_Formula_value 2 = .ok (.iconst 0, 1) := dc_3 (q0_win (r := 2) wn_Formula_value_0 (by decide +kernel))
theorem d_Formula_value_3 : decode b_Formula_value 3 = .ok (.istore_n 3, 1) := dc_62 (q0_win (r := 3) wn_Formula_value_0 (by decide +kernel))
theorem d_Formula_value_4 : decode b_Formula_value 4 = .ok (.iload_n 3, 1) := dc_29 (q0_win (r := 4) wn_Formula_value_0 (by decide +kernel))
theorem d_Formula_value_5 : decode b_Formula_value 5 = .ok (.aload_n 0, 1) := dc_42 (q0_win (r := 5) wn_Formula_value_0 (by decide +kernel))
theorem d_Formula_value_6 : decode b_Formula_value 6 = .ok (.getfield 25, 3) := dc_180 (qU2_win (r := 6) wn_Formula_value_0 (by decide +kernel))
theorem d_Formula_value_9 : decode b_Formula_value 9 = .ok (.if_icmp .ge 225, 3) := dc_162 (qS2_win (r := 9) wn_Formula_value_0 (by decide +kernel))
theorem d_Formula_value_12 : decode b_Formula_value 12 = .ok (.aload_n 0, 1) := dc_42 (q0_win (r := 12) wn_Formula_value_0 (by decide +kernel))
theorem d_Formula_value_13 : decode b_Formula_value 13 = .ok (.getfield 29, 3) := dc_180 (qU2_win (r := 13) wn_Formula_value_0 (by decide +kernel))
theorem d_Formula_value_16 : decode b_Formula_value 16 = .ok (.ifCond .eq 218, 3) := dc_153 (qS2_win (r := 16) wn_Formula_value_0 (by decide +kernel))
theorem d_Formula_value_19 : decode b_Formula_value 19 = .ok (.aload_n 0, 1) := dc_42 (q0_win (r := 19) wn_Formula_value_0 (by decide +kernel))
theorem d_Formula_value_20 : decode b_Formula_value 20 = .ok (.getfield 9, 3) := dc_180 (qU2_win (r := 20) wn_Formula_value_0 (by decide +kernel))
theorem d_Formula_value_23 : decode b_Formula_value 23 = .ok (.iload_n 3, 1) := dc_29 (q0_win (r := 23) wn_Formula_value_0 (by decide +kernel))
theorem d_Formula_value_24 : decode b_Formula_value 24 = .ok (.invokestatic 54, 3) := dc_184 (qU2_win (r := 24) wn_Formula_value_0 (by decide +kernel))
theorem d_Formula_value_27 : decode b_Formula_value 27 = .ok (.istore 4, 2) := dc_54 (qU1_win (r := 27) wn_Formula_value_0 (by decide +kernel))
theorem d_Formula_value_29 : decode b_Formula_value 29 = .ok (.iload 4, 2) := dc_21 (qU1_win (r := 29) wn_Formula_value_0 (by decide +kernel))
theorem d_Formula_value_31 : decode b_Formula_value 31 = .ok (.bipush 31, 2) := dc_16 (qS1_win (r := 31) wn_Formula_value_0 (by decide +kernel))
theorem d_Formula_value_33 : decode b_Formula_value 33 = .ok (.if_icmp .eq 11, 3) := dc_159 (qS2_win (r := 33) wn_Formula_value_0 (by decide +kernel))
theorem d_Formula_value_36 : decode b_Formula_value 36 = .ok (.iload 4, 2) := dc_21 (qU1_win (r := 36) wn_Formula_value_0 (by decide +kernel))
theorem d_Formula_value_38 : decode b_Formula_value 38 = .ok (.invokestatic 76, 3) := dc_184 (qU2_win (r := 38) wn_Formula_value_0 (by decide +kernel))
theorem d_Formula_value_41 : decode b_Formula_value 41 = .ok (.ifCond .eq 56, 3) := dc_153 (qS2_win (r := 41) wn_Formula_value_0 (by decide +kernel))
theorem d_Formula_value_44 : decode b_Formula_value 44 = .ok (.iload_n 2, 1) := dc_28 (q0_win (r := 44) wn_Formula_value_0 (by decide +kernel))
theorem d_Formula_value_45 : decode b_Formula_value 45 = .ok (.aload_n 0, 1) := dc_42 (q0_win (r := 45) wn_Formula_value_0 (by decide +kernel))
theorem d_Formula_value_46 : decode b_Formula_value 46 = .ok (.getfield 18, 3) := dc_180 (qU2_win (r := 46) wn_Formula_value_0 (by decide +kernel))
theorem d_Formula_value_49 : decode b_Formula_value 49 = .ok (.arraylength, 1) := dc_190 (q0_win (r := 49) wn_Formula_value_0 (by decide +kernel))
theorem d_Formula_value_50 : decode b_Formula_value 50 = .ok (.if_icmp .lt 7, 3) := dc_161 (qS2_win (r := 50) wn_Formula_value_0 (by decide +kernel))
theorem d_Formula_value_53 : decode b_Formula_value 53 = .ok (.ldc2_w 101, 3) := dc_20 (qU2_win (r := 53) wn_Formula_value_0 (by decide +kernel))
theorem d_Formula_value_56 : decode b_Formula_value 56 = .ok (.lreturn, 1) := dc_173 (q0_win (r := 56) wn_Formula_value_0 (by decide +kernel))
theorem d_Formula_value_57 : decode b_Formula_value 57 = .ok (.aload_n 0, 1) := dc_42 (q0_win (r := 57) wn_Formula_value_0 (by decide +kernel))
theorem d_Formula_value_58 : decode b_Formula_value 58 = .ok (.getfield 18, 3) := dc_180 (qU2_win (r := 58) wn_Formula_value_0 (by decide +kernel))
theorem d_Formula_value_61 : decode b_Formula_value 61 = .ok (.iload_n 2, 1) := dc_28 (q0_win (r := 61) wn_Formula_value_0 (by decide +kernel))
theorem d_Formula_value_62 : decode b_Formula_value 62 = .ok (.iload 4, 2) := dc_21 (qU1_win (r := 62) wn_Formula_value_0 (by decide +kernel))
theorem d_Formula_value_64 : decode b_Formula_value 64 = .ok (.bipush 31, 2) := dc_16 (qS1_win (r := 64) wn_Formula_value_0 (by decide +kernel))
theorem d_Formula_value_66 : decode b_Formula_value 66 = .ok (.if_icmp .ne 15, 3) := dc_160 (qS2_win (r := 66) wn_Formula_value_0 (by decide +kernel))
theorem d_Formula_value_69 : decode b_Formula_value 69 = .ok (.aload_n 0, 1) := dc_42 (q0_win (r := 69) wn_Formula_value_0 (by decide +kernel))
theorem d_Formula_value_70 : decode b_Formula_value 70 = .ok (.getfield 15, 3) := dc_180 (qU2_win (r := 70) wn_Formula_value_0 (by decide +kernel))
theorem d_Formula_value_73 : decode b_Formula_value 73 = .ok (.iload_n 3, 1) := dc_29 (q0_win (r := 73) wn_Formula_value_0 (by decide +kernel))
theorem d_Formula_value_74 : decode b_Formula_value 74 = .ok (.invokestatic 54, 3) := dc_184 (qU2_win (r := 74) wn_Formula_value_0 (by decide +kernel))
theorem d_Formula_value_77 : decode b_Formula_value 77 = .ok (.i2l, 1) := dc_133 (q0_win (r := 77) wn_Formula_value_0 (by decide +kernel))
theorem d_Formula_value_78 : decode b_Formula_value 78 = .ok (.goto 12, 3) := dc_167 (qS2_win (r := 78) wn_Formula_value_0 (by decide +kernel))
theorem d_Formula_value_81 : decode b_Formula_value 81 = .ok (.aload_n 1, 1) := dc_43 (q0_win (r := 81) wn_Formula_value_0 (by decide +kernel))
theorem d_Formula_value_82 : decode b_Formula_value 82 = .ok (.iload 4, 2) := dc_21 (qU1_win (r := 82) wn_Formula_value_0 (by decide +kernel))
theorem d_Formula_value_84 : decode b_Formula_value 84 = .ok (.bipush 18, 2) := dc_16 (qS1_win (r := 84) wn_Formula_value_0 (by decide +kernel))
theorem d_Formula_value_86 : decode b_Formula_value 86 = .ok (.isub, 1) := dc_100 (q0_win (r := 86) wn_Formula_value_0 (by decide +kernel))
theorem d_Formula_value_87 : decode b_Formula_value 87 = .ok (.invokestatic 103, 3) := dc_184 (qU2_win (r := 87) wn_Formula_value_0 (by decide +kernel))
theorem d_Formula_value_90 : decode b_Formula_value 90 = .ok (.lastore, 1) := dc_80 (q0_win (r := 90) wn_Formula_value_0 (by decide +kernel))
theorem d_Formula_value_91 : decode b_Formula_value 91 = .ok (.iinc 2 1, 3) := dc_132 (qI_win (r := 91) wn_Formula_value_0 (by decide +kernel))
theorem wn_Formula_value_94 : ∀ i, i < 94 → bA b_Formula_value (94 + i) = wB [167, 0, 134, 28, 158, 0, 51, 28, 42, 180, 0, 18, 190, 163, 0, 42, 21, 4, 16, 17, 160, 0, 35, 42, 180, 0, 18, 28, 4, 100, 42, 180, 0, 18, 28, 4, 100, 47, 9, 148, 154, 0, 7, 4, 167, 0, 4, 3, 184, 0, 107, 80, 167, 0, 82, 28, 4, 164, 0, 73, 28, 42, 180, 0, 18, 190, 163, 0, 64, 21, 4, 42, 180, 0, 18, 28, 5, 100, 47, 42, 180, 0, 18, 28, 4, 100, 47, 184, 0, 111, 55, 5, 22, 5] i := wB_of (by decide +kernel)
theorem d_Formula_value_94 : decode b_Formula_value 94 = .ok (.goto 134, 3) := dc_167 (qS2_win (r := 0) wn_Formula_value_94 (by decide +kernel))
theorem d_Formula_value_97 : decode b_Formula_value 97 = .ok (.iload_n 2, 1) := dc_28 (q0_win (r := 3) wn_Formula_value_94 (by decide +kernel))
theorem d_Formula_value_98 : decode b_Formula_value 98 = .ok (.ifCond .le 51, 3) := dc_158 (qS2_win (r := 4) wn_Formula_value_94 (by decide +kernel))
theorem d_Formula_value_101 : decode b_Formula_value 101 = .ok (.iload_n 2, 1) := dc_28 (q0_win (r := 7) wn_Formula_value_94 (by decide +kernel))
theorem d_Formula_value_102 : decode b_Formula_value 102 = .ok (.aload_n 0, 1) := dc_42 (q0_win (r := 8) wn_Formula_value_94 (by decide +kernel))
theorem d_Formula_value_103 : decode b_Formula_value 103 = .ok (.getfield 18, 3) := dc_180 (qU2_win (r := 9) wn_Formula_value_94 (by decide +kernel))
theorem d_Formula_value_106 : decode b_Formula_value 106 = .ok (.arraylength, 1) := dc_190 (q0_win (r := 12) wn_Formula_value_94 (by decide +kernel))
theorem d_Formula_value_107 : decode b_Formula_value 107 = .ok (.if_icmp .gt 42, 3) := dc_163 (qS2_win (r := 13) wn_Formula_value_94 (by decide +kernel))
theorem d_Formula_value_110 : decode b_Formula_value 110 = .ok (.iload 4, 2) := dc_21 (qU1_win (r := 16) wn_Formula_value_94 (by decide +kernel))
theorem d_Formula_value_112 : decode b_Formula_value 112 = .ok (.bipush 17, 2) := dc_16 (qS1_win (r := 18) wn_Formula_value_94 (by decide +kernel))
theorem d_Formula_value_114 : decode b_Formula_value 114 = .ok (.if_icmp .ne 35, 3) := dc_160 (qS2_win (r := 20) wn_Formula_value_94 (by decide +kernel))
theorem d_Formula_value_117 : decode b_Formula_value 117 = .ok (.aload_n 0, 1) := dc_42 (q0_win (r := 23) wn_Formula_value_94 (by decide +kernel))
theorem d_Formula_value_118 : decode b_Formula_value 118 = .ok (.getfield 18, 3) := dc_180 (qU2_win (r := 24) wn_Formula_value_94 (by decide +kernel))
theorem d_Formula_value_121 : decode b_Formula_value 121 = .ok (.iload_n 2, 1) := dc_28 (q0_win (r := 27) wn_Formula_value_94 (by decide +kernel))
theorem d_Formula_value_122 : decode b_Formula_value 122 = .ok (.iconst 1, 1) := dc_4 (q0_win (r := 28) wn_Formula_value_94 (by decide +kernel))
theorem d_Formula_value_123 : decode b_Formula_value 123 = .ok (.isub, 1) := dc_100 (q0_win (r := 29) wn_Formula_value_94 (by decide +kernel))
theorem d_Formula_value_124 : decode b_Formula_value 124 = .ok (.aload_n 0, 1) := dc_42 (q0_win (r := 30) wn_Formula_value_94 (by decide +kernel))
theorem d_Formula_value_125 : decode b_Formula_value 125 = .ok (.getfield 18, 3) := dc_180 (qU2_win (r := 31) wn_Formula_value_94 (by decide +kernel))
theorem d_Formula_value_128 : decode b_Formula_value 128 = .ok (.iload_n 2, 1) := dc_28 (q0_win (r := 34) wn_Formula_value_94 (by decide +kernel))
theorem d_Formula_value_129 : decode b_Formula_value 129 = .ok (.iconst 1, 1) := dc_4 (q0_win (r := 35) wn_Formula_value_94 (by decide +kernel))
theorem d_Formula_value_130 : decode b_Formula_value 130 = .ok (.isub, 1) := dc_100 (q0_win (r := 36) wn_Formula_value_94 (by decide +kernel))
theorem d_Formula_value_131 : decode b_Formula_value 131 = .ok (.laload, 1) := dc_47 (q0_win (r := 37) wn_Formula_value_94 (by decide +kernel))
theorem d_Formula_value_132 : decode b_Formula_value 132 = .ok (.lconst 0, 1) := dc_9 (q0_win (r := 38) wn_Formula_value_94 (by decide +kernel))
theorem d_Formula_value_133 : decode b_Formula_value 133 = .ok (.lcmp, 1) := dc_148 (q0_win (r := 39) wn_Formula_value_94 (by decide +kernel))
theorem d_Formula_value_134 : decode b_Formula_value 134 = .ok (.ifCond .ne 7, 3) := dc_154 (qS2_win (r := 40) wn_Formula_value_94 (by decide +kernel))
theorem d_Formula_value_137 : decode b_Formula_value 137 = .ok (.iconst 1, 1) := dc_4 (q0_win (r := 43) wn_Formula_value_94 (by decide +kernel))
theorem d_Formula_value_138 : decode b_Formula_value 138 = .ok (.goto 4, 3) := dc_167 (qS2_win (r := 44) wn_Formula_value_94 (by decide +kernel))
theorem d_Formula_value_141 : decode b_Formula_value 141 = .ok (.iconst 0, 1) := dc_3 (q0_win (r := 47) wn_Formula_value_94 (by decide +kernel))
theorem d_Formula_value_142 : decode b_Formula_value 142 = .ok (.invokestatic 107, 3) := dc_184 (qU2_win (r := 48) wn_Formula_value_94 (by decide +kernel))
theorem d_Formula_value_145 : decode b_Formula_value 145 = .ok (.lastore, 1) := dc_80 (q0_win (r := 51) wn_Formula_value_94 (by decide +kernel))
theorem d_Formula_value_146 : decode b_Formula_value 146 = .ok (.goto 82, 3) := dc_167 (qS2_win (r := 52) wn_Formula_value_94 (by decide +kernel))
theorem d_Formula_value_149 : decode b_Formula_value 149 = .ok (.iload_n 2, 1) := dc_28 (q0_win (r := 55) wn_Formula_value_94 (by decide +kernel))
theorem d_Formula_value_150 : decode b_Formula_value 150 = .ok (.iconst 1, 1) := dc_4 (q0_win (r := 56) wn_Formula_value_94 (by decide +kernel))
theorem d_Formula_value_151 : decode b_Formula_value 151 = .ok (.if_icmp .le 73, 3) := dc_164 (qS2_win (r := 57) wn_Formula_value_94 (by decide +kernel))
theorem d_Formula_value_154 : decode b_Formula_value 154 = .ok (.iload_n 2, 1) := dc_28 (q0_win (r := 60) wn_Formula_value_94 (by decide +kernel))
theorem d_Formula_value_155 : decode b_Formula_value 155 = .ok (.aload_n 0, 1) := dc_42 (q0_win (r := 61) wn_Formula_value_94 (by decide +kernel))
theorem d_Formula_value_156 : decode b_Formula_value 156 = .ok (.getfield 18, 3) := dc_180 (qU2_win (r := 62) wn_Formula_value_94 (by decide +kernel))
theorem d_Formula_value_159 : decode b_Formula_value 159 = .ok (.arraylength, 1) := dc_190 (q0_win (r := 65) wn_Formula_value_94 (by decide +kernel))
theorem d_Formula_value_160 : decode b_Formula_value 160 = .ok (.if_icmp .gt 64, 3) := dc_163 (qS2_win (r := 66) wn_Formula_value_94 (by decide +kernel))
theorem d_Formula_value_163 : decode b_Formula_value 163 = .ok (.iload 4, 2) := dc_21 (qU1_win (r := 69) wn_Formula_value_94 (by decide +kernel))
theorem d_Formula_value_165 : decode b_Formula_value 165 = .ok (.aload_n 0, 1) := dc_42 (q0_win (r := 71) wn_Formula_value_94 (by decide +kernel))
theorem d_Formula_value_166 : decode b_Formula_value 166 = .ok (.getfield 18, 3) := dc_180 (qU2_win (r := 72) wn_Formula_value_94 (by decide +kernel))
theorem d_Formula_value_169 : decode b_Formula_value 169 = .ok (.iload_n 2, 1) := dc_28 (q0_win (r := 75) wn_Formula_value_94 (by decide +kernel))
theorem d_Formula_value_170 : decode b_Formula_value 170 = .ok (.iconst 2, 1) := dc_5 (q0_win (r := 76) wn_Formula_value_94 (by decide +kernel))
theorem d_Formula_value_171 : decode b_Formula_value 171 = .ok (.isub, 1) := dc_100 (q0_win (r := 77) wn_Formula_value_94 (by decide +kernel))
theorem d_Formula_value_172 : decode b_Formula_value 172 = .ok (.laload, 1) := dc_47 (q0_win (r := 78) wn_Formula_value_94 (by decide +kernel))
theorem d_Formula_value_173 : decode b_Formula_value 173 = .ok (.aload_n 0, 1) := dc_42 (q0_win (r := 79) wn_Formula_value_94 (by decide +kernel))
theorem d_Formula_value_174 : decode b_Formula_value 174 = .ok (.getfield 18, 3) := dc_180 (qU2_win (r := 80) wn_Formula_value_94 (by decide +kernel))
theorem d_Formula_value_177 : decode b_Formula_value 177 = .ok (.iload_n 2, 1) := dc_28 (q0_win (r := 83) wn_Formula_value_94 (by decide +kernel))
theorem d_Formula_value_178 : decode b_Formula_value 178 = .ok (.iconst 1, 1) := dc_4 (q0_win (r := 84) wn_Formula_value_94 (by decide +kernel))
theorem d_Formula_value_179 : decode b_Formula_value 179 = .ok (.isub, 1) := dc_100 (q0_win (r := 85) wn_Formula_value_94 (by decide +kernel))
theorem d_Formula_value_180 : decode b_Formula_value 180 = .ok (.laload, 1) := dc_47 (q0_win (r := 86) wn_Formula_value_94 (by decide +kernel))
theorem d_Formula_value_181 : decode b_Formula_value 181 = .ok (.invokestatic 111, 3) := dc_184 (qU2_win (r := 87) wn_Formula_value_94 (by decide +kernel))
theorem d_Formula_value_184 : decode b_Formula_value 184 = .ok (.lstore 5, 2) := dc_55 (qU1_win (r := 90) wn_Formula_value_94 (by decide +kernel))
theorem d_Formula_value_186 : decode b_Formula_value 186 = .ok (.lload 5, 2) := dc_22 (qU1_win (r := 92) wn_Formula_value_94 (by decide +kernel))
theorem wn_Formula_value_188 : ∀ i, i < 64 → bA b_Formula_value (188 + i) = wB [20, 0, 115, 148, 157, 0, 12, 22, 5, 20, 0, 117, 148, 156, 0, 7, 20, 0, 101, 173, 42, 180, 0, 18, 28, 5, 100, 22, 5, 80, 132, 2, 255, 167, 0, 7, 20, 0, 101, 173, 132, 3, 1, 167, 255, 29, 28, 4, 160, 0, 12, 42, 180, 0, 18, 3, 47, 167, 0, 6, 20, 0, 101, 173] i := wB_of (by decide +kernel)
theorem d_Formula_value_188 : decode b_Formula_value 188 = .ok (.ldc2_w 115, 3) := dc_20 (qU2_win (r := 0) wn_Formula_value_188 (by decide +kernel))
theorem d_Formula_value_191 : decode b_Formula_value 191 = .ok (.lcmp, 1) := dc_148 (q0_win (r := 3) wn_Formula_value_188 (by decide +kernel))
theorem d_Formula_value_192 : decode b_Formula_value 192 = .ok (.ifCond .gt 12, 3) := dc_157 (qS2_win (r := 4) wn_Formula_value_188 (by decide +kernel))
theorem d_Formula_value_195 : decode b_Formula_value 195 = .ok (.lload 5, 2) := dc_22 (qU1_win (r := 7) wn_Formula_value_188 (by decide +kernel))
theorem d_Formula_value_197 : decode b_Formula_value 197 = .ok (.ldc2_w 117, 3) := dc_20 (qU2_win (r := 9) wn_Formula_value_188 (by decide +kernel))
theorem d_Formula_value_200 : decode b_Formula_value 200 = .ok (.lcmp, 1) := dc_148 (q0_win (r := 12) wn_Formula_value_188 (by decide +kernel))
theorem d_Formula_value_201 : decode b_Formula_value 201 = .ok (.ifCond .ge 7, 3) := dc_156 (qS2_win (r := 13) wn_Formula_value_188 (by decide +kernel))
theorem d_Formula_value_204 : decode b_Formula_value 204 = .ok (.ldc2_w 101, 3) := dc_20 (qU2_win (r := 16) wn_Formula_value_188 (by decide +kernel))
theorem d_Formula_value_207 : decode b_Formula_value 207 = .ok (.lreturn, 1) := dc_173 (q0_win (r := 19) wn_Formula_value_188 (by decide +kernel))
theorem d_Formula_value_208 : decode b_Formula_value 208 = .ok (.aload_n 0, 1) := dc_42 (q0_win (r := 20) wn_Formula_value_188 (by decide +kernel))
theorem d_Formula_value_209 : decode b_Formula_value 209 = .ok (.getfield 18, 3) := dc_180 (qU2_win (r := 21) wn_Formula_value_188 (by decide +kernel))
theorem d_Formula_value_212 : decode b_Formula_value 212 = .ok (.iload_n 2, 1) := dc_28 (q0_win (r := 24) wn_Formula_value_188 (by decide +kernel))
theorem d_Formula_value_213 : decode b_Formula_value 213 = .ok (.iconst 2, 1) := dc_5 (q0_win (r := 25) wn_Formula_value_188 (by decide +kernel))
theorem d_Formula_value_214 : decode b_Formula_value 214 = .ok (.isub, 1) := dc_100 (q0_win (r := 26) wn_Formula_value_188 (by decide +kernel))
theorem d_Formula_value_215 : decode b_Formula_value 215 = .ok (.lload 5, 2) := dc_22 (qU1_win (r := 27) wn_Formula_value_188 (by decide +kernel))
theorem d_Formula_value_217 : decode b_Formula_value 217 = .ok (.lastore, 1) := dc_80 (q0_win (r := 29) wn_Formula_value_188 (by decide +kernel))
theorem d_Formula_value_218 : decode b_Formula_value 218 = .ok (.iinc 2 (-1), 3) := dc_132 (qI_win (r := 30) wn_Formula_value_188 (by decide +kernel))
theorem d_Formula_value_221 : decode b_Formula_value 221 = .ok (.goto 7, 3) := dc_167 (qS2_win (r := 33) wn_Formula_value_188 (by decide +kernel))
theorem d_Formula_value_224 : decode b_Formula_value 224 = .ok (.ldc2_w 101, 3) := dc_20 (qU2_win (r := 36) wn_Formula_value_188 (by decide +kernel))
theorem d_Formula_value_227 : decode b_Formula_value 227 = .ok (.lreturn, 1) := dc_173 (q0_win (r := 39) wn_Formula_value_188 (by decide +kernel))
theorem d_Formula_value_228 : decode b_Formula_value 228 = .ok (.iinc 3 1, 3) := dc_132 (qI_win (r := 40) wn_Formula_value_188 (by decide +kernel))
theorem d_Formula_value_231 : decode b_Formula_value 231 = .ok (.goto (-227), 3) := dc_167 (qS2_win (r := 43) wn_Formula_value_188 (by decide +kernel))
theorem d_Formula_value_234 : decode b_Formula_value 234 = .ok (.iload_n 2, 1) := dc_28 (q0_win (r := 46) wn_Formula_value_188 (by decide +kernel))
theorem d_Formula_value_235 : decode b_Formula_value 235 = .ok (.iconst 1, 1) := dc_4 (q0_win (r := 47) wn_Formula_value_188 (by decide +kernel))
theorem d_Formula_value_236 : decode b_Formula_value 236 = .ok (.if_icmp .ne 12, 3) := dc_160 (qS2_win (r := 48) wn_Formula_value_188 (by decide +kernel))
theorem d_Formula_value_239 : decode b_Formula_value 239 = .ok (.aload_n 0, 1) := dc_42 (q0_win (r := 51) wn_Formula_value_188 (by decide +kernel))
theorem d_Formula_value_240 : decode b_Formula_value 240 = .ok (.getfield 18, 3) := dc_180 (qU2_win (r := 52) wn_Formula_value_188 (by decide +kernel))
theorem d_Formula_value_243 : decode b_Formula_value 243 = .ok (.iconst 0, 1) := dc_3 (q0_win (r := 55) wn_Formula_value_188 (by decide +kernel))
theorem d_Formula_value_244 : decode b_Formula_value 244 = .ok (.laload, 1) := dc_47 (q0_win (r := 56) wn_Formula_value_188 (by decide +kernel))
theorem d_Formula_value_245 : decode b_Formula_value 245 = .ok (.goto 6, 3) := dc_167 (qS2_win (r := 57) wn_Formula_value_188 (by decide +kernel))
theorem d_Formula_value_248 : decode b_Formula_value 248 = .ok (.ldc2_w 101, 3) := dc_20 (qU2_win (r := 60) wn_Formula_value_188 (by decide +kernel))
theorem d_Formula_value_251 : decode b_Formula_value 251 = .ok (.lreturn, 1) := dc_173 (q0_win (r := 63) wn_Formula_value_188 (by decide +kernel))
def t_Formula_value_L228 (k0 : Nat) (r1 : Nat) (N1 : Nat) (bk4 : Mem → Int → Int → Option (Mem × Int64)) (M : Mem) (v2_ : Int) (v3_ : Int) : Option (Mem × Int64) := (bk4 M v2_ (w32 (v3_ + 1)))
def t_Formula_value_L90 (k0 : Nat) (r1 : Nat) (N1 : Nat) (bk4 : Mem → Int → Int → Option (Mem × Int64)) (M : Mem) (v2_ : Int) (v3_ : Int) (v5_ : Int) (v6_ : Int64) : Option (Mem × Int64) := (qguard (0 ≤ v5_ ∧ v5_ < 64) (qlet (setL M (k0 + 3) v5_ v6_) fun M38 => (t_Formula_value_L228 k0 r1 N1 bk4 M38 (w32 (v2_ + 1)) v3_)))
def t_Formula_value_L44 (k0 : Nat) (r1 : Nat) (N1 : Nat) (bk4 : Mem → Int → Int → Option (Mem × Int64)) (M : Mem) (v2_ : Int) (v3_ : Int) (v4_ : Int) : Option (Mem × Int64) := (if v2_ < 64 then (if v4_ = 31 then (qlet (t_WF_look M (k0 + 2) 64 v3_) fun q21 => (t_Formula_value_L90 k0 r1 N1 bk4 M v2_ v3_ v2_ (q_i2l q21))) else (qlet (t_Formula_valueOf M r1 N1 (w32 (v4_ - 18))) fun q19 => (t_Formula_value_L90 k0 r1 N1 bk4 M v2_ v3_ v2_ q19))) else (some (M, (-9223372036854775808))))
def t_Formula_value_L142 (k0 : Nat) (r1 : Nat) (N1 : Nat) (bk4 : Mem → Int → Int → Option (Mem × Int64)) (M : Mem) (v2_ : Int) (v3_ : Int) (v5_ : Int) (v6_ : Int) : Option (Mem × Int64) := (qlet (t_Formula_asBit M v6_) fun q33 => (qguard (0 ≤ v5_ ∧ v5_ < 64) (qlet (setL M (k0 + 3) v5_ q33) fun M36 => (t_Formula_value_L228 k0 r1 N1 bk4 M36 v2_ v3_))))
def t_Formula_value_L149 (k0 : Nat) (r1 : Nat) (N1 : Nat) (bk4 : Mem → Int → Int → Option (Mem × Int64)) (M : Mem) (v2_ : Int) (v3_ : Int) (v4_ : Int) : Option (Mem × Int64) := (if v2_ ≤ 1 then (some (M, (-9223372036854775808))) else (if 64 < v2_ then (some (M, (-9223372036854775808))) else (qguard (0 ≤ (w32 (v2_ - 2)) ∧ (w32 (v2_ - 2)) < 64) (qguard (0 ≤ (w32 (v2_ - 1)) ∧ (w32 (v2_ - 1)) < 64) (obind (t_Formula_join M v4_ (M.2 (k0 + 3) (w32 (v2_ - 2))) (M.2 (k0 + 3) (w32 (v2_ - 1)))) fun q27 => (if 1000000000000 < q27 then (some (M, (-9223372036854775808))) else (if (-1000000000000) ≤ q27 then (qguard (0 ≤ (w32 (v2_ - 2)) ∧ (w32 (v2_ - 2)) < 64) (qlet (setL M (k0 + 3) (w32 (v2_ - 2)) q27) fun M32 => (t_Formula_value_L228 k0 r1 N1 bk4 M32 (w32 (v2_ + (-1))) v3_))) else (some (M, (-9223372036854775808))))))))))
def t_Formula_value_L234 (k0 : Nat) (r1 : Nat) (N1 : Nat)  (M : Mem) (v1_ : Int) : Option (Mem × Int64) := (if v1_ = 1 then (some (M, (M.2 (k0 + 3) 0))) else (some (M, (-9223372036854775808))))
def t_Formula_value_L4 (k0 : Nat) (r1 : Nat) (N1 : Nat)  : Nat → Mem → Int → Int → Option (Mem × Int64)
  | 0, _, _, _ => none
  | fu + 1, M, v2_, v3_ => (if (M.1 k0 3) ≤ v3_ then (t_Formula_value_L234 k0 r1 N1 M v2_) else (if (M.1 k0 4) = 0 then (t_Formula_value_L234 k0 r1 N1 M v2_) else (qlet (t_WF_look M (k0 + 1) 64 v3_) fun q5 => (if q5 = 31 then (t_Formula_value_L44 k0 r1 N1 (fun a0_ a1_ a2_ => t_Formula_value_L4 k0 r1 N1 fu a0_ a1_ a2_) M v2_ v3_ q5) else (qlet (t_Formula_isName M q5) fun q8 => (if q8 = 0 then (if v2_ ≤ 0 then (t_Formula_value_L149 k0 r1 N1 (fun a0_ a1_ a2_ => t_Formula_value_L4 k0 r1 N1 fu a0_ a1_ a2_) M v2_ v3_ q5) else (if 64 < v2_ then (t_Formula_value_L149 k0 r1 N1 (fun a0_ a1_ a2_ => t_Formula_value_L4 k0 r1 N1 fu a0_ a1_ a2_) M v2_ v3_ q5) else (if q5 = 17 then (qguard (0 ≤ (w32 (v2_ - 1)) ∧ (w32 (v2_ - 1)) < 64) (if (M.2 (k0 + 3) (w32 (v2_ - 1))) = 0 then (t_Formula_value_L142 k0 r1 N1 (fun a0_ a1_ a2_ => t_Formula_value_L4 k0 r1 N1 fu a0_ a1_ a2_) M v2_ v3_ (w32 (v2_ - 1)) 1) else (t_Formula_value_L142 k0 r1 N1 (fun a0_ a1_ a2_ => t_Formula_value_L4 k0 r1 N1 fu a0_ a1_ a2_) M v2_ v3_ (w32 (v2_ - 1)) 0))) else (t_Formula_value_L149 k0 r1 N1 (fun a0_ a1_ a2_ => t_Formula_value_L4 k0 r1 N1 fu a0_ a1_ a2_) M v2_ v3_ q5)))) else (t_Formula_value_L44 k0 r1 N1 (fun a0_ a1_ a2_ => t_Formula_value_L4 k0 r1 N1 fu a0_ a1_ a2_) M v2_ v3_ q5)))))))
def t_Formula_value (M : Mem) (k0 : Nat) (r1 : Nat) (N1 : Nat) : Option (Mem × Int64) := (t_Formula_value_L4 k0 r1 N1 FU M 0 0)
set_option maxHeartbeats 4000000 in
set_option maxRecDepth 100000 in
theorem k_Formula_value_L228 (l : Launch) {p : Program} {e : Env} {s : State} {m : MethodId} {below : List Frame} {meth : Method} {c : Code} {b n : Nat} {C : CT} (hlo : 191 ≤ n) (k0 : Nat) (r1 : Nat) (N1 : Nat) (hk0 : isFormula k0) (hr1 : arrP 2 r1 N1 191) (F : Cx b p m c b_Formula_value 7 s ([.ref (b + k0), .ref (b + r1)] : List Value).toArray "WardFalls$Formula" C n 191) (hlk : meth.locks = false) (hr : meth.sig.returnType = some .long) {res : Mem × Int64} (bk4 : Mem → Int → Int → Option (Mem × Int64)) (hbk4 : ∀ (M : Mem) (v2_ : Int) (hv2_ : InR v2_) (v3_ : Int) (hv3_ : InR v3_) (H : Heap) (locs : List Loc) (ls : Array Slot), St b C n M s H locs → lv_has ls 7 [(0, .ref (b + k0)), (1, .ref (b + r1)), (2, vI v2_), (3, vI v3_)] → bk4 M v2_ v3_ = some res → W p l e (headSpec (wsM y_Formula_value b_Formula_value 7 (some .long)) (rmD 3)).room s m ([.ref (b + k0), .ref (b + r1)] : List Value).toArray below meth c H locs 0 0 (MQ below (QL b C n res.1 res.2) ([.ref (b + k0), .ref (b + r1)] : List Value).toArray s 0 0 (frb b)) (F0 m 4 ls [])) (M : Mem) (v2_ : Int) (hv2_ : InR v2_) (v3_ : Int) (hv3_ : InR v3_) (H : Heap) (locs : List Loc) (ls : Array Slot) (hS : St b C n M s H locs) (hl : lv_has ls 7 [(0, .ref (b + k0)), (1, .ref (b + r1)), (2, vI v2_), (3, vI v3_)]) (hT : t_Formula_value_L228 k0 r1 N1 bk4 M v2_ v3_ = some res) : W p l e (headSpec (wsM y_Formula_value b_Formula_value 7 (some .long)) (rmD 3)).room s m ([.ref (b + k0), .ref (b + r1)] : List Value).toArray below meth c H locs 0 0 (MQ below (QL b C n res.1 res.2) ([.ref (b + k0), .ref (b + r1)] : List Value).toArray s 0 0 (frb b)) (F0 m 228 ls []) := by
  unfold t_Formula_value_L228 at hT
  refine lv_iinc (v := Int32.ofInt (w32 (v3_ + 1))) (lv' := [(3, vI (w32 (v3_ + 1))), (0, .ref (b + k0)), (1, .ref (b + r1)), (2, vI v2_)]) F.hx F.hb d_Formula_value_228 hl (k := 3) rfl (q_of_add _ _) (Nat.le_of_ble_eq_true rfl) rfl (fun ls hl => ?_)
  refine lv_goto (tgt := 4) F.hx F.hb d_Formula_value_231 (by decide) ?_
  exact hbk4 M v2_ hv2_ (w32 (v3_ + 1)) (inr_w32 _) _ _ _ hS (lv_sub hl [1, 2, 3, 0] rfl) hT
set_option maxHeartbeats 4000000 in
set_option maxRecDepth 100000 in
theorem k_Formula_value_L90 (l : Launch) {p : Program} {e : Env} {s : State} {m : MethodId} {below : List Frame} {meth : Method} {c : Code} {b n : Nat} {C : CT} (hlo : 191 ≤ n) (k0 : Nat) (r1 : Nat) (N1 : Nat) (hk0 : isFormula k0) (hr1 : arrP 2 r1 N1 191) (F : Cx b p m c b_Formula_value 7 s ([.ref (b + k0), .ref (b + r1)] : List Value).toArray "WardFalls$Formula" C n 191) (hlk : meth.locks = false) (hr : meth.sig.returnType = some .long) {res : Mem × Int64} (bk4 : Mem → Int → Int → Option (Mem × Int64)) (hbk4 : ∀ (M : Mem) (v2_ : Int) (hv2_ : InR v2_) (v3_ : Int) (hv3_ : InR v3_) (H : Heap) (locs : List Loc) (ls : Array Slot), St b C n M s H locs → lv_has ls 7 [(0, .ref (b + k0)), (1, .ref (b + r1)), (2, vI v2_), (3, vI v3_)] → bk4 M v2_ v3_ = some res → W p l e (headSpec (wsM y_Formula_value b_Formula_value 7 (some .long)) (rmD 3)).room s m ([.ref (b + k0), .ref (b + r1)] : List Value).toArray below meth c H locs 0 0 (MQ below (QL b C n res.1 res.2) ([.ref (b + k0), .ref (b + r1)] : List Value).toArray s 0 0 (frb b)) (F0 m 4 ls [])) (M : Mem) (v2_ : Int) (hv2_ : InR v2_) (v3_ : Int) (hv3_ : InR v3_) (v5_ : Int) (hv5_ : InR v5_) (v6_ : Int64) (H : Heap) (locs : List Loc) (ls : Array Slot) (hS : St b C n M s H locs) (hl : lv_has ls 7 [(0, .ref (b + k0)), (1, .ref (b + r1)), (2, vI v2_), (3, vI v3_)]) (hT : t_Formula_value_L90 k0 r1 N1 bk4 M v2_ v3_ v5_ v6_ = some res) : W p l e (headSpec (wsM y_Formula_value b_Formula_value 7 (some .long)) (rmD 3)).room s m ([.ref (b + k0), .ref (b + r1)] : List Value).toArray below meth c H locs 0 0 (MQ below (QL b C n res.1 res.2) ([.ref (b + k0), .ref (b + r1)] : List Value).toArray s 0 0 (frb b)) (F0 m 90 ls [.long v6_, vI v5_, .ref (b + (k0 + 3))]) := by
  unfold t_Formula_value_L90 at hT
  obtain ⟨⟨g37a, g37b⟩, hT⟩ := q_guard hT
  refine r_last F hS (Formula_f2 hk0).2.2 (Formula_f2 hk0).1 (Formula_f2 hk0).2.1 hv5_ g37a g37b d_Formula_value_90 (fun H locs hS => ?_)
  obtain ⟨M38, eM38⟩ : ∃ q, q = (setL M (k0 + 3) v5_ v6_) := ⟨_, rfl⟩
  replace hS : St b C n M38 s H locs := by rw [eM38]; exact hS
  replace hT := qlet_eq hT eM38
  refine lv_iinc (v := Int32.ofInt (w32 (v2_ + 1))) (lv' := [(2, vI (w32 (v2_ + 1))), (0, .ref (b + k0)), (1, .ref (b + r1)), (3, vI v3_)]) F.hx F.hb d_Formula_value_91 hl (k := 2) rfl (q_of_add _ _) (Nat.le_of_ble_eq_true rfl) rfl (fun ls hl => ?_)
  refine lv_goto (tgt := 228) F.hx F.hb d_Formula_value_94 (by decide) ?_
  exact k_Formula_value_L228 l hlo k0 r1 N1 hk0 hr1 F hlk hr bk4 hbk4 M38 (w32 (v2_ + 1)) (inr_w32 _) v3_ hv3_ _ _ _ hS (lv_sub hl [1, 2, 0, 3] rfl) hT
set_option maxHeartbeats 4000000 in
set_option maxRecDepth 100000 in
theorem k_Formula_value_L44 (l : Launch) {p : Program} {e : Env} {s : State} {m : MethodId} {below : List Frame} {meth : Method} {c : Code} {b n : Nat} {C : CT} (hlo : 191 ≤ n) (k0 : Nat) (r1 : Nat) (N1 : Nat) (hk0 : isFormula k0) (hr1 : arrP 2 r1 N1 191) (F : Cx b p m c b_Formula_value 7 s ([.ref (b + k0), .ref (b + r1)] : List Value).toArray "WardFalls$Formula" C n 191) (hlk : meth.locks = false) (hr : meth.sig.returnType = some .long) {res : Mem × Int64} (bk4 : Mem → Int → Int → Option (Mem × Int64)) (hbk4 : ∀ (M : Mem) (v2_ : Int) (hv2_ : InR v2_) (v3_ : Int) (hv3_ : InR v3_) (H : Heap) (locs : List Loc) (ls : Array Slot), St b C n M s H locs → lv_has ls 7 [(0, .ref (b + k0)), (1, .ref (b + r1)), (2, vI v2_), (3, vI v3_)] → bk4 M v2_ v3_ = some res → W p l e (headSpec (wsM y_Formula_value b_Formula_value 7 (some .long)) (rmD 3)).room s m ([.ref (b + k0), .ref (b + r1)] : List Value).toArray below meth c H locs 0 0 (MQ below (QL b C n res.1 res.2) ([.ref (b + k0), .ref (b + r1)] : List Value).toArray s 0 0 (frb b)) (F0 m 4 ls [])) (M : Mem) (v2_ : Int) (hv2_ : InR v2_) (v3_ : Int) (hv3_ : InR v3_) (v4_ : Int) (hv4_ : InR v4_) (H : Heap) (locs : List Loc) (ls : Array Slot) (hS : St b C n M s H locs) (hl : lv_has ls 7 [(0, .ref (b + k0)), (1, .ref (b + r1)), (2, vI v2_), (3, vI v3_), (4, vI v4_)]) (hT : t_Formula_value_L44 k0 r1 N1 bk4 M v2_ v3_ v4_ = some res) : W p l e (headSpec (wsM y_Formula_value b_Formula_value 7 (some .long)) (rmD 3)).room s m ([.ref (b + k0), .ref (b + r1)] : List Value).toArray below meth c H locs 0 0 (MQ below (QL b C n res.1 res.2) ([.ref (b + k0), .ref (b + r1)] : List Value).toArray s 0 0 (frb b)) (F0 m 44 ls []) := by
  unfold t_Formula_value_L44 at hT
  refine lv_iload_n F.hx F.hb d_Formula_value_44 rfl (lv_at hl 2 rfl) ?_
  refine lv_aload_n F.hx F.hb d_Formula_value_45 rfl (lv_at hl 0 rfl) ?_
  refine r_get (v := .ref (b + (k0 + 3))) (N := 12) (T := T3) (j := 2) F hS (Formula_lt hk0) (Formula_sh hk0) (Formula_N hk0) rfl (Nat.le_of_ble_eq_true rfl) ing3 mw_49 (Formula_g2 hk0 _) d_Formula_value_46 ?_
  refine r_alen F hS (Formula_f2 hk0).2.2 (by rw [(Formula_f2 hk0).1]; decide) (Formula_f2 hk0).2.1 d_Formula_value_49 rfl ?_
  refine r_icmp_lt (tgt := 57) F.hx F.hb hv2_ (inr_c rfl) d_Formula_value_50 (by decide) (fun c17 => ?_) (fun c17 => ?_)
  · replace hT := (if_pos c17).symm.trans hT
    refine lv_aload_n F.hx F.hb d_Formula_value_57 rfl (lv_at hl 0 rfl) ?_
    refine r_get (v := .ref (b + (k0 + 3))) (N := 12) (T := T3) (j := 2) F hS (Formula_lt hk0) (Formula_sh hk0) (Formula_N hk0) rfl (Nat.le_of_ble_eq_true rfl) ing3 mw_49 (Formula_g2 hk0 _) d_Formula_value_58 ?_
    refine lv_iload_n F.hx F.hb d_Formula_value_61 rfl (lv_at hl 2 rfl) ?_
    refine lv_iload F.hx F.hb d_Formula_value_62 (lv_at hl 4 rfl) ?_
    refine r_bipush F.hx F.hb d_Formula_value_64 rfl ?_
    refine r_icmp_ne (tgt := 81) F.hx F.hb hv4_ (inr_c rfl) d_Formula_value_66 (by decide) (fun c18 => ?_) (fun c18 => ?_)
    · replace hT := (if_neg c18).symm.trans hT
      refine lv_aload_n F.hx F.hb d_Formula_value_81 rfl (lv_at hl 1 rfl) ?_
      refine lv_iload F.hx F.hb d_Formula_value_82 (lv_at hl 4 rfl) ?_
      refine r_bipush F.hx F.hb d_Formula_value_84 rfl ?_
      refine r_isub F.hx F.hb d_Formula_value_86 ?_
      obtain ⟨q19, hq19⟩ : ∃ q, q = (t_Formula_valueOf M r1 N1 (w32 (v4_ - 18))) := ⟨_, rfl⟩
      replace hT := qlet_eq hT hq19
      refine r_backL F hS (r_runS (As := [.ref (b + r1), vI (w32 (v4_ - 18))]) F hS (c_Formula_valueOf l F.2.2.1 M r1 N1 (w32 (v4_ - 18)) hr1 (inr_w32 _) _ hq19.symm) gs_Formula_103 hd_Formula_valueOf ⟨Nat.le_of_ble_eq_true rfl, Nat.le_of_ble_eq_true rfl⟩ rfl hl.1 (Nat.le_of_ble_eq_true rfl) ⟨Nat.zero_le _, Nat.zero_le _⟩ rfl d_Formula_value_87) (fun H locs hS => ?_)
      exact k_Formula_value_L90 l hlo k0 r1 N1 hk0 hr1 F hlk hr bk4 hbk4 M v2_ hv2_ v3_ hv3_ v2_ hv2_ q19 _ _ _ hS (lv_sub hl [0, 1, 2, 3] rfl) hT
    · replace hT := (if_pos c18).symm.trans hT
      refine lv_aload_n F.hx F.hb d_Formula_value_69 rfl (lv_at hl 0 rfl) ?_
      refine r_get (v := .ref (b + (k0 + 2))) (N := 12) (T := T3) (j := 1) F hS (Formula_lt hk0) (Formula_sh hk0) (Formula_N hk0) rfl (Nat.le_of_ble_eq_true rfl) ing3 mw_48 (Formula_g1 hk0 _) d_Formula_value_70 ?_
      refine lv_iload_n F.hx F.hb d_Formula_value_73 rfl (lv_at hl 3 rfl) ?_
      obtain ⟨q21, hq21⟩ : ∃ q, q = (t_WF_look M (k0 + 2) 64 v3_) := ⟨_, rfl⟩
      replace hT := qlet_eq hT hq21
      refine r_backI F hS (r_runSN (As := [.ref (b + (k0 + 2)), vI v3_]) F hS (c_WF_look l F.2.2.1 M (k0 + 2) 64 v3_ (Formula_f1 hk0) hv3_ _ hq21.symm) mw_519 mw_518 mw_1 gs_Formula_54 hd_WF_look ⟨Nat.le_of_ble_eq_true rfl, Nat.le_of_ble_eq_true rfl⟩ rfl hl.1 (Nat.le_of_ble_eq_true rfl) ⟨Nat.zero_le _, Nat.zero_le _⟩ rfl d_Formula_value_74) (fun H locs hS h22 => ?_)
      refine r_i2l F.hx F.hb d_Formula_value_77 ?_
      refine lv_goto (tgt := 90) F.hx F.hb d_Formula_value_78 (by decide) ?_
      exact k_Formula_value_L90 l hlo k0 r1 N1 hk0 hr1 F hlk hr bk4 hbk4 M v2_ hv2_ v3_ hv3_ v2_ hv2_ (q_i2l q21) _ _ _ hS (lv_sub hl [0, 1, 2, 3] rfl) hT
  · replace hT := (if_neg c17).symm.trans hT
    refine lv_ldc2 (v := (-9223372036854775808)) F.hx F.hb F.hown (F.hts mw_902) d_Formula_value_53 ?_
    cases hT
    exact r_lret F hlk hr hS d_Formula_value_56
set_option maxHeartbeats 4000000 in
set_option maxRecDepth 100000 in
theorem k_Formula_value_L142 (l : Launch) {p : Program} {e : Env} {s : State} {m : MethodId} {below : List Frame} {meth : Method} {c : Code} {b n : Nat} {C : CT} (hlo : 191 ≤ n) (k0 : Nat) (r1 : Nat) (N1 : Nat) (hk0 : isFormula k0) (hr1 : arrP 2 r1 N1 191) (F : Cx b p m c b_Formula_value 7 s ([.ref (b + k0), .ref (b + r1)] : List Value).toArray "WardFalls$Formula" C n 191) (hlk : meth.locks = false) (hr : meth.sig.returnType = some .long) {res : Mem × Int64} (bk4 : Mem → Int → Int → Option (Mem × Int64)) (hbk4 : ∀ (M : Mem) (v2_ : Int) (hv2_ : InR v2_) (v3_ : Int) (hv3_ : InR v3_) (H : Heap) (locs : List Loc) (ls : Array Slot), St b C n M s H locs → lv_has ls 7 [(0, .ref (b + k0)), (1, .ref (b + r1)), (2, vI v2_), (3, vI v3_)] → bk4 M v2_ v3_ = some res → W p l e (headSpec (wsM y_Formula_value b_Formula_value 7 (some .long)) (rmD 3)).room s m ([.ref (b + k0), .ref (b + r1)] : List Value).toArray below meth c H locs 0 0 (MQ below (QL b C n res.1 res.2) ([.ref (b + k0), .ref (b + r1)] : List Value).toArray s 0 0 (frb b)) (F0 m 4 ls [])) (M : Mem) (v2_ : Int) (hv2_ : InR v2_) (v3_ : Int) (hv3_ : InR v3_) (v5_ : Int) (hv5_ : InR v5_) (v6_ : Int) (hv6_ : v6_ = 0 ∨ v6_ = 1) (H : Heap) (locs : List Loc) (ls : Array Slot) (hS : St b C n M s H locs) (hl : lv_has ls 7 [(0, .ref (b + k0)), (1, .ref (b + r1)), (2, vI v2_), (3, vI v3_)]) (hT : t_Formula_value_L142 k0 r1 N1 bk4 M v2_ v3_ v5_ v6_ = some res) : W p l e (headSpec (wsM y_Formula_value b_Formula_value 7 (some .long)) (rmD 3)).room s m ([.ref (b + k0), .ref (b + r1)] : List Value).toArray below meth c H locs 0 0 (MQ below (QL b C n res.1 res.2) ([.ref (b + k0), .ref (b + r1)] : List Value).toArray s 0 0 (frb b)) (F0 m 142 ls [vI v6_, vI v5_, .ref (b + (k0 + 3))]) := by
  unfold t_Formula_value_L142 at hT
  obtain ⟨q33, hq33⟩ : ∃ q, q = (t_Formula_asBit M v6_) := ⟨_, rfl⟩
  replace hT := qlet_eq hT hq33
  refine r_backL F hS (r_runS (As := [vI v6_]) F hS (c_Formula_asBit l F.2.2.1 M v6_ (inr_z hv6_) _ hq33.symm) gs_Formula_107 hd_Formula_asBit ⟨Nat.le_of_ble_eq_true rfl, Nat.le_of_ble_eq_true rfl⟩ rfl hl.1 (Nat.le_of_ble_eq_true rfl) ⟨Nat.zero_le _, Nat.zero_le _⟩ rfl d_Formula_value_142) (fun H locs hS => ?_)
  obtain ⟨⟨g35a, g35b⟩, hT⟩ := q_guard hT
  refine r_last F hS (Formula_f2 hk0).2.2 (Formula_f2 hk0).1 (Formula_f2 hk0).2.1 hv5_ g35a g35b d_Formula_value_145 (fun H locs hS => ?_)
  obtain ⟨M36, eM36⟩ : ∃ q, q = (setL M (k0 + 3) v5_ q33) := ⟨_, rfl⟩
  replace hS : St b C n M36 s H locs := by rw [eM36]; exact hS
  replace hT := qlet_eq hT eM36
  refine lv_goto (tgt := 228) F.hx F.hb d_Formula_value_146 (by decide) ?_
  exact k_Formula_value_L228 l hlo k0 r1 N1 hk0 hr1 F hlk hr bk4 hbk4 M36 v2_ hv2_ v3_ hv3_ _ _ _ hS (lv_sub hl [0, 1, 2, 3] rfl) hT
set_option maxHeartbeats 4000000 in
set_option maxRecDepth 100000 in
theorem k_Formula_value_L149 (l : Launch) {p : Program} {e : Env} {s : State} {m : MethodId} {below : List Frame} {meth : Method} {c : Code} {b n : Nat} {C : CT} (hlo : 191 ≤ n) (k0 : Nat) (r1 : Nat) (N1 : Nat) (hk0 : isFormula k0) (hr1 : arrP 2 r1 N1 191) (F : Cx b p m c b_Formula_value 7 s ([.ref (b + k0), .ref (b + r1)] : List Value).toArray "WardFalls$Formula" C n 191) (hlk : meth.locks = false) (hr : meth.sig.returnType = some .long) {res : Mem × Int64} (bk4 : Mem → Int → Int → Option (Mem × Int64)) (hbk4 : ∀ (M : Mem) (v2_ : Int) (hv2_ : InR v2_) (v3_ : Int) (hv3_ : InR v3_) (H : Heap) (locs : List Loc) (ls : Array Slot), St b C n M s H locs → lv_has ls 7 [(0, .ref (b + k0)), (1, .ref (b + r1)), (2, vI v2_), (3, vI v3_)] → bk4 M v2_ v3_ = some res → W p l e (headSpec (wsM y_Formula_value b_Formula_value 7 (some .long)) (rmD 3)).room s m ([.ref (b + k0), .ref (b + r1)] : List Value).toArray below meth c H locs 0 0 (MQ below (QL b C n res.1 res.2) ([.ref (b + k0), .ref (b + r1)] : List Value).toArray s 0 0 (frb b)) (F0 m 4 ls [])) (M : Mem) (v2_ : Int) (hv2_ : InR v2_) (v3_ : Int) (hv3_ : InR v3_) (v4_ : Int) (hv4_ : InR v4_) (H : Heap) (locs : List Loc) (ls : Array Slot) (hS : St b C n M s H locs) (hl : lv_has ls 7 [(0, .ref (b + k0)), (1, .ref (b + r1)), (2, vI v2_), (3, vI v3_), (4, vI v4_)]) (hT : t_Formula_value_L149 k0 r1 N1 bk4 M v2_ v3_ v4_ = some res) : W p l e (headSpec (wsM y_Formula_value b_Formula_value 7 (some .long)) (rmD 3)).room s m ([.ref (b + k0), .ref (b + r1)] : List Value).toArray below meth c H locs 0 0 (MQ below (QL b C n res.1 res.2) ([.ref (b + k0), .ref (b + r1)] : List Value).toArray s 0 0 (frb b)) (F0 m 149 ls []) := by
  unfold t_Formula_value_L149 at hT
  refine lv_iload_n F.hx F.hb d_Formula_value_149 rfl (lv_at hl 2 rfl) ?_
  refine r_iconst F.hx F.hb d_Formula_value_150 ?_
  refine r_icmp_le (tgt := 224) F.hx F.hb hv2_ (inr_c rfl) d_Formula_value_151 (by decide) (fun c23 => ?_) (fun c23 => ?_)
  · replace hT := (if_pos c23).symm.trans hT
    refine lv_ldc2 (v := (-9223372036854775808)) F.hx F.hb F.hown (F.hts mw_902) d_Formula_value_224 ?_
    cases hT
    exact r_lret F hlk hr hS d_Formula_value_227
  · replace hT := (if_neg c23).symm.trans hT
    refine lv_iload_n F.hx F.hb d_Formula_value_154 rfl (lv_at hl 2 rfl) ?_
    refine lv_aload_n F.hx F.hb d_Formula_value_155 rfl (lv_at hl 0 rfl) ?_
    refine r_get (v := .ref (b + (k0 + 3))) (N := 12) (T := T3) (j := 2) F hS (Formula_lt hk0) (Formula_sh hk0) (Formula_N hk0) rfl (Nat.le_of_ble_eq_true rfl) ing3 mw_49 (Formula_g2 hk0 _) d_Formula_value_156 ?_
    refine r_alen F hS (Formula_f2 hk0).2.2 (by rw [(Formula_f2 hk0).1]; decide) (Formula_f2 hk0).2.1 d_Formula_value_159 rfl ?_
    refine r_icmp_gt (tgt := 224) F.hx F.hb hv2_ (inr_c rfl) d_Formula_value_160 (by decide) (fun c24 => ?_) (fun c24 => ?_)
    · replace hT := (if_pos c24).symm.trans hT
      refine lv_ldc2 (v := (-9223372036854775808)) F.hx F.hb F.hown (F.hts mw_902) d_Formula_value_224 ?_
      cases hT
      exact r_lret F hlk hr hS d_Formula_value_227
    · replace hT := (if_neg c24).symm.trans hT
      refine lv_iload F.hx F.hb d_Formula_value_163 (lv_at hl 4 rfl) ?_
      refine lv_aload_n F.hx F.hb d_Formula_value_165 rfl (lv_at hl 0 rfl) ?_
      refine r_get (v := .ref (b + (k0 + 3))) (N := 12) (T := T3) (j := 2) F hS (Formula_lt hk0) (Formula_sh hk0) (Formula_N hk0) rfl (Nat.le_of_ble_eq_true rfl) ing3 mw_49 (Formula_g2 hk0 _) d_Formula_value_166 ?_
      refine lv_iload_n F.hx F.hb d_Formula_value_169 rfl (lv_at hl 2 rfl) ?_
      refine r_iconst F.hx F.hb d_Formula_value_170 ?_
      refine r_isub F.hx F.hb d_Formula_value_171 ?_
      obtain ⟨⟨g25a, g25b⟩, hT⟩ := q_guard hT
      refine r_lald F hS (Formula_f2 hk0).2.2 (Formula_f2 hk0).1 (Formula_f2 hk0).2.1 (inr_w32 _) g25a g25b d_Formula_value_172 ?_
      refine lv_aload_n F.hx F.hb d_Formula_value_173 rfl (lv_at hl 0 rfl) ?_
      refine r_get (v := .ref (b + (k0 + 3))) (N := 12) (T := T3) (j := 2) F hS (Formula_lt hk0) (Formula_sh hk0) (Formula_N hk0) rfl (Nat.le_of_ble_eq_true rfl) ing3 mw_49 (Formula_g2 hk0 _) d_Formula_value_174 ?_
      refine lv_iload_n F.hx F.hb d_Formula_value_177 rfl (lv_at hl 2 rfl) ?_
      refine r_iconst F.hx F.hb d_Formula_value_178 ?_
      refine r_isub F.hx F.hb d_Formula_value_179 ?_
      obtain ⟨⟨g26a, g26b⟩, hT⟩ := q_guard hT
      refine r_lald F hS (Formula_f2 hk0).2.2 (Formula_f2 hk0).1 (Formula_f2 hk0).2.1 (inr_w32 _) g26a g26b d_Formula_value_180 ?_
      obtain ⟨q27, hq27, hT⟩ := q_obind hT
      refine r_backL F hS (r_runS (As := [vI v4_, .long (M.2 (k0 + 3) (w32 (v2_ - 2))), .long (M.2 (k0 + 3) (w32 (v2_ - 1)))]) F hS (c_Formula_join l F.2.2.1 M v4_ (M.2 (k0 + 3) (w32 (v2_ - 2))) (M.2 (k0 + 3) (w32 (v2_ - 1))) hv4_ _ hq27) gs_Formula_111 hd_Formula_join ⟨Nat.le_of_ble_eq_true rfl, Nat.le_of_ble_eq_true rfl⟩ rfl hl.1 (Nat.le_of_ble_eq_true rfl) ⟨Nat.zero_le _, Nat.zero_le _⟩ rfl d_Formula_value_181) (fun H locs hS => ?_)
      refine lv_lstore (lv' := [(5, .long q27), (0, .ref (b + k0)), (1, .ref (b + r1)), (2, vI v2_), (3, vI v3_), (4, vI v4_)]) F.hx F.hb d_Formula_value_184 hl (Nat.le_of_ble_eq_true rfl) rfl (fun ls hl => ?_)
      refine lv_lload F.hx F.hb d_Formula_value_186 (lv_at hl 0 rfl) ?_
      refine lv_ldc2 (v := 1000000000000) F.hx F.hb F.hown (F.hts mw_918) d_Formula_value_188 ?_
      refine W.lcmp F.hx F.hb d_Formula_value_191 ?_
      refine r_lif_gt (tgt := 204) F.hx F.hb  d_Formula_value_192 (by decide) (fun c29 => ?_) (fun c29 => ?_)
      · replace hT := (if_pos c29).symm.trans hT
        refine lv_ldc2 (v := (-9223372036854775808)) F.hx F.hb F.hown (F.hts mw_902) d_Formula_value_204 ?_
        cases hT
        exact r_lret F hlk hr hS d_Formula_value_207
      · replace hT := (if_neg c29).symm.trans hT
        refine lv_lload F.hx F.hb d_Formula_value_195 (lv_at hl 0 rfl) ?_
        refine lv_ldc2 (v := (-1000000000000)) F.hx F.hb F.hown (F.hts mw_919) d_Formula_value_197 ?_
        refine W.lcmp F.hx F.hb d_Formula_value_200 ?_
        refine r_lif_ge (tgt := 208) F.hx F.hb  d_Formula_value_201 (by decide) (fun c30 => ?_) (fun c30 => ?_)
        · replace hT := (if_pos c30).symm.trans hT
          refine lv_aload_n F.hx F.hb d_Formula_value_208 rfl (lv_at hl 1 rfl) ?_
          refine r_get (v := .ref (b + (k0 + 3))) (N := 12) (T := T3) (j := 2) F hS (Formula_lt hk0) (Formula_sh hk0) (Formula_N hk0) rfl (Nat.le_of_ble_eq_true rfl) ing3 mw_49 (Formula_g2 hk0 _) d_Formula_value_209 ?_
          refine lv_iload_n F.hx F.hb d_Formula_value_212 rfl (lv_at hl 3 rfl) ?_
          refine r_iconst F.hx F.hb d_Formula_value_213 ?_
          refine r_isub F.hx F.hb d_Formula_value_214 ?_
          refine lv_lload F.hx F.hb d_Formula_value_215 (lv_at hl 0 rfl) ?_
          obtain ⟨⟨g31a, g31b⟩, hT⟩ := q_guard hT
          refine r_last F hS (Formula_f2 hk0).2.2 (Formula_f2 hk0).1 (Formula_f2 hk0).2.1 (inr_w32 _) g31a g31b d_Formula_value_217 (fun H locs hS => ?_)
          obtain ⟨M32, eM32⟩ : ∃ q, q = (setL M (k0 + 3) (w32 (v2_ - 2)) q27) := ⟨_, rfl⟩
          replace hS : St b C n M32 s H locs := by rw [eM32]; exact hS
          replace hT := qlet_eq hT eM32
          refine lv_iinc (v := Int32.ofInt (w32 (v2_ + (-1)))) (lv' := [(2, vI (w32 (v2_ + (-1)))), (5, .long q27), (0, .ref (b + k0)), (1, .ref (b + r1)), (3, vI v3_), (4, vI v4_)]) F.hx F.hb d_Formula_value_218 hl (k := 3) rfl (q_of_add _ _) (Nat.le_of_ble_eq_true rfl) rfl (fun ls hl => ?_)
          refine lv_goto (tgt := 228) F.hx F.hb d_Formula_value_221 (by decide) ?_
          exact k_Formula_value_L228 l hlo k0 r1 N1 hk0 hr1 F hlk hr bk4 hbk4 M32 (w32 (v2_ + (-1))) (inr_w32 _) v3_ hv3_ _ _ _ hS (lv_sub hl [2, 3, 0, 4] rfl) hT
        · replace hT := (if_neg c30).symm.trans hT
          refine lv_ldc2 (v := (-9223372036854775808)) F.hx F.hb F.hown (F.hts mw_902) d_Formula_value_204 ?_
          cases hT
          exact r_lret F hlk hr hS d_Formula_value_207
set_option maxHeartbeats 4000000 in
set_option maxRecDepth 100000 in
theorem k_Formula_value_L234 (l : Launch) {p : Program} {e : Env} {s : State} {m : MethodId} {below : List Frame} {meth : Method} {c : Code} {b n : Nat} {C : CT} (hlo : 191 ≤ n) (k0 : Nat) (r1 : Nat) (N1 : Nat) (hk0 : isFormula k0) (hr1 : arrP 2 r1 N1 191) (F : Cx b p m c b_Formula_value 7 s ([.ref (b + k0), .ref (b + r1)] : List Value).toArray "WardFalls$Formula" C n 191) (hlk : meth.locks = false) (hr : meth.sig.returnType = some .long) {res : Mem × Int64} (M : Mem) (v1_ : Int) (hv1_ : InR v1_) (H : Heap) (locs : List Loc) (ls : Array Slot) (hS : St b C n M s H locs) (hl : lv_has ls 7 [(0, .ref (b + k0)), (2, vI v1_)]) (hT : t_Formula_value_L234 k0 r1 N1 M v1_ = some res) : W p l e (headSpec (wsM y_Formula_value b_Formula_value 7 (some .long)) (rmD 3)).room s m ([.ref (b + k0), .ref (b + r1)] : List Value).toArray below meth c H locs 0 0 (MQ below (QL b C n res.1 res.2) ([.ref (b + k0), .ref (b + r1)] : List Value).toArray s 0 0 (frb b)) (F0 m 234 ls []) := by
  unfold t_Formula_value_L234 at hT
  refine lv_iload_n F.hx F.hb d_Formula_value_234 rfl (lv_at hl 1 rfl) ?_
  refine r_iconst F.hx F.hb d_Formula_value_235 ?_
  refine r_icmp_ne (tgt := 248) F.hx F.hb hv1_ (inr_c rfl) d_Formula_value_236 (by decide) (fun c16 => ?_) (fun c16 => ?_)
  · replace hT := (if_neg c16).symm.trans hT
    refine lv_ldc2 (v := (-9223372036854775808)) F.hx F.hb F.hown (F.hts mw_902) d_Formula_value_248 ?_
    cases hT
    exact r_lret F hlk hr hS d_Formula_value_251
  · replace hT := (if_pos c16).symm.trans hT
    refine lv_aload_n F.hx F.hb d_Formula_value_239 rfl (lv_at hl 0 rfl) ?_
    refine r_get (v := .ref (b + (k0 + 3))) (N := 12) (T := T3) (j := 2) F hS (Formula_lt hk0) (Formula_sh hk0) (Formula_N hk0) rfl (Nat.le_of_ble_eq_true rfl) ing3 mw_49 (Formula_g2 hk0 _) d_Formula_value_240 ?_
    refine r_iconst F.hx F.hb d_Formula_value_243 ?_
    refine r_lald F hS (Formula_f2 hk0).2.2 (Formula_f2 hk0).1 (Formula_f2 hk0).2.1 (inr_c rfl) (by omega) (by omega) d_Formula_value_244 ?_
    refine lv_goto (tgt := 251) F.hx F.hb d_Formula_value_245 (by decide) ?_
    cases hT
    exact r_lret F hlk hr hS d_Formula_value_251
set_option maxHeartbeats 4000000 in
set_option maxRecDepth 100000 in
theorem k_Formula_value_L4 (l : Launch) {p : Program} {e : Env} {s : State} {m : MethodId} {below : List Frame} {meth : Method} {c : Code} {b n : Nat} {C : CT} (hlo : 191 ≤ n) (k0 : Nat) (r1 : Nat) (N1 : Nat) (hk0 : isFormula k0) (hr1 : arrP 2 r1 N1 191) (F : Cx b p m c b_Formula_value 7 s ([.ref (b + k0), .ref (b + r1)] : List Value).toArray "WardFalls$Formula" C n 191) (hlk : meth.locks = false) (hr : meth.sig.returnType = some .long) {res : Mem × Int64} : ∀ (fu : Nat) (M : Mem) (v2_ : Int) (hv2_ : InR v2_) (v3_ : Int) (hv3_ : InR v3_) (H : Heap) (locs : List Loc) (ls : Array Slot), St b C n M s H locs → lv_has ls 7 [(0, .ref (b + k0)), (1, .ref (b + r1)), (2, vI v2_), (3, vI v3_)] → t_Formula_value_L4 k0 r1 N1 fu M v2_ v3_ = some res → W p l e (headSpec (wsM y_Formula_value b_Formula_value 7 (some .long)) (rmD 3)).room s m ([.ref (b + k0), .ref (b + r1)] : List Value).toArray below meth c H locs 0 0 (MQ below (QL b C n res.1 res.2) ([.ref (b + k0), .ref (b + r1)] : List Value).toArray s 0 0 (frb b)) (F0 m 4 ls []) := by
  intro fu
  induction fu with
  | zero => intro M v2_ hv2_ v3_ hv3_ H locs ls hS hl hT; exact absurd hT (by simp [t_Formula_value_L4])
  | succ fu ih =>
    intro M v2_ hv2_ v3_ hv3_ H locs ls hS hl hT
    rw [t_Formula_value_L4] at hT
    refine lv_iload_n F.hx F.hb d_Formula_value_4 rfl (lv_at hl 3 rfl) ?_
    refine lv_aload_n F.hx F.hb d_Formula_value_5 rfl (lv_at hl 0 rfl) ?_
    refine r_get (v := vI (M.1 k0 3)) (N := 12) (T := T3) (j := 3) F hS (Formula_lt hk0) (Formula_sh hk0) (Formula_N hk0) rfl (Nat.le_of_ble_eq_true rfl) ing3 mw_50 (fv_int rfl) d_Formula_value_6 ?_
    have i1 := hS.rng k0 3
    refine r_icmp_ge (tgt := 234) F.hx F.hb hv3_ i1 d_Formula_value_9 (by decide) (fun c2 => ?_) (fun c2 => ?_)
    · replace hT := (if_pos c2).symm.trans hT
      exact k_Formula_value_L234 l hlo k0 r1 N1 hk0 hr1 F hlk hr M v2_ hv2_ _ _ _ hS (lv_sub hl [0, 2] rfl) hT
    · replace hT := (if_neg c2).symm.trans hT
      refine lv_aload_n F.hx F.hb d_Formula_value_12 rfl (lv_at hl 0 rfl) ?_
      refine r_get (v := vI (M.1 k0 4)) (N := 12) (T := T3) (j := 4) F hS (Formula_lt hk0) (Formula_sh hk0) (Formula_N hk0) rfl (Nat.le_of_ble_eq_true rfl) ing3 mw_51 (fv_int rfl) d_Formula_value_13 ?_
      have i3 := hS.rng k0 4
      refine r_if_eq (tgt := 234) F.hx F.hb i3 d_Formula_value_16 (by decide) (fun c4 => ?_) (fun c4 => ?_)
      · replace hT := (if_pos c4).symm.trans hT
        exact k_Formula_value_L234 l hlo k0 r1 N1 hk0 hr1 F hlk hr M v2_ hv2_ _ _ _ hS (lv_sub hl [0, 2] rfl) hT
      · replace hT := (if_neg c4).symm.trans hT
        refine lv_aload_n F.hx F.hb d_Formula_value_19 rfl (lv_at hl 0 rfl) ?_
        refine r_get (v := .ref (b + (k0 + 1))) (N := 12) (T := T3) (j := 0) F hS (Formula_lt hk0) (Formula_sh hk0) (Formula_N hk0) rfl (Nat.le_of_ble_eq_true rfl) ing3 mw_47 (Formula_g0 hk0 _) d_Formula_value_20 ?_
        refine lv_iload_n F.hx F.hb d_Formula_value_23 rfl (lv_at hl 3 rfl) ?_
        obtain ⟨q5, hq5⟩ : ∃ q, q = (t_WF_look M (k0 + 1) 64 v3_) := ⟨_, rfl⟩
        replace hT := qlet_eq hT hq5
        refine r_backI F hS (r_runSN (As := [.ref (b + (k0 + 1)), vI v3_]) F hS (c_WF_look l F.2.2.1 M (k0 + 1) 64 v3_ (Formula_f0 hk0) hv3_ _ hq5.symm) mw_519 mw_518 mw_1 gs_Formula_54 hd_WF_look ⟨Nat.le_of_ble_eq_true rfl, Nat.le_of_ble_eq_true rfl⟩ rfl hl.1 (Nat.le_of_ble_eq_true rfl) ⟨Nat.zero_le _, Nat.zero_le _⟩ rfl d_Formula_value_24) (fun H locs hS h6 => ?_)
        refine lv_istore (lv' := [(4, vI q5), (0, .ref (b + k0)), (1, .ref (b + r1)), (2, vI v2_), (3, vI v3_)]) F.hx F.hb d_Formula_value_27 hl (Nat.le_of_ble_eq_true rfl) rfl (fun ls hl => ?_)
        refine lv_iload F.hx F.hb d_Formula_value_29 (lv_at hl 0 rfl) ?_
        refine r_bipush F.hx F.hb d_Formula_value_31 rfl ?_
        refine r_icmp_eq (tgt := 44) F.hx F.hb h6 (inr_c rfl) d_Formula_value_33 (by decide) (fun c7 => ?_) (fun c7 => ?_)
        · replace hT := (if_pos c7).symm.trans hT
          exact k_Formula_value_L44 l hlo k0 r1 N1 hk0 hr1 F hlk hr (fun a0_ a1_ a2_ => t_Formula_value_L4 k0 r1 N1 fu a0_ a1_ a2_) ih M v2_ hv2_ v3_ hv3_ q5 h6 _ _ _ hS (lv_sub hl [1, 2, 3, 4, 0] rfl) hT
        · replace hT := (if_neg c7).symm.trans hT
          refine lv_iload F.hx F.hb d_Formula_value_36 (lv_at hl 0 rfl) ?_
          obtain ⟨q8, hq8⟩ : ∃ q, q = (t_Formula_isName M q5) := ⟨_, rfl⟩
          replace hT := qlet_eq hT hq8
          refine r_backZ F hS (r_runS (As := [vI q5]) F hS (c_Formula_isName l F.2.2.1 M q5 h6 _ hq8.symm) gs_Formula_76 hd_Formula_isName ⟨Nat.le_of_ble_eq_true rfl, Nat.le_of_ble_eq_true rfl⟩ rfl hl.1 (Nat.le_of_ble_eq_true rfl) ⟨Nat.zero_le _, Nat.zero_le _⟩ rfl d_Formula_value_38) (fun H locs hS h9 => ?_)
          refine r_if_eq (tgt := 97) F.hx F.hb (inr_z h9) d_Formula_value_41 (by decide) (fun c10 => ?_) (fun c10 => ?_)
          · replace hT := (if_pos c10).symm.trans hT
            refine lv_iload_n F.hx F.hb d_Formula_value_97 rfl (lv_at hl 3 rfl) ?_
            refine r_if_le (tgt := 149) F.hx F.hb hv2_ d_Formula_value_98 (by decide) (fun c11 => ?_) (fun c11 => ?_)
            · replace hT := (if_pos c11).symm.trans hT
              exact k_Formula_value_L149 l hlo k0 r1 N1 hk0 hr1 F hlk hr (fun a0_ a1_ a2_ => t_Formula_value_L4 k0 r1 N1 fu a0_ a1_ a2_) ih M v2_ hv2_ v3_ hv3_ q5 h6 _ _ _ hS (lv_sub hl [1, 2, 3, 4, 0] rfl) hT
            · replace hT := (if_neg c11).symm.trans hT
              refine lv_iload_n F.hx F.hb d_Formula_value_101 rfl (lv_at hl 3 rfl) ?_
              refine lv_aload_n F.hx F.hb d_Formula_value_102 rfl (lv_at hl 1 rfl) ?_
              refine r_get (v := .ref (b + (k0 + 3))) (N := 12) (T := T3) (j := 2) F hS (Formula_lt hk0) (Formula_sh hk0) (Formula_N hk0) rfl (Nat.le_of_ble_eq_true rfl) ing3 mw_49 (Formula_g2 hk0 _) d_Formula_value_103 ?_
              refine r_alen F hS (Formula_f2 hk0).2.2 (by rw [(Formula_f2 hk0).1]; decide) (Formula_f2 hk0).2.1 d_Formula_value_106 rfl ?_
              refine r_icmp_gt (tgt := 149) F.hx F.hb hv2_ (inr_c rfl) d_Formula_value_107 (by decide) (fun c12 => ?_) (fun c12 => ?_)
              · replace hT := (if_pos c12).symm.trans hT
                exact k_Formula_value_L149 l hlo k0 r1 N1 hk0 hr1 F hlk hr (fun a0_ a1_ a2_ => t_Formula_value_L4 k0 r1 N1 fu a0_ a1_ a2_) ih M v2_ hv2_ v3_ hv3_ q5 h6 _ _ _ hS (lv_sub hl [1, 2, 3, 4, 0] rfl) hT
              · replace hT := (if_neg c12).symm.trans hT
                refine lv_iload F.hx F.hb d_Formula_value_110 (lv_at hl 0 rfl) ?_
                refine r_bipush F.hx F.hb d_Formula_value_112 rfl ?_
                refine r_icmp_ne (tgt := 149) F.hx F.hb h6 (inr_c rfl) d_Formula_value_114 (by decide) (fun c13 => ?_) (fun c13 => ?_)
                · replace hT := (if_neg c13).symm.trans hT
                  exact k_Formula_value_L149 l hlo k0 r1 N1 hk0 hr1 F hlk hr (fun a0_ a1_ a2_ => t_Formula_value_L4 k0 r1 N1 fu a0_ a1_ a2_) ih M v2_ hv2_ v3_ hv3_ q5 h6 _ _ _ hS (lv_sub hl [1, 2, 3, 4, 0] rfl) hT
                · replace hT := (if_pos c13).symm.trans hT
                  refine lv_aload_n F.hx F.hb d_Formula_value_117 rfl (lv_at hl 1 rfl) ?_
                  refine r_get (v := .ref (b + (k0 + 3))) (N := 12) (T := T3) (j := 2) F hS (Formula_lt hk0) (Formula_sh hk0) (Formula_N hk0) rfl (Nat.le_of_ble_eq_true rfl) ing3 mw_49 (Formula_g2 hk0 _) d_Formula_value_118 ?_
                  refine lv_iload_n F.hx F.hb d_Formula_value_121 rfl (lv_at hl 3 rfl) ?_
                  refine r_iconst F.hx F.hb d_Formula_value_122 ?_
                  refine r_isub F.hx F.hb d_Formula_value_123 ?_
                  refine lv_aload_n F.hx F.hb d_Formula_value_124 rfl (lv_at hl 1 rfl) ?_
                  refine r_get (v := .ref (b + (k0 + 3))) (N := 12) (T := T3) (j := 2) F hS (Formula_lt hk0) (Formula_sh hk0) (Formula_N hk0) rfl (Nat.le_of_ble_eq_true rfl) ing3 mw_49 (Formula_g2 hk0 _) d_Formula_value_125 ?_
                  refine lv_iload_n F.hx F.hb d_Formula_value_128 rfl (lv_at hl 3 rfl) ?_
                  refine r_iconst F.hx F.hb d_Formula_value_129 ?_
                  refine r_isub F.hx F.hb d_Formula_value_130 ?_
                  obtain ⟨⟨g14a, g14b⟩, hT⟩ := q_guard hT
                  refine r_lald F hS (Formula_f2 hk0).2.2 (Formula_f2 hk0).1 (Formula_f2 hk0).2.1 (inr_w32 _) g14a g14b d_Formula_value_131 ?_
                  refine lv_lconst (v := 0) F.hx F.hb d_Formula_value_132 rfl ?_
                  refine W.lcmp F.hx F.hb d_Formula_value_133 ?_
                  refine r_lif_ne (tgt := 141) F.hx F.hb  d_Formula_value_134 (by decide) (fun c15 => ?_) (fun c15 => ?_)
                  · replace hT := (if_neg c15).symm.trans hT
                    refine r_iconst F.hx F.hb d_Formula_value_141 ?_
                    exact k_Formula_value_L142 l hlo k0 r1 N1 hk0 hr1 F hlk hr (fun a0_ a1_ a2_ => t_Formula_value_L4 k0 r1 N1 fu a0_ a1_ a2_) ih M v2_ hv2_ v3_ hv3_ (w32 (v2_ - 1)) (inr_w32 _) 0 (Or.inl rfl) _ _ _ hS (lv_sub hl [1, 2, 3, 4] rfl) hT
                  · replace hT := (if_pos c15).symm.trans hT
                    refine r_iconst F.hx F.hb d_Formula_value_137 ?_
                    refine lv_goto (tgt := 142) F.hx F.hb d_Formula_value_138 (by decide) ?_
                    exact k_Formula_value_L142 l hlo k0 r1 N1 hk0 hr1 F hlk hr (fun a0_ a1_ a2_ => t_Formula_value_L4 k0 r1 N1 fu a0_ a1_ a2_) ih M v2_ hv2_ v3_ hv3_ (w32 (v2_ - 1)) (inr_w32 _) 1 (Or.inr rfl) _ _ _ hS (lv_sub hl [1, 2, 3, 4] rfl) hT
          · replace hT := (if_neg c10).symm.trans hT
            exact k_Formula_value_L44 l hlo k0 r1 N1 hk0 hr1 F hlk hr (fun a0_ a1_ a2_ => t_Formula_value_L4 k0 r1 N1 fu a0_ a1_ a2_) ih M v2_ hv2_ v3_ hv3_ q5 h6 _ _ _ hS (lv_sub hl [1, 2, 3, 4, 0] rfl) hT
set_option maxHeartbeats 4000000 in
set_option maxRecDepth 100000 in
theorem c_Formula_value (l : Launch) {b n : Nat} {C : CT} (hlo : 191 ≤ n) (M : Mem) (k0 : Nat) (r1 : Nat) (N1 : Nat) (hk0 : isFormula k0) (hr1 : arrP 2 r1 N1 191) (res : Mem × Int64) (hT : t_Formula_value M k0 r1 N1 = some res) : CM l b C n 3 y_Formula_value b_Formula_value 7 (some .long) [.ref (b + k0), .ref (b + r1)] M (QL b C n res.1 res.2) := by
  refine CM.of (lo := 191) (ow := "WardFalls$Formula") (by decide) rfl (Nat.le_of_ble_eq_true rfl) hlo (fun p e s m below meth c F hlk hr hS ls hl => ?_)
  have hl : lv_has ls 7 [(0, .ref (b + k0)), (1, .ref (b + r1))] := hl
  unfold t_Formula_value at hT
  refine r_iconst F.hx F.hb d_Formula_value_0 ?_
  refine lv_istore_n (lv' := [(2, vI 0), (0, .ref (b + k0)), (1, .ref (b + r1))]) F.hx F.hb d_Formula_value_1 rfl hl (Nat.le_of_ble_eq_true rfl) rfl (fun ls hl => ?_)
  refine r_iconst F.hx F.hb d_Formula_value_2 ?_
  refine lv_istore_n (lv' := [(3, vI 0), (2, vI 0), (0, .ref (b + k0)), (1, .ref (b + r1))]) F.hx F.hb d_Formula_value_3 rfl hl (Nat.le_of_ble_eq_true rfl) rfl (fun ls hl => ?_)
  exact k_Formula_value_L4 l hlo k0 r1 N1 hk0 hr1 F hlk hr FU M 0 (inr_c rfl) 0 (inr_c rfl) _ _ _ hS (lv_sub hl [2, 3, 1, 0] rfl) hT
theorem d_Laws_joyTold_0 : decode b_Laws_joyTold 0 = .ok (.aload_n 0, 1) := dc_42 (by decide +kernel)
theorem d_Laws_joyTold_1 : decode b_Laws_joyTold 1 = .ok (.bipush 18, 2) := dc_16 (by decide +kernel)
theorem d_Laws_joyTold_3 : decode b_Laws_joyTold 3 = .ok (.aload_n 1, 1) := dc_43 (by decide +kernel)
theorem d_Laws_joyTold_4 : decode b_Laws_joyTold 4 = .ok (.getfield 76, 3) := dc_180 (by decide +kernel)
theorem d_Laws_joyTold_7 : decode b_Laws_joyTold 7 = .ok (.iload_n 2, 1) := dc_28 (by decide +kernel)
theorem d_Laws_joyTold_8 : decode b_Laws_joyTold 8 = .ok (.invokestatic 52, 3) := dc_184 (by decide +kernel)
theorem d_Laws_joyTold_11 : decode b_Laws_joyTold 11 = .ok (.i2l, 1) := dc_133 (by decide +kernel)
theorem d_Laws_joyTold_12 : decode b_Laws_joyTold 12 = .ok (.invokevirtual 79, 3) := dc_182 (by decide +kernel)
theorem d_Laws_joyTold_15 : decode b_Laws_joyTold 15 = .ok (.aload_n 0, 1) := dc_42 (by decide +kernel)
theorem d_Laws_joyTold_16 : decode b_Laws_joyTold 16 = .ok (.bipush 19, 2) := dc_16 (by decide +kernel)
theorem d_Laws_joyTold_18 : decode b_Laws_joyTold 18 = .ok (.aload_n 1, 1) := dc_43 (by decide +kernel)
theorem d_Laws_joyTold_19 : decode b_Laws_joyTold 19 = .ok (.getfield 83, 3) := dc_180 (by decide +kernel)
theorem d_Laws_joyTold_22 : decode b_Laws_joyTold 22 = .ok (.iload_n 2, 1) := dc_28 (by decide +kernel)
theorem d_Laws_joyTold_23 : decode b_Laws_joyTold 23 = .ok (.invokestatic 52, 3) := dc_184 (by decide +kernel)
theorem d_Laws_joyTold_26 : decode b_Laws_joyTold 26 = .ok (.i2l, 1) := dc_133 (by decide +kernel)
theorem d_Laws_joyTold_27 : decode b_Laws_joyTold 27 = .ok (.invokevirtual 79, 3) := dc_182 (by decide +kernel)
theorem d_Laws_joyTold_30 : decode b_Laws_joyTold 30 = .ok (.aload_n 0, 1) := dc_42 (by decide +kernel)
theorem d_Laws_joyTold_31 : decode b_Laws_joyTold 31 = .ok (.bipush 20, 2) := dc_16 (by decide +kernel)
theorem d_Laws_joyTold_33 : decode b_Laws_joyTold 33 = .ok (.aload_n 0, 1) := dc_42 (by decide +kernel)
theorem d_Laws_joyTold_34 : decode b_Laws_joyTold 34 = .ok (.getfield 15, 3) := dc_180 (by decide +kernel)
theorem d_Laws_joyTold_37 : decode b_Laws_joyTold 37 = .ok (.iload_n 2, 1) := dc_28 (by decide +kernel)
theorem d_Laws_joyTold_38 : decode b_Laws_joyTold 38 = .ok (.invokestatic 52, 3) := dc_184 (by decide +kernel)
theorem d_Laws_joyTold_41 : decode b_Laws_joyTold 41 = .ok (.i2l, 1) := dc_133 (by decide +kernel)
theorem d_Laws_joyTold_42 : decode b_Laws_joyTold 42 = .ok (.invokevirtual 79, 3) := dc_182 (by decide +kernel)
theorem d_Laws_joyTold_45 : decode b_Laws_joyTold 45 = .ok (.aload_n 0, 1) := dc_42 (by decide +kernel)
theorem d_Laws_joyTold_46 : decode b_Laws_joyTold 46 = .ok (.bipush 21, 2) := dc_16 (by decide +kernel)
theorem d_Laws_joyTold_48 : decode b_Laws_joyTold 48 = .ok (.aload_n 0, 1) := dc_42 (by decide +kernel)
theorem d_Laws_joyTold_49 : decode b_Laws_joyTold 49 = .ok (.getfield 19, 3) := dc_180 (by decide +kernel)
theorem d_Laws_joyTold_52 : decode b_Laws_joyTold 52 = .ok (.iload_n 2, 1) := dc_28 (by decide +kernel)
theorem d_Laws_joyTold_53 : decode b_Laws_joyTold 53 = .ok (.invokestatic 52, 3) := dc_184 (by decide +kernel)
theorem d_Laws_joyTold_56 : decode b_Laws_joyTold 56 = .ok (.i2l, 1) := dc_133 (by decide +kernel)
theorem d_Laws_joyTold_57 : decode b_Laws_joyTold 57 = .ok (.invokevirtual 79, 3) := dc_182 (by decide +kernel)
theorem d_Laws_joyTold_60 : decode b_Laws_joyTold 60 = .ok (.aload_n 0, 1) := dc_42 (by decide +kernel)
theorem d_Laws_joyTold_61 : decode b_Laws_joyTold 61 = .ok (.bipush 22, 2) := dc_16 (by decide +kernel)
theorem d_Laws_joyTold_63 : decode b_Laws_joyTold 63 = .ok (.aload_n 0, 1) := dc_42 (by decide +kernel)
theorem d_Laws_joyTold_64 : decode b_Laws_joyTold 64 = .ok (.getfield 22, 3) := dc_180 (by decide +kernel)
theorem d_Laws_joyTold_67 : decode b_Laws_joyTold 67 = .ok (.iload_n 2, 1) := dc_28 (by decide +kernel)
theorem d_Laws_joyTold_68 : decode b_Laws_joyTold 68 = .ok (.invokestatic 52, 3) := dc_184 (by decide +kernel)
theorem d_Laws_joyTold_71 : decode b_Laws_joyTold 71 = .ok (.i2l, 1) := dc_133 (by decide +kernel)
theorem d_Laws_joyTold_72 : decode b_Laws_joyTold 72 = .ok (.invokevirtual 79, 3) := dc_182 (by decide +kernel)
theorem d_Laws_joyTold_75 : decode b_Laws_joyTold 75 = .ok (.aload_n 0, 1) := dc_42 (by decide +kernel)
theorem d_Laws_joyTold_76 : decode b_Laws_joyTold 76 = .ok (.bipush 23, 2) := dc_16 (by decide +kernel)
theorem d_Laws_joyTold_78 : decode b_Laws_joyTold 78 = .ok (.lconst 0, 1) := dc_9 (by decide +kernel)
theorem d_Laws_joyTold_79 : decode b_Laws_joyTold 79 = .ok (.invokevirtual 79, 3) := dc_182 (by decide +kernel)
theorem d_Laws_joyTold_82 : decode b_Laws_joyTold 82 = .ok (.aload_n 0, 1) := dc_42 (by decide +kernel)
theorem d_Laws_joyTold_83 : decode b_Laws_joyTold 83 = .ok (.bipush 24, 2) := dc_16 (by decide +kernel)
theorem d_Laws_joyTold_85 : decode b_Laws_joyTold 85 = .ok (.iload_n 3, 1) := dc_29 (by decide +kernel)
theorem d_Laws_joyTold_86 : decode b_Laws_joyTold 86 = .ok (.i2l, 1) := dc_133 (by decide +kernel)
theorem d_Laws_joyTold_87 : decode b_Laws_joyTold 87 = .ok (.invokevirtual 79, 3) := dc_182 (by decide +kernel)
theorem d_Laws_joyTold_90 : decode b_Laws_joyTold 90 = .ok (.aload_n 1, 1) := dc_43 (by decide +kernel)
theorem d_Laws_joyTold_91 : decode b_Laws_joyTold 91 = .ok (.getfield 86, 3) := dc_180 (by decide +kernel)
theorem d_Laws_joyTold_94 : decode b_Laws_joyTold 94 = .ok (.aload_n 0, 1) := dc_42 (by decide +kernel)
theorem d_Laws_joyTold_95 : decode b_Laws_joyTold 95 = .ok (.getfield 9, 3) := dc_180 (by decide +kernel)
theorem d_Laws_joyTold_98 : decode b_Laws_joyTold 98 = .ok (.invokevirtual 90, 3) := dc_182 (by decide +kernel)
theorem d_Laws_joyTold_101 : decode b_Laws_joyTold 101 = .ok (.lreturn, 1) := dc_173 (by decide +kernel)
def t_Laws_joyTold (M : Mem) (k1 : Nat) (x2 : Int) (x3 : Int) : Option (Mem × Int64) := (qlet (t_WF_look M (k1 + 3) 4 x2) fun q1 => (qlet (t_Laws_name M 18 (q_i2l q1)) fun q3 => (qlet (t_WF_look q3 (k1 + 4) 4 x2) fun q5 => (qlet (t_Laws_name q3 19 (q_i2l q5)) fun q7 => (qlet (t_WF_look q7 179 4 x2) fun q9 => (qlet (t_Laws_name q7 20 (q_i2l q9)) fun q11 => (qlet (t_WF_look q11 180 4 x2) fun q13 => (qlet (t_Laws_name q11 21 (q_i2l q13)) fun q15 => (qlet (t_WF_look q15 181 4 x2) fun q17 => (qlet (t_Laws_name q15 22 (q_i2l q17)) fun q19 => (qlet (t_Laws_name q19 23 0) fun q21 => (qlet (t_Laws_name q21 24 (q_i2l x3)) fun q23 => (obind (t_Formula_value q23 (k1 + 15) 178 7) fun q25 => (some ((q25.1), (q25.2))))))))))))))))
set_option maxHeartbeats 4000000 in
set_option maxRecDepth 100000 in
theorem c_Laws_joyTold (l : Launch) {b n : Nat} {C : CT} (hlo : 191 ≤ n) (M : Mem) (k1 : Nat) (x2 : Int) (x3 : Int) (hk1 : isTown k1) (hx2 : InR x2) (hx3 : InR x3) (res : Mem × Int64) (hT : t_Laws_joyTold M k1 x2 x3 = some res) : CM l b C n 4 y_Laws_joyTold b_Laws_joyTold 4 (some .long) [.ref (b + 177), .ref (b + k1), vI x2, vI x3] M (QL b C n res.1 res.2) := by
  refine CM.of (lo := 191) (ow := "WardFalls$Laws") (by decide) rfl (Nat.le_of_ble_eq_true rfl) hlo (fun p e s m below meth c F hlk hr hS ls hl => ?_)
  have hl : lv_has ls 4 [(0, .ref (b + 177)), (1, .ref (b + k1)), (2, vI x2), (3, vI x3)] := hl
  unfold t_Laws_joyTold at hT
  refine lv_aload_n F.hx F.hb d_Laws_joyTold_0 rfl (lv_at hl 0 rfl) ?_
  refine r_bipush F.hx F.hb d_Laws_joyTold_1 rfl ?_
  refine lv_aload_n F.hx F.hb d_Laws_joyTold_3 rfl (lv_at hl 1 rfl) ?_
  refine r_get (v := .ref (b + (k1 + 3))) (N := 20) (T := T11) (j := 2) F hS (Town_lt hk1) (Town_sh hk1) (Town_N hk1) rfl (Nat.le_of_ble_eq_true rfl) ing11 mw_95 (Town_g2 hk1 _) d_Laws_joyTold_4 ?_
  refine lv_iload_n F.hx F.hb d_Laws_joyTold_7 rfl (lv_at hl 2 rfl) ?_
  obtain ⟨q1, hq1⟩ : ∃ q, q = (t_WF_look M (k1 + 3) 4 x2) := ⟨_, rfl⟩
  replace hT := qlet_eq hT hq1
  refine r_backI F hS (r_runSN (As := [.ref (b + (k1 + 3)), vI x2]) F hS (c_WF_look l F.2.2.1 M (k1 + 3) 4 x2 (Town_f2 hk1) hx2 _ hq1.symm) mw_519 mw_518 mw_1 gs_Laws_52 hd_WF_look ⟨Nat.le_of_ble_eq_true rfl, Nat.le_of_ble_eq_true rfl⟩ rfl hl.1 (Nat.le_of_ble_eq_true rfl) ⟨Nat.zero_le _, Nat.zero_le _⟩ rfl d_Laws_joyTold_8) (fun H locs hS h2 => ?_)
  refine r_i2l F.hx F.hb d_Laws_joyTold_11 ?_
  obtain ⟨q3, hq3⟩ : ∃ q, q = (t_Laws_name M 18 (q_i2l q1)) := ⟨_, rfl⟩
  replace hT := qlet_eq hT hq3
  refine r_backV F hS (r_runV (k := 177) (N := 9) (T := T4) (As := [vI 18, .long (q_i2l q1)]) F hS (show 177 < 191 by decide) (show shK 177 = 8 from rfl) rfl (c_Laws_name l F.2.2.1 M 18 (q_i2l q1) (inr_c rfl) _ hq3.symm) gs_Laws_79 hd_Laws_name ⟨Nat.le_of_ble_eq_true rfl, Nat.le_of_ble_eq_true rfl⟩ rfl hl.1 (Nat.le_of_ble_eq_true rfl) ⟨Nat.zero_le _, Nat.zero_le _⟩ rfl d_Laws_joyTold_12) (fun H locs hS => ?_)
  refine lv_aload_n F.hx F.hb d_Laws_joyTold_15 rfl (lv_at hl 0 rfl) ?_
  refine r_bipush F.hx F.hb d_Laws_joyTold_16 rfl ?_
  refine lv_aload_n F.hx F.hb d_Laws_joyTold_18 rfl (lv_at hl 1 rfl) ?_
  refine r_get (v := .ref (b + (k1 + 4))) (N := 20) (T := T11) (j := 3) F hS (Town_lt hk1) (Town_sh hk1) (Town_N hk1) rfl (Nat.le_of_ble_eq_true rfl) ing11 mw_99 (Town_g3 hk1 _) d_Laws_joyTold_19 ?_
  refine lv_iload_n F.hx F.hb d_Laws_joyTold_22 rfl (lv_at hl 2 rfl) ?_
  obtain ⟨q5, hq5⟩ : ∃ q, q = (t_WF_look q3 (k1 + 4) 4 x2) := ⟨_, rfl⟩
  replace hT := qlet_eq hT hq5
  refine r_backI F hS (r_runSN (As := [.ref (b + (k1 + 4)), vI x2]) F hS (c_WF_look l F.2.2.1 q3 (k1 + 4) 4 x2 (Town_f3 hk1) hx2 _ hq5.symm) mw_519 mw_518 mw_1 gs_Laws_52 hd_WF_look ⟨Nat.le_of_ble_eq_true rfl, Nat.le_of_ble_eq_true rfl⟩ rfl hl.1 (Nat.le_of_ble_eq_true rfl) ⟨Nat.zero_le _, Nat.zero_le _⟩ rfl d_Laws_joyTold_23) (fun H locs hS h6 => ?_)
  refine r_i2l F.hx F.hb d_Laws_joyTold_26 ?_
  obtain ⟨q7, hq7⟩ : ∃ q, q = (t_Laws_name q3 19 (q_i2l q5)) := ⟨_, rfl⟩
  replace hT := qlet_eq hT hq7
  refine r_backV F hS (r_runV (k := 177) (N := 9) (T := T4) (As := [vI 19, .long (q_i2l q5)]) F hS (show 177 < 191 by decide) (show shK 177 = 8 from rfl) rfl (c_Laws_name l F.2.2.1 q3 19 (q_i2l q5) (inr_c rfl) _ hq7.symm) gs_Laws_79 hd_Laws_name ⟨Nat.le_of_ble_eq_true rfl, Nat.le_of_ble_eq_true rfl⟩ rfl hl.1 (Nat.le_of_ble_eq_true rfl) ⟨Nat.zero_le _, Nat.zero_le _⟩ rfl d_Laws_joyTold_27) (fun H locs hS => ?_)
  refine lv_aload_n F.hx F.hb d_Laws_joyTold_30 rfl (lv_at hl 0 rfl) ?_
  refine r_bipush F.hx F.hb d_Laws_joyTold_31 rfl ?_
  refine lv_aload_n F.hx F.hb d_Laws_joyTold_33 rfl (lv_at hl 0 rfl) ?_
  refine r_get (v := .ref (b + 179)) (N := 9) (T := T4) (j := 1) F hS (show 177 < 191 by decide) (show shK 177 = 8 from rfl) (show shN 177 = 9 from rfl) rfl (Nat.le_of_ble_eq_true rfl) ing4 mw_439 (fv_sg rfl rfl rfl) d_Laws_joyTold_34 ?_
  refine lv_iload_n F.hx F.hb d_Laws_joyTold_37 rfl (lv_at hl 2 rfl) ?_
  obtain ⟨q9, hq9⟩ : ∃ q, q = (t_WF_look q7 179 4 x2) := ⟨_, rfl⟩
  replace hT := qlet_eq hT hq9
  refine r_backI F hS (r_runSN (As := [.ref (b + 179), vI x2]) F hS (c_WF_look l F.2.2.1 q7 179 4 x2 (show arrP 0 179 4 191 from ⟨rfl, rfl, by decide⟩) hx2 _ hq9.symm) mw_519 mw_518 mw_1 gs_Laws_52 hd_WF_look ⟨Nat.le_of_ble_eq_true rfl, Nat.le_of_ble_eq_true rfl⟩ rfl hl.1 (Nat.le_of_ble_eq_true rfl) ⟨Nat.zero_le _, Nat.zero_le _⟩ rfl d_Laws_joyTold_38) (fun H locs hS h10 => ?_)
  refine r_i2l F.hx F.hb d_Laws_joyTold_41 ?_
  obtain ⟨q11, hq11⟩ : ∃ q, q = (t_Laws_name q7 20 (q_i2l q9)) := ⟨_, rfl⟩
  replace hT := qlet_eq hT hq11
  refine r_backV F hS (r_runV (k := 177) (N := 9) (T := T4) (As := [vI 20, .long (q_i2l q9)]) F hS (show 177 < 191 by decide) (show shK 177 = 8 from rfl) rfl (c_Laws_name l F.2.2.1 q7 20 (q_i2l q9) (inr_c rfl) _ hq11.symm) gs_Laws_79 hd_Laws_name ⟨Nat.le_of_ble_eq_true rfl, Nat.le_of_ble_eq_true rfl⟩ rfl hl.1 (Nat.le_of_ble_eq_true rfl) ⟨Nat.zero_le _, Nat.zero_le _⟩ rfl d_Laws_joyTold_42) (fun H locs hS => ?_)
  refine lv_aload_n F.hx F.hb d_Laws_joyTold_45 rfl (lv_at hl 0 rfl) ?_
  refine r_bipush F.hx F.hb d_Laws_joyTold_46 rfl ?_
  refine lv_aload_n F.hx F.hb d_Laws_joyTold_48 rfl (lv_at hl 0 rfl) ?_
  refine r_get (v := .ref (b + 180)) (N := 9) (T := T4) (j := 2) F hS (show 177 < 191 by decide) (show shK 177 = 8 from rfl) (show shN 177 = 9 from rfl) rfl (Nat.le_of_ble_eq_true rfl) ing4 mw_440 (fv_sg rfl rfl rfl) d_Laws_joyTold_49 ?_
  refine lv_iload_n F.hx F.hb d_Laws_joyTold_52 rfl (lv_at hl 2 rfl) ?_
  obtain ⟨q13, hq13⟩ : ∃ q, q = (t_WF_look q11 180 4 x2) := ⟨_, rfl⟩
  replace hT := qlet_eq hT hq13
  refine r_backI F hS (r_runSN (As := [.ref (b + 180), vI x2]) F hS (c_WF_look l F.2.2.1 q11 180 4 x2 (show arrP 0 180 4 191 from ⟨rfl, rfl, by decide⟩) hx2 _ hq13.symm) mw_519 mw_518 mw_1 gs_Laws_52 hd_WF_look ⟨Nat.le_of_ble_eq_true rfl, Nat.le_of_ble_eq_true rfl⟩ rfl hl.1 (Nat.le_of_ble_eq_true rfl) ⟨Nat.zero_le _, Nat.zero_le _⟩ rfl d_Laws_joyTold_53) (fun H locs hS h14 => ?_)
  refine r_i2l F.hx F.hb d_Laws_joyTold_56 ?_
  obtain ⟨q15, hq15⟩ : ∃ q, q = (t_Laws_name q11 21 (q_i2l q13)) := ⟨_, rfl⟩
  replace hT := qlet_eq hT hq15
  refine r_backV F hS (r_runV (k := 177) (N := 9) (T := T4) (As := [vI 21, .long (q_i2l q13)]) F hS (show 177 < 191 by decide) (show shK 177 = 8 from rfl) rfl (c_Laws_name l F.2.2.1 q11 21 (q_i2l q13) (inr_c rfl) _ hq15.symm) gs_Laws_79 hd_Laws_name ⟨Nat.le_of_ble_eq_true rfl, Nat.le_of_ble_eq_true rfl⟩ rfl hl.1 (Nat.le_of_ble_eq_true rfl) ⟨Nat.zero_le _, Nat.zero_le _⟩ rfl d_Laws_joyTold_57) (fun H locs hS => ?_)
  refine lv_aload_n F.hx F.hb d_Laws_joyTold_60 rfl (lv_at hl 0 rfl) ?_
  refine r_bipush F.hx F.hb d_Laws_joyTold_61 rfl ?_
  refine lv_aload_n F.hx F.hb d_Laws_joyTold_63 rfl (lv_at hl 0 rfl) ?_
  refine r_get (v := .ref (b + 181)) (N := 9) (T := T4) (j := 3) F hS (show 177 < 191 by decide) (show shK 177 = 8 from rfl) (show shN 177 = 9 from rfl) rfl (Nat.le_of_ble_eq_true rfl) ing4 mw_441 (fv_sg rfl rfl rfl) d_Laws_joyTold_64 ?_
  refine lv_iload_n F.hx F.hb d_Laws_joyTold_67 rfl (lv_at hl 2 rfl) ?_
  obtain ⟨q17, hq17⟩ : ∃ q, q = (t_WF_look q15 181 4 x2) := ⟨_, rfl⟩
  replace hT := qlet_eq hT hq17
  refine r_backI F hS (r_runSN (As := [.ref (b + 181), vI x2]) F hS (c_WF_look l F.2.2.1 q15 181 4 x2 (show arrP 0 181 4 191 from ⟨rfl, rfl, by decide⟩) hx2 _ hq17.symm) mw_519 mw_518 mw_1 gs_Laws_52 hd_WF_look ⟨Nat.le_of_ble_eq_true rfl, Nat.le_of_ble_eq_true rfl⟩ rfl hl.1 (Nat.le_of_ble_eq_true rfl) ⟨Nat.zero_le _, Nat.zero_le _⟩ rfl d_Laws_joyTold_68) (fun H locs hS h18 => ?_)
  refine r_i2l F.hx F.hb d_Laws_joyTold_71 ?_
  obtain ⟨q19, hq19⟩ : ∃ q, q = (t_Laws_name q15 22 (q_i2l q17)) := ⟨_, rfl⟩
  replace hT := qlet_eq hT hq19
  refine r_backV F hS (r_runV (k := 177) (N := 9) (T := T4) (As := [vI 22, .long (q_i2l q17)]) F hS (show 177 < 191 by decide) (show shK 177 = 8 from rfl) rfl (c_Laws_name l F.2.2.1 q15 22 (q_i2l q17) (inr_c rfl) _ hq19.symm) gs_Laws_79 hd_Laws_name ⟨Nat.le_of_ble_eq_true rfl, Nat.le_of_ble_eq_true rfl⟩ rfl hl.1 (Nat.le_of_ble_eq_true rfl) ⟨Nat.zero_le _, Nat.zero_le _⟩ rfl d_Laws_joyTold_72) (fun H locs hS => ?_)
  refine lv_aload_n F.hx F.hb d_Laws_joyTold_75 rfl (lv_at hl 0 rfl) ?_
  refine r_bipush F.hx F.hb d_Laws_joyTold_76 rfl ?_
  refine lv_lconst (v := 0) F.hx F.hb d_Laws_joyTold_78 rfl ?_
  obtain ⟨q21, hq21⟩ : ∃ q, q = (t_Laws_name q19 23 0) := ⟨_, rfl⟩
  replace hT := qlet_eq hT hq21
  refine r_backV F hS (r_runV (k := 177) (N := 9) (T := T4) (As := [vI 23, .long 0]) F hS (show 177 < 191 by decide) (show shK 177 = 8 from rfl) rfl (c_Laws_name l F.2.2.1 q19 23 0 (inr_c rfl) _ hq21.symm) gs_Laws_79 hd_Laws_name ⟨Nat.le_of_ble_eq_true rfl, Nat.le_of_ble_eq_true rfl⟩ rfl hl.1 (Nat.le_of_ble_eq_true rfl) ⟨Nat.zero_le _, Nat.zero_le _⟩ rfl d_Laws_joyTold_79) (fun H locs hS => ?_)
  refine lv_aload_n F.hx F.hb d_Laws_joyTold_82 rfl (lv_at hl 0 rfl) ?_
  refine r_bipush F.hx F.hb d_Laws_joyTold_83 rfl ?_
  refine lv_iload_n F.hx F.hb d_Laws_joyTold_85 rfl (lv_at hl 3 rfl) ?_
  refine r_i2l F.hx F.hb d_Laws_joyTold_86 ?_
  obtain ⟨q23, hq23⟩ : ∃ q, q = (t_Laws_name q21 24 (q_i2l x3)) := ⟨_, rfl⟩
  replace hT := qlet_eq hT hq23
  refine r_backV F hS (r_runV (k := 177) (N := 9) (T := T4) (As := [vI 24, .long (q_i2l x3)]) F hS (show 177 < 191 by decide) (show shK 177 = 8 from rfl) rfl (c_Laws_name l F.2.2.1 q21 24 (q_i2l x3) (inr_c rfl) _ hq23.symm) gs_Laws_79 hd_Laws_name ⟨Nat.le_of_ble_eq_true rfl, Nat.le_of_ble_eq_true rfl⟩ rfl hl.1 (Nat.le_of_ble_eq_true rfl) ⟨Nat.zero_le _, Nat.zero_le _⟩ rfl d_Laws_joyTold_87) (fun H locs hS => ?_)
  refine lv_aload_n F.hx F.hb d_Laws_joyTold_90 rfl (lv_at hl 1 rfl) ?_
  refine r_get (v := .ref (b + (k1 + 15))) (N := 20) (T := T11) (j := 10) F hS (Town_lt hk1) (Town_sh hk1) (Town_N hk1) rfl (Nat.le_of_ble_eq_true rfl) ing11 mw_119 (Town_g10 hk1 _) d_Laws_joyTold_91 ?_
  refine lv_aload_n F.hx F.hb d_Laws_joyTold_94 rfl (lv_at hl 0 rfl) ?_
  refine r_get (v := .ref (b + 178)) (N := 9) (T := T4) (j := 0) F hS (show 177 < 191 by decide) (show shK 177 = 8 from rfl) (show shN 177 = 9 from rfl) rfl (Nat.le_of_ble_eq_true rfl) ing4 mw_438 (fv_sg rfl rfl rfl) d_Laws_joyTold_95 ?_
  obtain ⟨q25, hq25, hT⟩ := q_obind hT
  refine r_backL F hS (r_runV (k := (k1 + 15)) (N := 12) (T := T3) (As := [.ref (b + 178)]) F hS (Formula_lt (Town_f10 hk1)) (Formula_sh (Town_f10 hk1)) rfl (c_Formula_value l F.2.2.1 q23 (k1 + 15) 178 7 (Town_f10 hk1) (show arrP 2 178 7 191 from ⟨rfl, rfl, by decide⟩) _ hq25) gs_Laws_90 hd_Formula_value ⟨Nat.le_of_ble_eq_true rfl, Nat.le_of_ble_eq_true rfl⟩ rfl hl.1 (Nat.le_of_ble_eq_true rfl) ⟨Nat.zero_le _, Nat.zero_le _⟩ rfl d_Laws_joyTold_98) (fun H locs hS => ?_)
  cases hT
  exact r_lret F hlk hr hS d_Laws_joyTold_101
theorem d_Laws_joyOf_0 : decode b_Laws_joyOf 0 = .ok (.aload_n 0, 1) := dc_42 (by decide +kernel)
theorem d_Laws_joyOf_1 : decode b_Laws_joyOf 1 = .ok (.aload_n 1, 1) := dc_43 (by decide +kernel)
theorem d_Laws_joyOf_2 : decode b_Laws_joyOf 2 = .ok (.iload_n 2, 1) := dc_28 (by decide +kernel)
theorem d_Laws_joyOf_3 : decode b_Laws_joyOf 3 = .ok (.iload_n 3, 1) := dc_29 (by decide +kernel)
theorem d_Laws_joyOf_4 : decode b_Laws_joyOf 4 = .ok (.invokevirtual 96, 3) := dc_182 (by decide +kernel)
theorem d_Laws_joyOf_7 : decode b_Laws_joyOf 7 = .ok (.lstore 4, 2) := dc_55 (by decide +kernel)
theorem d_Laws_joyOf_9 : decode b_Laws_joyOf 9 = .ok (.lload 4, 2) := dc_22 (by decide +kernel)
theorem d_Laws_joyOf_11 : decode b_Laws_joyOf 11 = .ok (.ldc2_w 100, 3) := dc_20 (by decide +kernel)
theorem d_Laws_joyOf_14 : decode b_Laws_joyOf 14 = .ok (.lcmp, 1) := dc_148 (by decide +kernel)
theorem d_Laws_joyOf_15 : decode b_Laws_joyOf 15 = .ok (.ifCond .ne 14, 3) := dc_154 (by decide +kernel)
theorem d_Laws_joyOf_18 : decode b_Laws_joyOf 18 = .ok (.aload_n 0, 1) := dc_42 (by decide +kernel)
theorem d_Laws_joyOf_19 : decode b_Laws_joyOf 19 = .ok (.getfield 19, 3) := dc_180 (by decide +kernel)
theorem d_Laws_joyOf_22 : decode b_Laws_joyOf 22 = .ok (.iload_n 2, 1) := dc_28 (by decide +kernel)
theorem d_Laws_joyOf_23 : decode b_Laws_joyOf 23 = .ok (.invokestatic 52, 3) := dc_184 (by decide +kernel)
theorem d_Laws_joyOf_26 : decode b_Laws_joyOf 26 = .ok (.goto 16, 3) := dc_167 (by decide +kernel)
theorem d_Laws_joyOf_29 : decode b_Laws_joyOf 29 = .ok (.lconst 0, 1) := dc_9 (by decide +kernel)
theorem d_Laws_joyOf_30 : decode b_Laws_joyOf 30 = .ok (.ldc2_w 102, 3) := dc_20 (by decide +kernel)
theorem d_Laws_joyOf_33 : decode b_Laws_joyOf 33 = .ok (.lload 4, 2) := dc_22 (by decide +kernel)
theorem d_Laws_joyOf_35 : decode b_Laws_joyOf 35 = .ok (.invokestatic 104, 3) := dc_184 (by decide +kernel)
theorem d_Laws_joyOf_38 : decode b_Laws_joyOf 38 = .ok (.invokestatic 110, 3) := dc_184 (by decide +kernel)
theorem d_Laws_joyOf_41 : decode b_Laws_joyOf 41 = .ok (.l2i, 1) := dc_136 (by decide +kernel)
theorem d_Laws_joyOf_42 : decode b_Laws_joyOf 42 = .ok (.ireturn, 1) := dc_172 (by decide +kernel)
def t_Laws_joyOf (M : Mem) (k1 : Nat) (x2 : Int) (x3 : Int) : Option (Mem × Int) := (obind (t_Laws_joyTold M k1 x2 x3) fun q1 => (if (q1.2) = (-9223372036854775808) then (qlet (t_WF_look (q1.1) 180 4 x2) fun q4 => (some ((q1.1), q4))) else (some ((q1.1), (q_l2i (q_maxl 0 (q_minl 9999 (q1.2))))))))
set_option maxHeartbeats 4000000 in
set_option maxRecDepth 100000 in
theorem c_Laws_joyOf (l : Launch) {b n : Nat} {C : CT} (hlo : 191 ≤ n) (M : Mem) (k1 : Nat) (x2 : Int) (x3 : Int) (hk1 : isTown k1) (hx2 : InR x2) (hx3 : InR x3) (res : Mem × Int) (hT : t_Laws_joyOf M k1 x2 x3 = some res) : CM l b C n 5 y_Laws_joyOf b_Laws_joyOf 6 (some .int) [.ref (b + 177), .ref (b + k1), vI x2, vI x3] M (QI b C n res.1 res.2) := by
  refine CM.of (lo := 191) (ow := "WardFalls$Laws") (by decide) rfl (Nat.le_of_ble_eq_true rfl) hlo (fun p e s m below meth c F hlk hr hS ls hl => ?_)
  have hl : lv_has ls 6 [(0, .ref (b + 177)), (1, .ref (b + k1)), (2, vI x2), (3, vI x3)] := hl
  unfold t_Laws_joyOf at hT
  refine lv_aload_n F.hx F.hb d_Laws_joyOf_0 rfl (lv_at hl 0 rfl) ?_
  refine lv_aload_n F.hx F.hb d_Laws_joyOf_1 rfl (lv_at hl 1 rfl) ?_
  refine lv_iload_n F.hx F.hb d_Laws_joyOf_2 rfl (lv_at hl 2 rfl) ?_
  refine lv_iload_n F.hx F.hb d_Laws_joyOf_3 rfl (lv_at hl 3 rfl) ?_
  obtain ⟨q1, hq1, hT⟩ := q_obind hT
  refine r_backL F hS (r_runV (k := 177) (N := 9) (T := T4) (As := [.ref (b + k1), vI x2, vI x3]) F hS (show 177 < 191 by decide) (show shK 177 = 8 from rfl) rfl (c_Laws_joyTold l F.2.2.1 M k1 x2 x3 hk1 hx2 hx3 _ hq1) gs_Laws_96 hd_Laws_joyTold ⟨Nat.le_of_ble_eq_true rfl, Nat.le_of_ble_eq_true rfl⟩ rfl hl.1 (Nat.le_of_ble_eq_true rfl) ⟨Nat.zero_le _, Nat.zero_le _⟩ rfl d_Laws_joyOf_4) (fun H locs hS => ?_)
  refine lv_lstore (lv' := [(4, .long (q1.2)), (0, .ref (b + 177)), (1, .ref (b + k1)), (2, vI x2), (3, vI x3)]) F.hx F.hb d_Laws_joyOf_7 hl (Nat.le_of_ble_eq_true rfl) rfl (fun ls hl => ?_)
  refine lv_lload F.hx F.hb d_Laws_joyOf_9 (lv_at hl 0 rfl) ?_
  refine lv_ldc2 (v := (-9223372036854775808)) F.hx F.hb F.hown (F.hts mw_920) d_Laws_joyOf_11 ?_
  refine W.lcmp F.hx F.hb d_Laws_joyOf_14 ?_
  refine r_lif_ne (tgt := 29) F.hx F.hb  d_Laws_joyOf_15 (by decide) (fun c3 => ?_) (fun c3 => ?_)
  · replace hT := (if_neg c3).symm.trans hT
    refine lv_lconst (v := 0) F.hx F.hb d_Laws_joyOf_29 rfl ?_
    refine lv_ldc2 (v := 9999) F.hx F.hb F.hown (F.hts mw_921) d_Laws_joyOf_30 ?_
    refine lv_lload F.hx F.hb d_Laws_joyOf_33 (lv_at hl 0 rfl) ?_
    refine r_mminl F hl.1 mw_922 mw_923 mw_14 mw_924 ⟨Nat.le_of_ble_eq_true rfl, Nat.le_of_ble_eq_true rfl⟩ (Nat.le_of_ble_eq_true rfl) ⟨Nat.zero_le _, Nat.zero_le _⟩ d_Laws_joyOf_35 ?_
    refine r_mmaxl F hl.1 mw_925 mw_926 mw_14 mw_927 ⟨Nat.le_of_ble_eq_true rfl, Nat.le_of_ble_eq_true rfl⟩ (Nat.le_of_ble_eq_true rfl) ⟨Nat.zero_le _, Nat.zero_le _⟩ d_Laws_joyOf_38 ?_
    refine r_l2i F.hx F.hb d_Laws_joyOf_41 ?_
    cases hT
    exact r_iret F hlk hr rfl hS (q_inr_toInt _) d_Laws_joyOf_42
  · replace hT := (if_pos c3).symm.trans hT
    refine lv_aload_n F.hx F.hb d_Laws_joyOf_18 rfl (lv_at hl 1 rfl) ?_
    refine r_get (v := .ref (b + 180)) (N := 9) (T := T4) (j := 2) F hS (show 177 < 191 by decide) (show shK 177 = 8 from rfl) (show shN 177 = 9 from rfl) rfl (Nat.le_of_ble_eq_true rfl) ing4 mw_440 (fv_sg rfl rfl rfl) d_Laws_joyOf_19 ?_
    refine lv_iload_n F.hx F.hb d_Laws_joyOf_22 rfl (lv_at hl 3 rfl) ?_
    obtain ⟨q4, hq4⟩ : ∃ q, q = (t_WF_look (q1.1) 180 4 x2) := ⟨_, rfl⟩
    replace hT := qlet_eq hT hq4
    refine r_backI F hS (r_runSN (As := [.ref (b + 180), vI x2]) F hS (c_WF_look l F.2.2.1 (q1.1) 180 4 x2 (show arrP 0 180 4 191 from ⟨rfl, rfl, by decide⟩) hx2 _ hq4.symm) mw_519 mw_518 mw_1 gs_Laws_52 hd_WF_look ⟨Nat.le_of_ble_eq_true rfl, Nat.le_of_ble_eq_true rfl⟩ rfl hl.1 (Nat.le_of_ble_eq_true rfl) ⟨Nat.zero_le _, Nat.zero_le _⟩ rfl d_Laws_joyOf_23) (fun H locs hS h5 => ?_)
    refine lv_goto (tgt := 42) F.hx F.hb d_Laws_joyOf_26 (by decide) ?_
    cases hT
    exact r_iret F hlk hr rfl hS h5 d_Laws_joyOf_42
theorem d_WF_ward_0 : decode b_WF_ward 0 = .ok (.aload_n 0, 1) := dc_42 (by decide +kernel)
theorem d_WF_ward_1 : decode b_WF_ward 1 = .ok (.getfield 22, 3) := dc_180 (by decide +kernel)
theorem d_WF_ward_4 : decode b_WF_ward 4 = .ok (.iload_n 1, 1) := dc_27 (by decide +kernel)
theorem d_WF_ward_5 : decode b_WF_ward 5 = .ok (.invokevirtual 198, 3) := dc_182 (by decide +kernel)
theorem d_WF_ward_8 : decode b_WF_ward 8 = .ok (.ifCond .ne 5, 3) := dc_154 (by decide +kernel)
theorem d_WF_ward_11 : decode b_WF_ward 11 = .ok (.iconst (-1), 1) := dc_2 (by decide +kernel)
theorem d_WF_ward_12 : decode b_WF_ward 12 = .ok (.ireturn, 1) := dc_172 (by decide +kernel)
theorem d_WF_ward_13 : decode b_WF_ward 13 = .ok (.iload_n 2, 1) := dc_28 (by decide +kernel)
theorem d_WF_ward_14 : decode b_WF_ward 14 = .ok (.tableswitch 101 0 3 #[30, 42, 54, 66], 30) := by decide +kernel
theorem d_WF_ward_44 : decode b_WF_ward 44 = .ok (.aload_n 0, 1) := dc_42 (by decide +kernel)
theorem d_WF_ward_45 : decode b_WF_ward 45 = .ok (.getfield 46, 3) := dc_180 (by decide +kernel)
theorem d_WF_ward_48 : decode b_WF_ward 48 = .ok (.getfield 201, 3) := dc_180 (by decide +kernel)
theorem d_WF_ward_51 : decode b_WF_ward 51 = .ok (.iload_n 1, 1) := dc_27 (by decide +kernel)
theorem d_WF_ward_52 : decode b_WF_ward 52 = .ok (.invokestatic 204, 3) := dc_184 (by decide +kernel)
theorem d_WF_ward_55 : decode b_WF_ward 55 = .ok (.ireturn, 1) := dc_172 (by decide +kernel)
theorem d_WF_ward_56 : decode b_WF_ward 56 = .ok (.aload_n 0, 1) := dc_42 (by decide +kernel)
theorem d_WF_ward_57 : decode b_WF_ward 57 = .ok (.getfield 22, 3) := dc_180 (by decide +kernel)
theorem d_WF_ward_60 : decode b_WF_ward 60 = .ok (.getfield 208, 3) := dc_180 (by decide +kernel)
theorem d_WF_ward_63 : decode b_WF_ward 63 = .ok (.iload_n 1, 1) := dc_27 (by decide +kernel)
theorem d_WF_ward_64 : decode b_WF_ward 64 = .ok (.invokestatic 204, 3) := dc_184 (by decide +kernel)
theorem d_WF_ward_67 : decode b_WF_ward 67 = .ok (.ireturn, 1) := dc_172 (by decide +kernel)
theorem d_WF_ward_68 : decode b_WF_ward 68 = .ok (.aload_n 0, 1) := dc_42 (by decide +kernel)
theorem d_WF_ward_69 : decode b_WF_ward 69 = .ok (.getfield 22, 3) := dc_180 (by decide +kernel)
theorem d_WF_ward_72 : decode b_WF_ward 72 = .ok (.getfield 211, 3) := dc_180 (by decide +kernel)
theorem d_WF_ward_75 : decode b_WF_ward 75 = .ok (.iload_n 1, 1) := dc_27 (by decide +kernel)
theorem d_WF_ward_76 : decode b_WF_ward 76 = .ok (.invokestatic 204, 3) := dc_184 (by decide +kernel)
theorem d_WF_ward_79 : decode b_WF_ward 79 = .ok (.ireturn, 1) := dc_172 (by decide +kernel)
theorem d_WF_ward_80 : decode b_WF_ward 80 = .ok (.aload_n 0, 1) := dc_42 (by decide +kernel)
theorem d_WF_ward_81 : decode b_WF_ward 81 = .ok (.getfield 83, 3) := dc_180 (by decide +kernel)
theorem d_WF_ward_84 : decode b_WF_ward 84 = .ok (.aload_n 0, 1) := dc_42 (by decide +kernel)
theorem d_WF_ward_85 : decode b_WF_ward 85 = .ok (.getfield 22, 3) := dc_180 (by decide +kernel)
theorem d_WF_ward_88 : decode b_WF_ward 88 = .ok (.aload_n 0, 1) := dc_42 (by decide +kernel)
theorem d_WF_ward_89 : decode b_WF_ward 89 = .ok (.getfield 46, 3) := dc_180 (by decide +kernel)
theorem d_WF_ward_92 : decode b_WF_ward 92 = .ok (.invokevirtual 214, 3) := dc_182 (by decide +kernel)
theorem d_WF_ward_95 : decode b_WF_ward 95 = .ok (.aload_n 0, 1) := dc_42 (by decide +kernel)
theorem d_WF_ward_96 : decode b_WF_ward 96 = .ok (.getfield 83, 3) := dc_180 (by decide +kernel)
theorem d_WF_ward_99 : decode b_WF_ward 99 = .ok (.aload_n 0, 1) := dc_42 (by decide +kernel)
theorem d_WF_ward_100 : decode b_WF_ward 100 = .ok (.getfield 22, 3) := dc_180 (by decide +kernel)
theorem d_WF_ward_103 : decode b_WF_ward 103 = .ok (.iload_n 1, 1) := dc_27 (by decide +kernel)
theorem d_WF_ward_104 : decode b_WF_ward 104 = .ok (.aload_n 0, 1) := dc_42 (by decide +kernel)
theorem d_WF_ward_105 : decode b_WF_ward 105 = .ok (.getfield 59, 3) := dc_180 (by decide +kernel)
theorem d_WF_ward_108 : decode b_WF_ward 108 = .ok (.getfield 218, 3) := dc_180 (by decide +kernel)
theorem d_WF_ward_111 : decode b_WF_ward 111 = .ok (.invokevirtual 221, 3) := dc_182 (by decide +kernel)
theorem d_WF_ward_114 : decode b_WF_ward 114 = .ok (.ireturn, 1) := dc_172 (by decide +kernel)
theorem d_WF_ward_115 : decode b_WF_ward 115 = .ok (.iconst (-1), 1) := dc_2 (by decide +kernel)
theorem d_WF_ward_116 : decode b_WF_ward 116 = .ok (.ireturn, 1) := dc_172 (by decide +kernel)
def t_WF_ward (M : Mem) (x1 : Int) (x2 : Int) : Option (Mem × Int) := (qlet (t_Town_hasWard M ((M.1 0 4).toNat) x1) fun q2 => (if q2 = 0 then (some (M, (-1))) else (if x2 = 0 then (qlet (t_WF_look M 48 4 x1) fun q6 => (some (M, q6))) else (if x2 = 1 then (qlet (t_WF_look M (((M.1 0 4).toNat) + 3) 4 x1) fun q10 => (some (M, q10))) else (if x2 = 2 then (qlet (t_WF_look M (((M.1 0 4).toNat) + 4) 4 x1) fun q14 => (some (M, q14))) else (if x2 = 3 then (obind (t_Laws_measure M ((M.1 0 4).toNat) 47) fun q18 => (obind (t_Laws_joyOf q18 ((q18.1 0 4).toNat) x1 (q18.1 62 3)) fun q22 => (some ((q22.1), (q22.2))))) else (some (M, (-1)))))))))
set_option maxHeartbeats 4000000 in
set_option maxRecDepth 100000 in
theorem c_WF_ward (l : Launch) {b n : Nat} {C : CT} (hlo : 191 ≤ n) (M : Mem) (x1 : Int) (x2 : Int) (hx1 : InR x1) (hx2 : InR x2) (res : Mem × Int) (hT : t_WF_ward M x1 x2 = some res) : CM l b C n 6 y_WF_ward b_WF_ward 3 (some .int) [.ref (b + 0), vI x1, vI x2] M (QI b C n res.1 res.2) := by
  refine CM.of (lo := 191) (ow := "WardFalls") (by decide) rfl (Nat.le_of_ble_eq_true rfl) hlo (fun p e s m below meth c F hlk hr hS ls hl => ?_)
  have hl : lv_has ls 3 [(0, .ref (b + 0)), (1, vI x1), (2, vI x2)] := hl
  unfold t_WF_ward at hT
  refine lv_aload_n F.hx F.hb d_WF_ward_0 rfl (lv_at hl 0 rfl) ?_
  have h1 := St_town hS
  refine r_get (v := .ref (b + ((M.1 0 4).toNat))) (N := 19) (T := T0) (j := 4) F hS (show 0 < 191 by decide) (show shK 0 = 4 from rfl) (show shN 0 = 19 from rfl) rfl (Nat.le_of_ble_eq_true rfl) ing0 mw_554 (fv_town hS) d_WF_ward_1 ?_
  refine lv_iload_n F.hx F.hb d_WF_ward_4 rfl (lv_at hl 1 rfl) ?_
  obtain ⟨q2, hq2⟩ : ∃ q, q = (t_Town_hasWard M ((M.1 0 4).toNat) x1) := ⟨_, rfl⟩
  replace hT := qlet_eq hT hq2
  refine r_backZ F hS (r_runV (k := ((M.1 0 4).toNat)) (N := 20) (T := T11) (As := [vI x1]) F hS (Town_lt h1) (Town_sh h1) rfl (c_Town_hasWard l F.2.2.1 M ((M.1 0 4).toNat) x1 h1 hx1 _ hq2.symm) gs_WF_198 hd_Town_hasWard ⟨Nat.le_of_ble_eq_true rfl, Nat.le_of_ble_eq_true rfl⟩ rfl hl.1 (Nat.le_of_ble_eq_true rfl) ⟨Nat.zero_le _, Nat.zero_le _⟩ rfl d_WF_ward_5) (fun H locs hS h3 => ?_)
  refine r_if_ne (tgt := 13) F.hx F.hb (inr_z h3) d_WF_ward_8 (by decide) (fun c4 => ?_) (fun c4 => ?_)
  · replace hT := (if_neg c4).symm.trans hT
    refine lv_iload_n F.hx F.hb d_WF_ward_13 rfl (lv_at hl 2 rfl) ?_
    rcases q_ite hT with ⟨c5, hT⟩ | ⟨c5, hT⟩
    · refine r_tableIn (i := 0) (tgt := 44) F.hx F.hb hx2 c5 d_WF_ward_14 (by decide) (by decide) rfl (by decide) ?_
      refine lv_aload_n F.hx F.hb d_WF_ward_44 rfl (lv_at hl 0 rfl) ?_
      refine r_get (v := .ref (b + 47)) (N := 19) (T := T0) (j := 8) F hS (show 0 < 191 by decide) (show shK 0 = 4 from rfl) (show shN 0 = 19 from rfl) rfl (Nat.le_of_ble_eq_true rfl) ing0 mw_558 (fv_sg rfl rfl rfl) d_WF_ward_45 ?_
      refine r_get (v := .ref (b + 48)) (N := 7) (T := T9) (j := 0) F hS (show 47 < 191 by decide) (show shK 47 = 13 from rfl) (show shN 47 = 7 from rfl) rfl (Nat.le_of_ble_eq_true rfl) ing9 mw_276 (fv_sg rfl rfl rfl) d_WF_ward_48 ?_
      refine lv_iload_n F.hx F.hb d_WF_ward_51 rfl (lv_at hl 1 rfl) ?_
      obtain ⟨q6, hq6⟩ : ∃ q, q = (t_WF_look M 48 4 x1) := ⟨_, rfl⟩
      replace hT := qlet_eq hT hq6
      refine r_backI F hS (r_runS (As := [.ref (b + 48), vI x1]) F hS (c_WF_look l F.2.2.1 M 48 4 x1 (show arrP 0 48 4 191 from ⟨rfl, rfl, by decide⟩) hx1 _ hq6.symm) gs_WF_204 hd_WF_look ⟨Nat.le_of_ble_eq_true rfl, Nat.le_of_ble_eq_true rfl⟩ rfl hl.1 (Nat.le_of_ble_eq_true rfl) ⟨Nat.zero_le _, Nat.zero_le _⟩ rfl d_WF_ward_52) (fun H locs hS h7 => ?_)
      cases hT
      exact r_iret F hlk hr rfl hS h7 d_WF_ward_55
    ·
      rcases q_ite hT with ⟨c8, hT⟩ | ⟨c8, hT⟩
      · refine r_tableIn (i := 1) (tgt := 56) F.hx F.hb hx2 c8 d_WF_ward_14 (by decide) (by decide) rfl (by decide) ?_
        refine lv_aload_n F.hx F.hb d_WF_ward_56 rfl (lv_at hl 0 rfl) ?_
        have h9 := St_town hS
        refine r_get (v := .ref (b + ((M.1 0 4).toNat))) (N := 19) (T := T0) (j := 4) F hS (show 0 < 191 by decide) (show shK 0 = 4 from rfl) (show shN 0 = 19 from rfl) rfl (Nat.le_of_ble_eq_true rfl) ing0 mw_554 (fv_town hS) d_WF_ward_57 ?_
        refine r_get (v := .ref (b + (((M.1 0 4).toNat) + 3))) (N := 20) (T := T11) (j := 2) F hS (Town_lt h9) (Town_sh h9) (Town_N h9) rfl (Nat.le_of_ble_eq_true rfl) ing11 mw_97 (Town_g2 h9 _) d_WF_ward_60 ?_
        refine lv_iload_n F.hx F.hb d_WF_ward_63 rfl (lv_at hl 1 rfl) ?_
        obtain ⟨q10, hq10⟩ : ∃ q, q = (t_WF_look M (((M.1 0 4).toNat) + 3) 4 x1) := ⟨_, rfl⟩
        replace hT := qlet_eq hT hq10
        refine r_backI F hS (r_runS (As := [.ref (b + (((M.1 0 4).toNat) + 3)), vI x1]) F hS (c_WF_look l F.2.2.1 M (((M.1 0 4).toNat) + 3) 4 x1 (Town_f2 h9) hx1 _ hq10.symm) gs_WF_204 hd_WF_look ⟨Nat.le_of_ble_eq_true rfl, Nat.le_of_ble_eq_true rfl⟩ rfl hl.1 (Nat.le_of_ble_eq_true rfl) ⟨Nat.zero_le _, Nat.zero_le _⟩ rfl d_WF_ward_64) (fun H locs hS h11 => ?_)
        cases hT
        exact r_iret F hlk hr rfl hS h11 d_WF_ward_67
      ·
        rcases q_ite hT with ⟨c12, hT⟩ | ⟨c12, hT⟩
        · refine r_tableIn (i := 2) (tgt := 68) F.hx F.hb hx2 c12 d_WF_ward_14 (by decide) (by decide) rfl (by decide) ?_
          refine lv_aload_n F.hx F.hb d_WF_ward_68 rfl (lv_at hl 0 rfl) ?_
          have h13 := St_town hS
          refine r_get (v := .ref (b + ((M.1 0 4).toNat))) (N := 19) (T := T0) (j := 4) F hS (show 0 < 191 by decide) (show shK 0 = 4 from rfl) (show shN 0 = 19 from rfl) rfl (Nat.le_of_ble_eq_true rfl) ing0 mw_554 (fv_town hS) d_WF_ward_69 ?_
          refine r_get (v := .ref (b + (((M.1 0 4).toNat) + 4))) (N := 20) (T := T11) (j := 3) F hS (Town_lt h13) (Town_sh h13) (Town_N h13) rfl (Nat.le_of_ble_eq_true rfl) ing11 mw_100 (Town_g3 h13 _) d_WF_ward_72 ?_
          refine lv_iload_n F.hx F.hb d_WF_ward_75 rfl (lv_at hl 1 rfl) ?_
          obtain ⟨q14, hq14⟩ : ∃ q, q = (t_WF_look M (((M.1 0 4).toNat) + 4) 4 x1) := ⟨_, rfl⟩
          replace hT := qlet_eq hT hq14
          refine r_backI F hS (r_runS (As := [.ref (b + (((M.1 0 4).toNat) + 4)), vI x1]) F hS (c_WF_look l F.2.2.1 M (((M.1 0 4).toNat) + 4) 4 x1 (Town_f3 h13) hx1 _ hq14.symm) gs_WF_204 hd_WF_look ⟨Nat.le_of_ble_eq_true rfl, Nat.le_of_ble_eq_true rfl⟩ rfl hl.1 (Nat.le_of_ble_eq_true rfl) ⟨Nat.zero_le _, Nat.zero_le _⟩ rfl d_WF_ward_76) (fun H locs hS h15 => ?_)
          cases hT
          exact r_iret F hlk hr rfl hS h15 d_WF_ward_79
        ·
          rcases q_ite hT with ⟨c16, hT⟩ | ⟨c16, hT⟩
          · refine r_tableIn (i := 3) (tgt := 80) F.hx F.hb hx2 c16 d_WF_ward_14 (by decide) (by decide) rfl (by decide) ?_
            refine lv_aload_n F.hx F.hb d_WF_ward_80 rfl (lv_at hl 0 rfl) ?_
            refine r_get (v := .ref (b + 177)) (N := 19) (T := T0) (j := 16) F hS (show 0 < 191 by decide) (show shK 0 = 4 from rfl) (show shN 0 = 19 from rfl) rfl (Nat.le_of_ble_eq_true rfl) ing0 mw_566 (fv_sg rfl rfl rfl) d_WF_ward_81 ?_
            refine lv_aload_n F.hx F.hb d_WF_ward_84 rfl (lv_at hl 0 rfl) ?_
            have h17 := St_town hS
            refine r_get (v := .ref (b + ((M.1 0 4).toNat))) (N := 19) (T := T0) (j := 4) F hS (show 0 < 191 by decide) (show shK 0 = 4 from rfl) (show shN 0 = 19 from rfl) rfl (Nat.le_of_ble_eq_true rfl) ing0 mw_554 (fv_town hS) d_WF_ward_85 ?_
            refine lv_aload_n F.hx F.hb d_WF_ward_88 rfl (lv_at hl 0 rfl) ?_
            refine r_get (v := .ref (b + 47)) (N := 19) (T := T0) (j := 8) F hS (show 0 < 191 by decide) (show shK 0 = 4 from rfl) (show shN 0 = 19 from rfl) rfl (Nat.le_of_ble_eq_true rfl) ing0 mw_558 (fv_sg rfl rfl rfl) d_WF_ward_89 ?_
            obtain ⟨q18, hq18, hT⟩ := q_obind hT
            refine r_backV F hS (r_runV (k := 177) (N := 9) (T := T4) (As := [.ref (b + ((M.1 0 4).toNat)), .ref (b + 47)]) F hS (show 177 < 191 by decide) (show shK 177 = 8 from rfl) rfl (c_Laws_measure l F.2.2.1 M ((M.1 0 4).toNat) 47 h17 (by decide : isScene 47) _ hq18) gs_WF_214 hd_Laws_measure ⟨Nat.le_of_ble_eq_true rfl, Nat.le_of_ble_eq_true rfl⟩ rfl hl.1 (Nat.le_of_ble_eq_true rfl) ⟨Nat.zero_le _, Nat.zero_le _⟩ rfl d_WF_ward_92) (fun H locs hS => ?_)
            refine lv_aload_n F.hx F.hb d_WF_ward_95 rfl (lv_at hl 0 rfl) ?_
            refine r_get (v := .ref (b + 177)) (N := 19) (T := T0) (j := 16) F hS (show 0 < 191 by decide) (show shK 0 = 4 from rfl) (show shN 0 = 19 from rfl) rfl (Nat.le_of_ble_eq_true rfl) ing0 mw_566 (fv_sg rfl rfl rfl) d_WF_ward_96 ?_
            refine lv_aload_n F.hx F.hb d_WF_ward_99 rfl (lv_at hl 0 rfl) ?_
            have h20 := St_town hS
            refine r_get (v := .ref (b + ((q18.1 0 4).toNat))) (N := 19) (T := T0) (j := 4) F hS (show 0 < 191 by decide) (show shK 0 = 4 from rfl) (show shN 0 = 19 from rfl) rfl (Nat.le_of_ble_eq_true rfl) ing0 mw_554 (fv_town hS) d_WF_ward_100 ?_
            refine lv_iload_n F.hx F.hb d_WF_ward_103 rfl (lv_at hl 1 rfl) ?_
            refine lv_aload_n F.hx F.hb d_WF_ward_104 rfl (lv_at hl 0 rfl) ?_
            refine r_get (v := .ref (b + 62)) (N := 19) (T := T0) (j := 11) F hS (show 0 < 191 by decide) (show shK 0 = 4 from rfl) (show shN 0 = 19 from rfl) rfl (Nat.le_of_ble_eq_true rfl) ing0 mw_561 (fv_sg rfl rfl rfl) d_WF_ward_105 ?_
            refine r_get (v := vI (q18.1 62 3)) (N := 6) (T := T2) (j := 3) F hS (show 62 < 191 by decide) (show shK 62 = 6 from rfl) (show shN 62 = 6 from rfl) rfl (Nat.le_of_ble_eq_true rfl) ing2 mw_321 (fv_int rfl) d_WF_ward_108 ?_
            have i21 := hS.rng 62 3
            obtain ⟨q22, hq22, hT⟩ := q_obind hT
            refine r_backI F hS (r_runV (k := 177) (N := 9) (T := T4) (As := [.ref (b + ((q18.1 0 4).toNat)), vI x1, vI (q18.1 62 3)]) F hS (show 177 < 191 by decide) (show shK 177 = 8 from rfl) rfl (c_Laws_joyOf l F.2.2.1 q18 ((q18.1 0 4).toNat) x1 (q18.1 62 3) h20 hx1 i21 _ hq22) gs_WF_221 hd_Laws_joyOf ⟨Nat.le_of_ble_eq_true rfl, Nat.le_of_ble_eq_true rfl⟩ rfl hl.1 (Nat.le_of_ble_eq_true rfl) ⟨Nat.zero_le _, Nat.zero_le _⟩ rfl d_WF_ward_111) (fun H locs hS h23 => ?_)
            cases hT
            exact r_iret F hlk hr rfl hS h23 d_WF_ward_114
          ·
            refine r_tableOut (tgt := 115) F.hx F.hb hx2 (by omega) d_WF_ward_14 (by decide) ?_
            refine r_iconst F.hx F.hb d_WF_ward_115 ?_
            cases hT
            exact r_iret F hlk hr rfl hS (inr_c rfl) d_WF_ward_116
  · replace hT := (if_pos c4).symm.trans hT
    refine r_iconst F.hx F.hb d_WF_ward_11 ?_
    cases hT
    exact r_iret F hlk hr rfl hS (inr_c rfl) d_WF_ward_12
theorem d_Town_hasThing_0 : decode b_Town_hasThing 0 = .ok (.iload_n 1, 1) := dc_27 (by decide +kernel)
theorem d_Town_hasThing_1 : decode b_Town_hasThing 1 = .ok (.ifCond .lt 15, 3) := dc_155 (by decide +kernel)
theorem d_Town_hasThing_4 : decode b_Town_hasThing 4 = .ok (.iload_n 1, 1) := dc_27 (by decide +kernel)
theorem d_Town_hasThing_5 : decode b_Town_hasThing 5 = .ok (.aload_n 0, 1) := dc_42 (by decide +kernel)
theorem d_Town_hasThing_6 : decode b_Town_hasThing 6 = .ok (.getfield 59, 3) := dc_180 (by decide +kernel)
theorem d_Town_hasThing_9 : decode b_Town_hasThing 9 = .ok (.if_icmp .ge 7, 3) := dc_162 (by decide +kernel)
theorem d_Town_hasThing_12 : decode b_Town_hasThing 12 = .ok (.iconst 1, 1) := dc_4 (by decide +kernel)
theorem d_Town_hasThing_13 : decode b_Town_hasThing 13 = .ok (.goto 4, 3) := dc_167 (by decide +kernel)
theorem d_Town_hasThing_16 : decode b_Town_hasThing 16 = .ok (.iconst 0, 1) := dc_3 (by decide +kernel)
theorem d_Town_hasThing_17 : decode b_Town_hasThing 17 = .ok (.ireturn, 1) := dc_172 (by decide +kernel)
def t_Town_hasThing (M : Mem) (k0 : Nat) (x1 : Int) : Int := (if x1 < 0 then 0 else (if (M.1 k0 15) ≤ x1 then 0 else 1))
set_option maxHeartbeats 4000000 in
set_option maxRecDepth 100000 in
theorem c_Town_hasThing (l : Launch) {b n : Nat} {C : CT} (hlo : 191 ≤ n) (M : Mem) (k0 : Nat) (x1 : Int) (hk0 : isTown k0) (hx1 : InR x1) (res : Int) (hT : t_Town_hasThing M k0 x1 = res) : CM l b C n 0 y_Town_hasThing b_Town_hasThing 2 (some .boolean) [.ref (b + k0), vI x1] M (QZ b C n M res) := by
  refine CM.of (lo := 191) (ow := "WardFalls$Town") (by decide) rfl (Nat.le_of_ble_eq_true rfl) hlo (fun p e s m below meth c F hlk hr hS ls hl => ?_)
  have hl : lv_has ls 2 [(0, .ref (b + k0)), (1, vI x1)] := hl
  unfold t_Town_hasThing at hT
  refine lv_iload_n F.hx F.hb d_Town_hasThing_0 rfl (lv_at hl 1 rfl) ?_
  refine r_if_lt (tgt := 16) F.hx F.hb hx1 d_Town_hasThing_1 (by decide) (fun c1 => ?_) (fun c1 => ?_)
  · replace hT := (if_pos c1).symm.trans hT
    refine r_iconst F.hx F.hb d_Town_hasThing_16 ?_
    subst hT
    exact r_zret F hlk hr hS (Or.inl rfl) d_Town_hasThing_17
  · replace hT := (if_neg c1).symm.trans hT
    refine lv_iload_n F.hx F.hb d_Town_hasThing_4 rfl (lv_at hl 1 rfl) ?_
    refine lv_aload_n F.hx F.hb d_Town_hasThing_5 rfl (lv_at hl 0 rfl) ?_
    refine r_get (v := vI (M.1 k0 15)) (N := 20) (T := T11) (j := 15) F hS (Town_lt hk0) (Town_sh hk0) (Town_N hk0) rfl (Nat.le_of_ble_eq_true rfl) ing11 mw_140 (fv_int rfl) d_Town_hasThing_6 ?_
    have i2 := hS.rng k0 15
    refine r_icmp_ge (tgt := 16) F.hx F.hb hx1 i2 d_Town_hasThing_9 (by decide) (fun c3 => ?_) (fun c3 => ?_)
    · replace hT := (if_pos c3).symm.trans hT
      refine r_iconst F.hx F.hb d_Town_hasThing_16 ?_
      subst hT
      exact r_zret F hlk hr hS (Or.inl rfl) d_Town_hasThing_17
    · replace hT := (if_neg c3).symm.trans hT
      refine r_iconst F.hx F.hb d_Town_hasThing_12 ?_
      refine lv_goto (tgt := 17) F.hx F.hb d_Town_hasThing_13 (by decide) ?_
      subst hT
      exact r_zret F hlk hr hS (Or.inr rfl) d_Town_hasThing_17
theorem d_WF_thing_0 : decode b_WF_thing 0 = .ok (.aload_n 0, 1) := dc_42 (by decide +kernel)
theorem d_WF_thing_1 : decode b_WF_thing 1 = .ok (.getfield 22, 3) := dc_180 (by decide +kernel)
theorem d_WF_thing_4 : decode b_WF_thing 4 = .ok (.iload_n 1, 1) := dc_27 (by decide +kernel)
theorem d_WF_thing_5 : decode b_WF_thing 5 = .ok (.invokevirtual 225, 3) := dc_182 (by decide +kernel)
theorem d_WF_thing_8 : decode b_WF_thing 8 = .ok (.ifCond .ne 5, 3) := dc_154 (by decide +kernel)
theorem d_WF_thing_11 : decode b_WF_thing 11 = .ok (.iconst (-1), 1) := dc_2 (by decide +kernel)
theorem d_WF_thing_12 : decode b_WF_thing 12 = .ok (.ireturn, 1) := dc_172 (by decide +kernel)
theorem d_WF_thing_13 : decode b_WF_thing 13 = .ok (.iload_n 2, 1) := dc_28 (by decide +kernel)
theorem d_WF_thing_14 : decode b_WF_thing 14 = .ok (.tableswitch 78 0 3 #[30, 42, 54, 66], 30) := by decide +kernel
theorem d_WF_thing_44 : decode b_WF_thing 44 = .ok (.aload_n 0, 1) := dc_42 (by decide +kernel)
theorem d_WF_thing_45 : decode b_WF_thing 45 = .ok (.getfield 46, 3) := dc_180 (by decide +kernel)
theorem d_WF_thing_48 : decode b_WF_thing 48 = .ok (.getfield 228, 3) := dc_180 (by decide +kernel)
theorem d_WF_thing_51 : decode b_WF_thing 51 = .ok (.iload_n 1, 1) := dc_27 (by decide +kernel)
theorem d_WF_thing_52 : decode b_WF_thing 52 = .ok (.invokestatic 204, 3) := dc_184 (by decide +kernel)
theorem d_WF_thing_55 : decode b_WF_thing 55 = .ok (.ireturn, 1) := dc_172 (by decide +kernel)
theorem d_WF_thing_56 : decode b_WF_thing 56 = .ok (.aload_n 0, 1) := dc_42 (by decide +kernel)
theorem d_WF_thing_57 : decode b_WF_thing 57 = .ok (.getfield 22, 3) := dc_180 (by decide +kernel)
theorem d_WF_thing_60 : decode b_WF_thing 60 = .ok (.getfield 231, 3) := dc_180 (by decide +kernel)
theorem d_WF_thing_63 : decode b_WF_thing 63 = .ok (.iload_n 1, 1) := dc_27 (by decide +kernel)
theorem d_WF_thing_64 : decode b_WF_thing 64 = .ok (.invokestatic 204, 3) := dc_184 (by decide +kernel)
theorem d_WF_thing_67 : decode b_WF_thing 67 = .ok (.ireturn, 1) := dc_172 (by decide +kernel)
theorem d_WF_thing_68 : decode b_WF_thing 68 = .ok (.aload_n 0, 1) := dc_42 (by decide +kernel)
theorem d_WF_thing_69 : decode b_WF_thing 69 = .ok (.getfield 46, 3) := dc_180 (by decide +kernel)
theorem d_WF_thing_72 : decode b_WF_thing 72 = .ok (.getfield 234, 3) := dc_180 (by decide +kernel)
theorem d_WF_thing_75 : decode b_WF_thing 75 = .ok (.iload_n 1, 1) := dc_27 (by decide +kernel)
theorem d_WF_thing_76 : decode b_WF_thing 76 = .ok (.invokestatic 204, 3) := dc_184 (by decide +kernel)
theorem d_WF_thing_79 : decode b_WF_thing 79 = .ok (.ireturn, 1) := dc_172 (by decide +kernel)
theorem d_WF_thing_80 : decode b_WF_thing 80 = .ok (.aload_n 0, 1) := dc_42 (by decide +kernel)
theorem d_WF_thing_81 : decode b_WF_thing 81 = .ok (.getfield 46, 3) := dc_180 (by decide +kernel)
theorem d_WF_thing_84 : decode b_WF_thing 84 = .ok (.getfield 237, 3) := dc_180 (by decide +kernel)
theorem d_WF_thing_87 : decode b_WF_thing 87 = .ok (.iload_n 1, 1) := dc_27 (by decide +kernel)
theorem d_WF_thing_88 : decode b_WF_thing 88 = .ok (.invokestatic 204, 3) := dc_184 (by decide +kernel)
theorem d_WF_thing_91 : decode b_WF_thing 91 = .ok (.ireturn, 1) := dc_172 (by decide +kernel)
theorem d_WF_thing_92 : decode b_WF_thing 92 = .ok (.iconst (-1), 1) := dc_2 (by decide +kernel)
theorem d_WF_thing_93 : decode b_WF_thing 93 = .ok (.ireturn, 1) := dc_172 (by decide +kernel)
def t_WF_thing (M : Mem) (x1 : Int) (x2 : Int) : Int := (qlet (t_Town_hasThing M ((M.1 0 4).toNat) x1) fun q2 => (if q2 = 0 then (-1) else (if x2 = 0 then (qlet (t_WF_look M 49 8 x1) fun q6 => q6) else (if x2 = 1 then (qlet (t_WF_look M (((M.1 0 4).toNat) + 6) 8 x1) fun q10 => q10) else (if x2 = 2 then (qlet (t_WF_look M 50 8 x1) fun q13 => q13) else (if x2 = 3 then (qlet (t_WF_look M 51 8 x1) fun q16 => q16) else (-1)))))))
set_option maxHeartbeats 4000000 in
set_option maxRecDepth 100000 in
theorem c_WF_thing (l : Launch) {b n : Nat} {C : CT} (hlo : 191 ≤ n) (M : Mem) (x1 : Int) (x2 : Int) (hx1 : InR x1) (hx2 : InR x2) (res : Int) (hT : t_WF_thing M x1 x2 = res) : CM l b C n 1 y_WF_thing b_WF_thing 3 (some .int) [.ref (b + 0), vI x1, vI x2] M (QI b C n M res) := by
  refine CM.of (lo := 191) (ow := "WardFalls") (by decide) rfl (Nat.le_of_ble_eq_true rfl) hlo (fun p e s m below meth c F hlk hr hS ls hl => ?_)
  have hl : lv_has ls 3 [(0, .ref (b + 0)), (1, vI x1), (2, vI x2)] := hl
  unfold t_WF_thing at hT
  refine lv_aload_n F.hx F.hb d_WF_thing_0 rfl (lv_at hl 0 rfl) ?_
  have h1 := St_town hS
  refine r_get (v := .ref (b + ((M.1 0 4).toNat))) (N := 19) (T := T0) (j := 4) F hS (show 0 < 191 by decide) (show shK 0 = 4 from rfl) (show shN 0 = 19 from rfl) rfl (Nat.le_of_ble_eq_true rfl) ing0 mw_554 (fv_town hS) d_WF_thing_1 ?_
  refine lv_iload_n F.hx F.hb d_WF_thing_4 rfl (lv_at hl 1 rfl) ?_
  obtain ⟨q2, hq2⟩ : ∃ q, q = (t_Town_hasThing M ((M.1 0 4).toNat) x1) := ⟨_, rfl⟩
  replace hT := qlet_eq hT hq2
  refine r_backZ F hS (r_runV (k := ((M.1 0 4).toNat)) (N := 20) (T := T11) (As := [vI x1]) F hS (Town_lt h1) (Town_sh h1) rfl (c_Town_hasThing l F.2.2.1 M ((M.1 0 4).toNat) x1 h1 hx1 _ hq2.symm) gs_WF_225 hd_Town_hasThing ⟨Nat.le_of_ble_eq_true rfl, Nat.le_of_ble_eq_true rfl⟩ rfl hl.1 (Nat.le_of_ble_eq_true rfl) ⟨Nat.zero_le _, Nat.zero_le _⟩ rfl d_WF_thing_5) (fun H locs hS h3 => ?_)
  refine r_if_ne (tgt := 13) F.hx F.hb (inr_z h3) d_WF_thing_8 (by decide) (fun c4 => ?_) (fun c4 => ?_)
  · replace hT := (if_neg c4).symm.trans hT
    refine lv_iload_n F.hx F.hb d_WF_thing_13 rfl (lv_at hl 2 rfl) ?_
    rcases q_ite hT with ⟨c5, hT⟩ | ⟨c5, hT⟩
    · refine r_tableIn (i := 0) (tgt := 44) F.hx F.hb hx2 c5 d_WF_thing_14 (by decide) (by decide) rfl (by decide) ?_
      refine lv_aload_n F.hx F.hb d_WF_thing_44 rfl (lv_at hl 0 rfl) ?_
      refine r_get (v := .ref (b + 47)) (N := 19) (T := T0) (j := 8) F hS (show 0 < 191 by decide) (show shK 0 = 4 from rfl) (show shN 0 = 19 from rfl) rfl (Nat.le_of_ble_eq_true rfl) ing0 mw_558 (fv_sg rfl rfl rfl) d_WF_thing_45 ?_
      refine r_get (v := .ref (b + 49)) (N := 7) (T := T9) (j := 1) F hS (show 47 < 191 by decide) (show shK 47 = 13 from rfl) (show shN 47 = 7 from rfl) rfl (Nat.le_of_ble_eq_true rfl) ing9 mw_280 (fv_sg rfl rfl rfl) d_WF_thing_48 ?_
      refine lv_iload_n F.hx F.hb d_WF_thing_51 rfl (lv_at hl 1 rfl) ?_
      obtain ⟨q6, hq6⟩ : ∃ q, q = (t_WF_look M 49 8 x1) := ⟨_, rfl⟩
      replace hT := qlet_eq hT hq6
      refine r_backI F hS (r_runS (As := [.ref (b + 49), vI x1]) F hS (c_WF_look l F.2.2.1 M 49 8 x1 (show arrP 0 49 8 191 from ⟨rfl, rfl, by decide⟩) hx1 _ hq6.symm) gs_WF_204 hd_WF_look ⟨Nat.le_of_ble_eq_true rfl, Nat.le_of_ble_eq_true rfl⟩ rfl hl.1 (Nat.le_of_ble_eq_true rfl) ⟨Nat.zero_le _, Nat.zero_le _⟩ rfl d_WF_thing_52) (fun H locs hS h7 => ?_)
      subst hT
      exact r_iret F hlk hr rfl hS h7 d_WF_thing_55
    ·
      rcases q_ite hT with ⟨c8, hT⟩ | ⟨c8, hT⟩
      · refine r_tableIn (i := 1) (tgt := 56) F.hx F.hb hx2 c8 d_WF_thing_14 (by decide) (by decide) rfl (by decide) ?_
        refine lv_aload_n F.hx F.hb d_WF_thing_56 rfl (lv_at hl 0 rfl) ?_
        have h9 := St_town hS
        refine r_get (v := .ref (b + ((M.1 0 4).toNat))) (N := 19) (T := T0) (j := 4) F hS (show 0 < 191 by decide) (show shK 0 = 4 from rfl) (show shN 0 = 19 from rfl) rfl (Nat.le_of_ble_eq_true rfl) ing0 mw_554 (fv_town hS) d_WF_thing_57 ?_
        refine r_get (v := .ref (b + (((M.1 0 4).toNat) + 6))) (N := 20) (T := T11) (j := 5) F hS (Town_lt h9) (Town_sh h9) (Town_N h9) rfl (Nat.le_of_ble_eq_true rfl) ing11 mw_106 (Town_g5 h9 _) d_WF_thing_60 ?_
        refine lv_iload_n F.hx F.hb d_WF_thing_63 rfl (lv_at hl 1 rfl) ?_
        obtain ⟨q10, hq10⟩ : ∃ q, q = (t_WF_look M (((M.1 0 4).toNat) + 6) 8 x1) := ⟨_, rfl⟩
        replace hT := qlet_eq hT hq10
        refine r_backI F hS (r_runS (As := [.ref (b + (((M.1 0 4).toNat) + 6)), vI x1]) F hS (c_WF_look l F.2.2.1 M (((M.1 0 4).toNat) + 6) 8 x1 (Town_f5 h9) hx1 _ hq10.symm) gs_WF_204 hd_WF_look ⟨Nat.le_of_ble_eq_true rfl, Nat.le_of_ble_eq_true rfl⟩ rfl hl.1 (Nat.le_of_ble_eq_true rfl) ⟨Nat.zero_le _, Nat.zero_le _⟩ rfl d_WF_thing_64) (fun H locs hS h11 => ?_)
        subst hT
        exact r_iret F hlk hr rfl hS h11 d_WF_thing_67
      ·
        rcases q_ite hT with ⟨c12, hT⟩ | ⟨c12, hT⟩
        · refine r_tableIn (i := 2) (tgt := 68) F.hx F.hb hx2 c12 d_WF_thing_14 (by decide) (by decide) rfl (by decide) ?_
          refine lv_aload_n F.hx F.hb d_WF_thing_68 rfl (lv_at hl 0 rfl) ?_
          refine r_get (v := .ref (b + 47)) (N := 19) (T := T0) (j := 8) F hS (show 0 < 191 by decide) (show shK 0 = 4 from rfl) (show shN 0 = 19 from rfl) rfl (Nat.le_of_ble_eq_true rfl) ing0 mw_558 (fv_sg rfl rfl rfl) d_WF_thing_69 ?_
          refine r_get (v := .ref (b + 50)) (N := 7) (T := T9) (j := 2) F hS (show 47 < 191 by decide) (show shK 47 = 13 from rfl) (show shN 47 = 7 from rfl) rfl (Nat.le_of_ble_eq_true rfl) ing9 mw_282 (fv_sg rfl rfl rfl) d_WF_thing_72 ?_
          refine lv_iload_n F.hx F.hb d_WF_thing_75 rfl (lv_at hl 1 rfl) ?_
          obtain ⟨q13, hq13⟩ : ∃ q, q = (t_WF_look M 50 8 x1) := ⟨_, rfl⟩
          replace hT := qlet_eq hT hq13
          refine r_backI F hS (r_runS (As := [.ref (b + 50), vI x1]) F hS (c_WF_look l F.2.2.1 M 50 8 x1 (show arrP 0 50 8 191 from ⟨rfl, rfl, by decide⟩) hx1 _ hq13.symm) gs_WF_204 hd_WF_look ⟨Nat.le_of_ble_eq_true rfl, Nat.le_of_ble_eq_true rfl⟩ rfl hl.1 (Nat.le_of_ble_eq_true rfl) ⟨Nat.zero_le _, Nat.zero_le _⟩ rfl d_WF_thing_76) (fun H locs hS h14 => ?_)
          subst hT
          exact r_iret F hlk hr rfl hS h14 d_WF_thing_79
        ·
          rcases q_ite hT with ⟨c15, hT⟩ | ⟨c15, hT⟩
          · refine r_tableIn (i := 3) (tgt := 80) F.hx F.hb hx2 c15 d_WF_thing_14 (by decide) (by decide) rfl (by decide) ?_
            refine lv_aload_n F.hx F.hb d_WF_thing_80 rfl (lv_at hl 0 rfl) ?_
            refine r_get (v := .ref (b + 47)) (N := 19) (T := T0) (j := 8) F hS (show 0 < 191 by decide) (show shK 0 = 4 from rfl) (show shN 0 = 19 from rfl) rfl (Nat.le_of_ble_eq_true rfl) ing0 mw_558 (fv_sg rfl rfl rfl) d_WF_thing_81 ?_
            refine r_get (v := .ref (b + 51)) (N := 7) (T := T9) (j := 3) F hS (show 47 < 191 by decide) (show shK 47 = 13 from rfl) (show shN 47 = 7 from rfl) rfl (Nat.le_of_ble_eq_true rfl) ing9 mw_284 (fv_sg rfl rfl rfl) d_WF_thing_84 ?_
            refine lv_iload_n F.hx F.hb d_WF_thing_87 rfl (lv_at hl 1 rfl) ?_
            obtain ⟨q16, hq16⟩ : ∃ q, q = (t_WF_look M 51 8 x1) := ⟨_, rfl⟩
            replace hT := qlet_eq hT hq16
            refine r_backI F hS (r_runS (As := [.ref (b + 51), vI x1]) F hS (c_WF_look l F.2.2.1 M 51 8 x1 (show arrP 0 51 8 191 from ⟨rfl, rfl, by decide⟩) hx1 _ hq16.symm) gs_WF_204 hd_WF_look ⟨Nat.le_of_ble_eq_true rfl, Nat.le_of_ble_eq_true rfl⟩ rfl hl.1 (Nat.le_of_ble_eq_true rfl) ⟨Nat.zero_le _, Nat.zero_le _⟩ rfl d_WF_thing_88) (fun H locs hS h17 => ?_)
            subst hT
            exact r_iret F hlk hr rfl hS h17 d_WF_thing_91
          ·
            refine r_tableOut (tgt := 92) F.hx F.hb hx2 (by omega) d_WF_thing_14 (by decide) ?_
            refine r_iconst F.hx F.hb d_WF_thing_92 ?_
            subst hT
            exact r_iret F hlk hr rfl hS (inr_c rfl) d_WF_thing_93
  · replace hT := (if_pos c4).symm.trans hT
    refine r_iconst F.hx F.hb d_WF_thing_11 ?_
    subst hT
    exact r_iret F hlk hr rfl hS (inr_c rfl) d_WF_thing_12
end
section
theorem wn_Laws_pushFrom_0 : ∀ i, i < 96 → bA b_Laws_pushFrom (0 + i) = wB [43, 29, 21, 4, 182, 0, 113, 54, 6, 21, 6, 155, 0, 28, 44, 180, 0, 117, 29, 184, 0, 121, 4, 159, 0, 16, 44, 180, 0, 117, 21, 6, 184, 0, 121, 4, 160, 0, 7, 20, 0, 100, 173, 43, 21, 6, 182, 0, 64, 54, 7, 44, 43, 21, 6, 182, 0, 125, 54, 8, 44, 43, 29, 182, 0, 129, 54, 9, 42, 16, 18, 21, 7, 156, 0, 7, 9, 167, 0, 13, 43, 180, 0, 76, 21, 7, 184, 0, 52, 133, 182, 0, 79, 42, 16, 19] i := wB_of (by decide +kernel)
theorem d_Laws_pushFrom_0 : decode b_Laws_pushFrom 0 = .ok (.aload_n 1, 1) := dc_43 (q0_win (r := 0) wn_Laws_pushFrom_0 (by decide +kernel))
theorem d_Laws_pushFrom_1 : decode b_Laws_pushFrom 1 = .ok (.iload_n 3, 1) := dc_29 (q0_win (r := 1) wn_Laws_pushFrom_0 (by decide +kernel))
theorem d_Laws_pushFrom_2 : decode b_Laws_pushFrom 2 = .ok (.iload 4, 2) := dc_21 (qU1_win (r := 2) wn_Laws_pushFrom_0 (by decide +kernel))
theorem d_Laws_pushFrom_4 : decode b_Laws_pushFrom 4 = .ok (.invokevirtual 113, 3) := dc_182 (qU2_win (r := 4) wn_Laws_pushFrom_0 (by decide +kernel))
theorem d_Laws_pushFrom_7 : decode b_Laws_pushFrom 7 = .ok (.istore 6, 2) := dc_54 (qU1_win (r := 7) wn_Laws_pushFrom_0 (by decide +kernel))
theorem d_Laws_pushFrom_9 : decode b_Laws_pushFrom 9 = .ok (.iload 6, 2) := dc_21 (qU1_win (r := 9) wn_Laws_pushFrom_0 (by decide +kernel))
theorem d_Laws_pushFrom_11 : decode b_Laws_pushFrom 11 = .ok (.ifCond .lt 28, 3) := dc_155 (qS2_win (r := 11) wn_Laws_pushFrom_0 (by decide +kernel))
theorem d_Laws_pushFrom_14 : decode b_Laws_pushFrom 14 = .ok (.aload_n 2, 1) := dc_44 (q0_win (r := 14) wn_Laws_pushFrom_0 (by decide +kernel))
theorem d_Laws_pushFrom_15 : decode b_Laws_pushFrom 15 = .ok (.getfield 117, 3) := dc_180 (qU2_win (r := 15) wn_Laws_pushFrom_0 (by decide +kernel))
theorem d_Laws_pushFrom_18 : decode b_Laws_pushFrom 18 = .ok (.iload_n 3, 1) := dc_29 (q0_win (r := 18) wn_Laws_pushFrom_0 (by decide +kernel))
theorem d_Laws_pushFrom_19 : decode b_Laws_pushFrom 19 = .ok (.invokestatic 121, 3) := dc_184 (qU2_win (r := 19) wn_Laws_pushFrom_0 (by decide +kernel))
theorem d_Laws_pushFrom_22 : decode b_Laws_pushFrom 22 = .ok (.iconst 1, 1) := dc_4 (q0_win (r := 22) wn_Laws_pushFrom_0 (by decide +kernel))
theorem d_Laws_pushFrom_23 : decode b_Laws_pushFrom 23 = .ok (.if_icmp .eq 16, 3) := dc_159 (qS2_win (r := 23) wn_Laws_pushFrom_0 (by decide +kernel))
theorem d_Laws_pushFrom_26 : decode b_Laws_pushFrom 26 = .ok (.aload_n 2, 1) := dc_44 (q0_win (r := 26) wn_Laws_pushFrom_0 (by decide +kernel))
theorem d_Laws_pushFrom_27 : decode b_Laws_pushFrom 27 = .ok (.getfield 117, 3) := dc_180 (qU2_win (r := 27) wn_Laws_pushFrom_0 (by decide +kernel))
theorem d_Laws_pushFrom_30 : decode b_Laws_pushFrom 30 = .ok (.iload 6, 2) := dc_21 (qU1_win (r := 30) wn_Laws_pushFrom_0 (by decide +kernel))
theorem d_Laws_pushFrom_32 : decode b_Laws_pushFrom 32 = .ok (.invokestatic 121, 3) := dc_184 (qU2_win (r := 32) wn_Laws_pushFrom_0 (by decide +kernel))
theorem d_Laws_pushFrom_35 : decode b_Laws_pushFrom 35 = .ok (.iconst 1, 1) := dc_4 (q0_win (r := 35) wn_Laws_pushFrom_0 (by decide +kernel))
theorem d_Laws_pushFrom_36 : decode b_Laws_pushFrom 36 = .ok (.if_icmp .ne 7, 3) := dc_160 (qS2_win (r := 36) wn_Laws_pushFrom_0 (by decide +kernel))
theorem d_Laws_pushFrom_39 : decode b_Laws_pushFrom 39 = .ok (.ldc2_w 100, 3) := dc_20 (qU2_win (r := 39) wn_Laws_pushFrom_0 (by decide +kernel))
theorem d_Laws_pushFrom_42 : decode b_Laws_pushFrom 42 = .ok (.lreturn, 1) := dc_173 (q0_win (r := 42) wn_Laws_pushFrom_0 (by decide +kernel))
theorem d_Laws_pushFrom_43 : decode b_Laws_pushFrom 43 = .ok (.aload_n 1, 1) := dc_43 (q0_win (r := 43) wn_Laws_pushFrom_0 (by decide +kernel))
theorem d_Laws_pushFrom_44 : decode b_Laws_pushFrom 44 = .ok (.iload 6, 2) := dc_21 (qU1_win (r := 44) wn_Laws_pushFrom_0 (by decide +kernel))
theorem d_Laws_pushFrom_46 : decode b_Laws_pushFrom 46 = .ok (.invokevirtual 64, 3) := dc_182 (qU2_win (r := 46) wn_Laws_pushFrom_0 (by decide +kernel))
theorem d_Laws_pushFrom_49 : decode b_Laws_pushFrom 49 = .ok (.istore 7, 2) := dc_54 (qU1_win (r := 49) wn_Laws_pushFrom_0 (by decide +kernel))
theorem d_Laws_pushFrom_51 : decode b_Laws_pushFrom 51 = .ok (.aload_n 2, 1) := dc_44 (q0_win (r := 51) wn_Laws_pushFrom_0 (by decide +kernel))
theorem d_Laws_pushFrom_52 : decode b_Laws_pushFrom 52 = .ok (.aload_n 1, 1) := dc_43 (q0_win (r := 52) wn_Laws_pushFrom_0 (by decide +kernel))
theorem d_Laws_pushFrom_53 : decode b_Laws_pushFrom 53 = .ok (.iload 6, 2) := dc_21 (qU1_win (r := 53) wn_Laws_pushFrom_0 (by decide +kernel))
theorem d_Laws_pushFrom_55 : decode b_Laws_pushFrom 55 = .ok (.invokevirtual 125, 3) := dc_182 (qU2_win (r := 55) wn_Laws_pushFrom_0 (by decide +kernel))
theorem d_Laws_pushFrom_58 : decode b_Laws_pushFrom 58 = .ok (.istore 8, 2) := dc_54 (qU1_win (r := 58) wn_Laws_pushFrom_0 (by decide +kernel))
theorem d_Laws_pushFrom_60 : decode b_Laws_pushFrom 60 = .ok (.aload_n 2, 1) := dc_44 (q0_win (r := 60) wn_Laws_pushFrom_0 (by decide +kernel))
theorem d_Laws_pushFrom_61 : decode b_Laws_pushFrom 61 = .ok (.aload_n 1, 1) := dc_43 (q0_win (r := 61) wn_Laws_pushFrom_0 (by decide +kernel))
theorem d_Laws_pushFrom_62 : decode b_Laws_pushFrom 62 = .ok (.iload_n 3, 1) := dc_29 (q0_win (r := 62) wn_Laws_pushFrom_0 (by decide +kernel))
theorem d_Laws_pushFrom_63 : decode b_Laws_pushFrom 63 = .ok (.invokevirtual 129, 3) := dc_182 (qU2_win (r := 63) wn_Laws_pushFrom_0 (by decide +kernel))
theorem d_Laws_pushFrom_66 : decode b_Laws_pushFrom 66 = .ok (.istore 9, 2) := dc_54 (qU1_win (r := 66) wn_Laws_pushFrom_0 (by decide +kernel))
theorem d_Laws_pushFrom_68 : decode b_Laws_pushFrom 68 = .ok (.aload_n 0, 1) := dc_42 (q0_win (r := 68) wn_Laws_pushFrom_0 (by decide +kernel))
theorem d_Laws_pushFrom_69 : decode b_Laws_pushFrom 69 = .ok (.bipush 18, 2) := dc_16 (qS1_win (r := 69) wn_Laws_pushFrom_0 (by decide +kernel))
theorem d_Laws_pushFrom_71 : decode b_Laws_pushFrom 71 = .ok (.iload 7, 2) := dc_21 (qU1_win (r := 71) wn_Laws_pushFrom_0 (by decide +kernel))
theorem d_Laws_pushFrom_73 : decode b_Laws_pushFrom 73 = .ok (.ifCond .ge 7, 3) := dc_156 (qS2_win (r := 73) wn_Laws_pushFrom_0 (by decide +kernel))
theorem d_Laws_pushFrom_76 : decode b_Laws_pushFrom 76 = .ok (.lconst 0, 1) := dc_9 (q0_win (r := 76) wn_Laws_pushFrom_0 (by decide +kernel))
theorem d_Laws_pushFrom_77 : decode b_Laws_pushFrom 77 = .ok (.goto 13, 3) := dc_167 (qS2_win (r := 77) wn_Laws_pushFrom_0 (by decide +kernel))
theorem d_Laws_pushFrom_80 : decode b_Laws_pushFrom 80 = .ok (.aload_n 1, 1) := dc_43 (q0_win (r := 80) wn_Laws_pushFrom_0 (by decide +kernel))
theorem d_Laws_pushFrom_81 : decode b_Laws_pushFrom 81 = .ok (.getfield 76, 3) := dc_180 (qU2_win (r := 81) wn_Laws_pushFrom_0 (by decide +kernel))
theorem d_Laws_pushFrom_84 : decode b_Laws_pushFrom 84 = .ok (.iload 7, 2) := dc_21 (qU1_win (r := 84) wn_Laws_pushFrom_0 (by decide +kernel))
theorem d_Laws_pushFrom_86 : decode b_Laws_pushFrom 86 = .ok (.invokestatic 52, 3) := dc_184 (qU2_win (r := 86) wn_Laws_pushFrom_0 (by decide +kernel))
theorem d_Laws_pushFrom_89 : decode b_Laws_pushFrom 89 = .ok (.i2l, 1) := dc_133 (q0_win (r := 89) wn_Laws_pushFrom_0 (by decide +kernel))
theorem d_Laws_pushFrom_90 : decode b_Laws_pushFrom 90 = .ok (.invokevirtual 79, 3) := dc_182 (qU2_win (r := 90) wn_Laws_pushFrom_0 (by decide +kernel))
theorem d_Laws_pushFrom_93 : decode b_Laws_pushFrom 93 = .ok (.aload_n 0, 1) := dc_42 (q0_win (r := 93) wn_Laws_pushFrom_0 (by decide +kernel))
theorem d_Laws_pushFrom_94 : decode b_Laws_pushFrom 94 = .ok (.bipush 19, 2) := dc_16 (qS1_win (r := 94) wn_Laws_pushFrom_0 (by decide +kernel))
theorem wn_Laws_pushFrom_96 : ∀ i, i < 96 → bA b_Laws_pushFrom (96 + i) = wB [21, 7, 156, 0, 7, 9, 167, 0, 13, 43, 180, 0, 83, 21, 7, 184, 0, 52, 133, 182, 0, 79, 42, 16, 20, 21, 8, 156, 0, 7, 9, 167, 0, 4, 10, 182, 0, 79, 42, 16, 21, 21, 8, 156, 0, 7, 9, 167, 0, 13, 43, 180, 0, 72, 21, 8, 184, 0, 52, 133, 182, 0, 79, 42, 16, 22, 43, 29, 21, 6, 182, 0, 132, 153, 0, 7, 10, 167, 0, 4, 9, 182, 0, 79, 42, 16, 23, 21, 9, 7, 159, 0, 18, 21, 9, 5] i := wB_of (by decide +kernel)
theorem d_Laws_pushFrom_96 : decode b_Laws_pushFrom 96 = .ok (.iload 7, 2) := dc_21 (qU1_win (r := 0) wn_Laws_pushFrom_96 (by decide +kernel))
theorem d_Laws_pushFrom_98 : decode b_Laws_pushFrom 98 = .ok (.ifCond .ge 7, 3) := dc_156 (qS2_win (r := 2) wn_Laws_pushFrom_96 (by decide +kernel))
theorem d_Laws_pushFrom_101 : decode b_Laws_pushFrom 101 = .ok (.lconst 0, 1) := dc_9 (q0_win (r := 5) wn_Laws_pushFrom_96 (by decide +kernel))
theorem d_Laws_pushFrom_102 : decode b_Laws_pushFrom 102 = .ok (.goto 13, 3) := dc_167 (qS2_win (r := 6) wn_Laws_pushFrom_96 (by decide +kernel))
theorem d_Laws_pushFrom_105 : decode b_Laws_pushFrom 105 = .ok (.aload_n 1, 1) := dc_43 (q0_win (r := 9) wn_Laws_pushFrom_96 (by decide +kernel))
theorem d_Laws_pushFrom_106 : decode b_Laws_pushFrom 106 = .ok (.getfield 83, 3) := dc_180 (qU2_win (r := 10) wn_Laws_pushFrom_96 (by decide +kernel))
theorem d_Laws_pushFrom_109 : decode b_Laws_pushFrom 109 = .ok (.iload 7, 2) := dc_21 (qU1_win (r := 13) wn_Laws_pushFrom_96 (by decide +kernel))
theorem d_Laws_pushFrom_111 : decode b_Laws_pushFrom 111 = .ok (.invokestatic 52, 3) := dc_184 (qU2_win (r := 15) wn_Laws_pushFrom_96 (by decide +kernel))
theorem d_Laws_pushFrom_114 : decode b_Laws_pushFrom 114 = .ok (.i2l, 1) := dc_133 (q0_win (r := 18) wn_Laws_pushFrom_96 (by decide +kernel))
theorem d_Laws_pushFrom_115 : decode b_Laws_pushFrom 115 = .ok (.invokevirtual 79, 3) := dc_182 (qU2_win (r := 19) wn_Laws_pushFrom_96 (by decide +kernel))
theorem d_Laws_pushFrom_118 : decode b_Laws_pushFrom 118 = .ok (.aload_n 0, 1) := dc_42 (q0_win (r := 22) wn_Laws_pushFrom_96 (by decide +kernel))
theorem d_Laws_pushFrom_119 : decode b_Laws_pushFrom 119 = .ok (.bipush 20, 2) := dc_16 (qS1_win (r := 23) wn_Laws_pushFrom_96 (by decide +kernel))
theorem d_Laws_pushFrom_121 : decode b_Laws_pushFrom 121 = .ok (.iload 8, 2) := dc_21 (qU1_win (r := 25) wn_Laws_pushFrom_96 (by decide +kernel))
theorem d_Laws_pushFrom_123 : decode b_Laws_pushFrom 123 = .ok (.ifCond .ge 7, 3) := dc_156 (qS2_win (r := 27) wn_Laws_pushFrom_96 (by decide +kernel))
theorem d_Laws_pushFrom_126 : decode b_Laws_pushFrom 126 = .ok (.lconst 0, 1) := dc_9 (q0_win (r := 30) wn_Laws_pushFrom_96 (by decide +kernel))
theorem d_Laws_pushFrom_127 : decode b_Laws_pushFrom 127 = .ok (.goto 4, 3) := dc_167 (qS2_win (r := 31) wn_Laws_pushFrom_96 (by decide +kernel))
theorem d_Laws_pushFrom_130 : decode b_Laws_pushFrom 130 = .ok (.lconst 1, 1) := dc_10 (q0_win (r := 34) wn_Laws_pushFrom_96 (by decide +kernel))
theorem d_Laws_pushFrom_131 : decode b_Laws_pushFrom 131 = .ok (.invokevirtual 79, 3) := dc_182 (qU2_win (r := 35) wn_Laws_pushFrom_96 (by decide +kernel))
theorem d_Laws_pushFrom_134 : decode b_Laws_pushFrom 134 = .ok (.aload_n 0, 1) := dc_42 (q0_win (r := 38) wn_Laws_pushFrom_96 (by decide +kernel))
theorem d_Laws_pushFrom_135 : decode b_Laws_pushFrom 135 = .ok (.bipush 21, 2) := dc_16 (qS1_win (r := 39) wn_Laws_pushFrom_96 (by decide +kernel))
theorem d_Laws_pushFrom_137 : decode b_Laws_pushFrom 137 = .ok (.iload 8, 2) := dc_21 (qU1_win (r := 41) wn_Laws_pushFrom_96 (by decide +kernel))
theorem d_Laws_pushFrom_139 : decode b_Laws_pushFrom 139 = .ok (.ifCond .ge 7, 3) := dc_156 (qS2_win (r := 43) wn_Laws_pushFrom_96 (by decide +kernel))
theorem d_Laws_pushFrom_142 : decode b_Laws_pushFrom 142 = .ok (.lconst 0, 1) := dc_9 (q0_win (r := 46) wn_Laws_pushFrom_96 (by decide +kernel))
theorem d_Laws_pushFrom_143 : decode b_Laws_pushFrom 143 = .ok (.goto 13, 3) := dc_167 (qS2_win (r := 47) wn_Laws_pushFrom_96 (by decide +kernel))
theorem d_Laws_pushFrom_146 : decode b_Laws_pushFrom 146 = .ok (.aload_n 1, 1) := dc_43 (q0_win (r := 50) wn_Laws_pushFrom_96 (by decide +kernel))
theorem d_Laws_pushFrom_147 : decode b_Laws_pushFrom 147 = .ok (.getfield 72, 3) := dc_180 (qU2_win (r := 51) wn_Laws_pushFrom_96 (by decide +kernel))
theorem d_Laws_pushFrom_150 : decode b_Laws_pushFrom 150 = .ok (.iload 8, 2) := dc_21 (qU1_win (r := 54) wn_Laws_pushFrom_96 (by decide +kernel))
theorem d_Laws_pushFrom_152 : decode b_Laws_pushFrom 152 = .ok (.invokestatic 52, 3) := dc_184 (qU2_win (r := 56) wn_Laws_pushFrom_96 (by decide +kernel))
theorem d_Laws_pushFrom_155 : decode b_Laws_pushFrom 155 = .ok (.i2l, 1) := dc_133 (q0_win (r := 59) wn_Laws_pushFrom_96 (by decide +kernel))
theorem d_Laws_pushFrom_156 : decode b_Laws_pushFrom 156 = .ok (.invokevirtual 79, 3) := dc_182 (qU2_win (r := 60) wn_Laws_pushFrom_96 (by decide +kernel))
theorem d_Laws_pushFrom_159 : decode b_Laws_pushFrom 159 = .ok (.aload_n 0, 1) := dc_42 (q0_win (r := 63) wn_Laws_pushFrom_96 (by decide +kernel))
theorem d_Laws_pushFrom_160 : decode b_Laws_pushFrom 160 = .ok (.bipush 22, 2) := dc_16 (qS1_win (r := 64) wn_Laws_pushFrom_96 (by decide +kernel))
theorem d_Laws_pushFrom_162 : decode b_Laws_pushFrom 162 = .ok (.aload_n 1, 1) := dc_43 (q0_win (r := 66) wn_Laws_pushFrom_96 (by decide +kernel))
theorem d_Laws_pushFrom_163 : decode b_Laws_pushFrom 163 = .ok (.iload_n 3, 1) := dc_29 (q0_win (r := 67) wn_Laws_pushFrom_96 (by decide +kernel))
theorem d_Laws_pushFrom_164 : decode b_Laws_pushFrom 164 = .ok (.iload 6, 2) := dc_21 (qU1_win (r := 68) wn_Laws_pushFrom_96 (by decide +kernel))
theorem d_Laws_pushFrom_166 : decode b_Laws_pushFrom 166 = .ok (.invokevirtual 132, 3) := dc_182 (qU2_win (r := 70) wn_Laws_pushFrom_96 (by decide +kernel))
theorem d_Laws_pushFrom_169 : decode b_Laws_pushFrom 169 = .ok (.ifCond .eq 7, 3) := dc_153 (qS2_win (r := 73) wn_Laws_pushFrom_96 (by decide +kernel))
theorem d_Laws_pushFrom_172 : decode b_Laws_pushFrom 172 = .ok (.lconst 1, 1) := dc_10 (q0_win (r := 76) wn_Laws_pushFrom_96 (by decide +kernel))
theorem d_Laws_pushFrom_173 : decode b_Laws_pushFrom 173 = .ok (.goto 4, 3) := dc_167 (qS2_win (r := 77) wn_Laws_pushFrom_96 (by decide +kernel))
theorem d_Laws_pushFrom_176 : decode b_Laws_pushFrom 176 = .ok (.lconst 0, 1) := dc_9 (q0_win (r := 80) wn_Laws_pushFrom_96 (by decide +kernel))
theorem d_Laws_pushFrom_177 : decode b_Laws_pushFrom 177 = .ok (.invokevirtual 79, 3) := dc_182 (qU2_win (r := 81) wn_Laws_pushFrom_96 (by decide +kernel))
theorem d_Laws_pushFrom_180 : decode b_Laws_pushFrom 180 = .ok (.aload_n 0, 1) := dc_42 (q0_win (r := 84) wn_Laws_pushFrom_96 (by decide +kernel))
theorem d_Laws_pushFrom_181 : decode b_Laws_pushFrom 181 = .ok (.bipush 23, 2) := dc_16 (qS1_win (r := 85) wn_Laws_pushFrom_96 (by decide +kernel))
theorem d_Laws_pushFrom_183 : decode b_Laws_pushFrom 183 = .ok (.iload 9, 2) := dc_21 (qU1_win (r := 87) wn_Laws_pushFrom_96 (by decide +kernel))
theorem d_Laws_pushFrom_185 : decode b_Laws_pushFrom 185 = .ok (.iconst 4, 1) := dc_7 (q0_win (r := 89) wn_Laws_pushFrom_96 (by decide +kernel))
theorem d_Laws_pushFrom_186 : decode b_Laws_pushFrom 186 = .ok (.if_icmp .eq 18, 3) := dc_159 (qS2_win (r := 90) wn_Laws_pushFrom_96 (by decide +kernel))
theorem d_Laws_pushFrom_189 : decode b_Laws_pushFrom 189 = .ok (.iload 9, 2) := dc_21 (qU1_win (r := 93) wn_Laws_pushFrom_96 (by decide +kernel))
theorem d_Laws_pushFrom_191 : decode b_Laws_pushFrom 191 = .ok (.iconst 2, 1) := dc_5 (q0_win (r := 95) wn_Laws_pushFrom_96 (by decide +kernel))
theorem wn_Laws_pushFrom_192 : ∀ i, i < 37 → bA b_Laws_pushFrom (192 + i) = wB [96, 7, 112, 21, 4, 160, 0, 7, 10, 167, 0, 4, 9, 182, 0, 79, 42, 16, 24, 21, 5, 133, 182, 0, 79, 43, 180, 0, 136, 42, 180, 0, 9, 182, 0, 90, 173] i := wB_of (by decide +kernel)
theorem d_Laws_pushFrom_192 : decode b_Laws_pushFrom 192 = .ok (.iadd, 1) := dc_96 (q0_win (r := 0) wn_Laws_pushFrom_192 (by decide +kernel))
theorem d_Laws_pushFrom_193 : decode b_Laws_pushFrom 193 = .ok (.iconst 4, 1) := dc_7 (q0_win (r := 1) wn_Laws_pushFrom_192 (by decide +kernel))
theorem d_Laws_pushFrom_194 : decode b_Laws_pushFrom 194 = .ok (.irem, 1) := dc_112 (q0_win (r := 2) wn_Laws_pushFrom_192 (by decide +kernel))
theorem d_Laws_pushFrom_195 : decode b_Laws_pushFrom 195 = .ok (.iload 4, 2) := dc_21 (qU1_win (r := 3) wn_Laws_pushFrom_192 (by decide +kernel))
theorem d_Laws_pushFrom_197 : decode b_Laws_pushFrom 197 = .ok (.if_icmp .ne 7, 3) := dc_160 (qS2_win (r := 5) wn_Laws_pushFrom_192 (by decide +kernel))
theorem d_Laws_pushFrom_200 : decode b_Laws_pushFrom 200 = .ok (.lconst 1, 1) := dc_10 (q0_win (r := 8) wn_Laws_pushFrom_192 (by decide +kernel))
theorem d_Laws_pushFrom_201 : decode b_Laws_pushFrom 201 = .ok (.goto 4, 3) := dc_167 (qS2_win (r := 9) wn_Laws_pushFrom_192 (by decide +kernel))
theorem d_Laws_pushFrom_204 : decode b_Laws_pushFrom 204 = .ok (.lconst 0, 1) := dc_9 (q0_win (r := 12) wn_Laws_pushFrom_192 (by decide +kernel))
theorem d_Laws_pushFrom_205 : decode b_Laws_pushFrom 205 = .ok (.invokevirtual 79, 3) := dc_182 (qU2_win (r := 13) wn_Laws_pushFrom_192 (by decide +kernel))
theorem d_Laws_pushFrom_208 : decode b_Laws_pushFrom 208 = .ok (.aload_n 0, 1) := dc_42 (q0_win (r := 16) wn_Laws_pushFrom_192 (by decide +kernel))
theorem d_Laws_pushFrom_209 : decode b_Laws_pushFrom 209 = .ok (.bipush 24, 2) := dc_16 (qS1_win (r := 17) wn_Laws_pushFrom_192 (by decide +kernel))
theorem d_Laws_pushFrom_211 : decode b_Laws_pushFrom 211 = .ok (.iload 5, 2) := dc_21 (qU1_win (r := 19) wn_Laws_pushFrom_192 (by decide +kernel))
theorem d_Laws_pushFrom_213 : decode b_Laws_pushFrom 213 = .ok (.i2l, 1) := dc_133 (q0_win (r := 21) wn_Laws_pushFrom_192 (by decide +kernel))
theorem d_Laws_pushFrom_214 : decode b_Laws_pushFrom 214 = .ok (.invokevirtual 79, 3) := dc_182 (qU2_win (r := 22) wn_Laws_pushFrom_192 (by decide +kernel))
theorem d_Laws_pushFrom_217 : decode b_Laws_pushFrom 217 = .ok (.aload_n 1, 1) := dc_43 (q0_win (r := 25) wn_Laws_pushFrom_192 (by decide +kernel))
theorem d_Laws_pushFrom_218 : decode b_Laws_pushFrom 218 = .ok (.getfield 136, 3) := dc_180 (qU2_win (r := 26) wn_Laws_pushFrom_192 (by decide +kernel))
theorem d_Laws_pushFrom_221 : decode b_Laws_pushFrom 221 = .ok (.aload_n 0, 1) := dc_42 (q0_win (r := 29) wn_Laws_pushFrom_192 (by decide +kernel))
theorem d_Laws_pushFrom_222 : decode b_Laws_pushFrom 222 = .ok (.getfield 9, 3) := dc_180 (qU2_win (r := 30) wn_Laws_pushFrom_192 (by decide +kernel))
theorem d_Laws_pushFrom_225 : decode b_Laws_pushFrom 225 = .ok (.invokevirtual 90, 3) := dc_182 (qU2_win (r := 33) wn_Laws_pushFrom_192 (by decide +kernel))
theorem d_Laws_pushFrom_228 : decode b_Laws_pushFrom 228 = .ok (.lreturn, 1) := dc_173 (q0_win (r := 36) wn_Laws_pushFrom_192 (by decide +kernel))
def t_Laws_pushFrom_L205 (k1 : Nat) (k2 : Nat) (x3 : Int) (x4 : Int) (x5 : Int)  (M : Mem) (v4_ : Int) (v5_ : Int64) : Option (Mem × Int64) := (qlet (t_Laws_name M v4_ v5_) fun q41 => (qlet (t_Laws_name q41 24 (q_i2l x5)) fun q43 => (obind (t_Formula_value q43 (k1 + 10) 178 7) fun q45 => (some ((q45.1), (q45.2))))))
def t_Laws_pushFrom_L204 (k1 : Nat) (k2 : Nat) (x3 : Int) (x4 : Int) (x5 : Int)  (M : Mem) (v4_ : Int) : Option (Mem × Int64) := (t_Laws_pushFrom_L205 k1 k2 x3 x4 x5 M v4_ 0)
def t_Laws_pushFrom_L177 (k1 : Nat) (k2 : Nat) (x3 : Int) (x4 : Int) (x5 : Int)  (M : Mem) (v4_ : Int) (v6_ : Int) (v7_ : Int64) : Option (Mem × Int64) := (qlet (t_Laws_name M v6_ v7_) fun q37 => (if v4_ = 4 then (t_Laws_pushFrom_L204 k1 k2 x3 x4 x5 q37 23) else (if (q_rem (w32 (v4_ + 2)) 4) = x4 then (t_Laws_pushFrom_L205 k1 k2 x3 x4 x5 q37 23 1) else (t_Laws_pushFrom_L204 k1 k2 x3 x4 x5 q37 23))))
def t_Laws_pushFrom_L156 (k1 : Nat) (k2 : Nat) (x3 : Int) (x4 : Int) (x5 : Int)  (M : Mem) (v5_ : Int) (v6_ : Int) (v8_ : Int) (v9_ : Int64) : Option (Mem × Int64) := (qlet (t_Laws_name M v8_ v9_) fun q32 => (qlet (t_Town_isLine q32 k1 x3 v5_) fun q34 => (if q34 = 0 then (t_Laws_pushFrom_L177 k1 k2 x3 x4 x5 q32 v6_ 22 0) else (t_Laws_pushFrom_L177 k1 k2 x3 x4 x5 q32 v6_ 22 1))))
def t_Laws_pushFrom_L131 (k1 : Nat) (k2 : Nat) (x3 : Int) (x4 : Int) (x5 : Int)  (M : Mem) (v5_ : Int) (v6_ : Int) (v7_ : Int) (v9_ : Int) (v10_ : Int64) : Option (Mem × Int64) := (qlet (t_Laws_name M v9_ v10_) fun q27 => (if 0 ≤ v6_ then (qlet (t_WF_look q27 (k1 + 6) 8 v6_) fun q30 => (t_Laws_pushFrom_L156 k1 k2 x3 x4 x5 q27 v5_ v7_ 21 (q_i2l q30))) else (t_Laws_pushFrom_L156 k1 k2 x3 x4 x5 q27 v5_ v7_ 21 0)))
def t_Laws_pushFrom_L115 (k1 : Nat) (k2 : Nat) (x3 : Int) (x4 : Int) (x5 : Int)  (M : Mem) (v5_ : Int) (v6_ : Int) (v7_ : Int) (v9_ : Int) (v10_ : Int64) : Option (Mem × Int64) := (qlet (t_Laws_name M v9_ v10_) fun q24 => (if 0 ≤ v6_ then (t_Laws_pushFrom_L131 k1 k2 x3 x4 x5 q24 v5_ v6_ v7_ 20 1) else (t_Laws_pushFrom_L131 k1 k2 x3 x4 x5 q24 v5_ v6_ v7_ 20 0)))
def t_Laws_pushFrom_L90 (k1 : Nat) (k2 : Nat) (x3 : Int) (x4 : Int) (x5 : Int)  (M : Mem) (v5_ : Int) (v6_ : Int) (v7_ : Int) (v8_ : Int) (v10_ : Int) (v11_ : Int64) : Option (Mem × Int64) := (qlet (t_Laws_name M v10_ v11_) fun q19 => (if 0 ≤ v6_ then (qlet (t_WF_look q19 (k1 + 4) 4 v6_) fun q22 => (t_Laws_pushFrom_L115 k1 k2 x3 x4 x5 q19 v5_ v7_ v8_ 19 (q_i2l q22))) else (t_Laws_pushFrom_L115 k1 k2 x3 x4 x5 q19 v5_ v7_ v8_ 19 0)))
def t_Laws_pushFrom (M : Mem) (k1 : Nat) (k2 : Nat) (x3 : Int) (x4 : Int) (x5 : Int) : Option (Mem × Int64) := (qlet (t_Town_beside M k1 x3 x4) fun q1 => (if q1 < 0 then (some (M, (-9223372036854775808))) else (qlet (t_WF_bitOf M (M.2 k2 4) x3) fun q4 => (if q4 = 1 then (some (M, (-9223372036854775808))) else (qlet (t_WF_bitOf M (M.2 k2 4) q1) fun q7 => (if q7 = 1 then (some (M, (-9223372036854775808))) else (qlet (t_Town_ownerOf M k1 q1) fun q10 => (obind (t_Scene_thingIn M k2 k1 q1) fun q12 => (qlet (t_Scene_downOf M k2 k1 x3) fun q14 => (if 0 ≤ q10 then (qlet (t_WF_look M (k1 + 3) 4 q10) fun q17 => (t_Laws_pushFrom_L90 k1 k2 x3 x4 x5 M q1 q10 q12 q14 18 (q_i2l q17))) else (t_Laws_pushFrom_L90 k1 k2 x3 x4 x5 M q1 q10 q12 q14 18 0)))))))))))
set_option maxHeartbeats 4000000 in
set_option maxRecDepth 100000 in
theorem k_Laws_pushFrom_L205 (l : Launch) {p : Program} {e : Env} {s : State} {m : MethodId} {below : List Frame} {meth : Method} {c : Code} {b n : Nat} {C : CT} (hlo : 191 ≤ n) (k1 : Nat) (k2 : Nat) (x3 : Int) (x4 : Int) (x5 : Int) (hk1 : isTown k1) (hk2 : isScene k2) (hx3 : InR x3) (hx4 : InR x4) (hx5 : InR x5) (F : Cx b p m c b_Laws_pushFrom 10 s ([.ref (b + 177), .ref (b + k1), .ref (b + k2), vI x3, vI x4, vI x5] : List Value).toArray "WardFalls$Laws" C n 191) (hlk : meth.locks = false) (hr : meth.sig.returnType = some .long) {res : Mem × Int64} (M : Mem) (v4_ : Int) (hv4_ : InR v4_) (v5_ : Int64) (H : Heap) (locs : List Loc) (ls : Array Slot) (hS : St b C n M s H locs) (hl : lv_has ls 10 [(0, .ref (b + 177)), (1, .ref (b + k1)), (5, vI x5)]) (hT : t_Laws_pushFrom_L205 k1 k2 x3 x4 x5 M v4_ v5_ = some res) : W p l e (headSpec (wsM y_Laws_pushFrom b_Laws_pushFrom 10 (some .long)) (rmD 4)).room s m ([.ref (b + 177), .ref (b + k1), .ref (b + k2), vI x3, vI x4, vI x5] : List Value).toArray below meth c H locs 0 0 (MQ below (QL b C n res.1 res.2) ([.ref (b + 177), .ref (b + k1), .ref (b + k2), vI x3, vI x4, vI x5] : List Value).toArray s 0 0 (frb b)) (F0 m 205 ls [.long v5_, vI v4_, .ref (b + 177)]) := by
  unfold t_Laws_pushFrom_L205 at hT
  obtain ⟨q41, hq41⟩ : ∃ q, q = (t_Laws_name M v4_ v5_) := ⟨_, rfl⟩
  replace hT := qlet_eq hT hq41
  refine r_backV F hS (r_runV (k := 177) (N := 9) (T := T4) (As := [vI v4_, .long v5_]) F hS (show 177 < 191 by decide) (show shK 177 = 8 from rfl) rfl (c_Laws_name l F.2.2.1 M v4_ v5_ hv4_ _ hq41.symm) gs_Laws_79 hd_Laws_name ⟨Nat.le_of_ble_eq_true rfl, Nat.le_of_ble_eq_true rfl⟩ rfl hl.1 (Nat.le_of_ble_eq_true rfl) ⟨Nat.zero_le _, Nat.zero_le _⟩ rfl d_Laws_pushFrom_205) (fun H locs hS => ?_)
  refine lv_aload_n F.hx F.hb d_Laws_pushFrom_208 rfl (lv_at hl 0 rfl) ?_
  refine r_bipush F.hx F.hb d_Laws_pushFrom_209 rfl ?_
  refine lv_iload F.hx F.hb d_Laws_pushFrom_211 (lv_at hl 2 rfl) ?_
  refine r_i2l F.hx F.hb d_Laws_pushFrom_213 ?_
  obtain ⟨q43, hq43⟩ : ∃ q, q = (t_Laws_name q41 24 (q_i2l x5)) := ⟨_, rfl⟩
  replace hT := qlet_eq hT hq43
  refine r_backV F hS (r_runV (k := 177) (N := 9) (T := T4) (As := [vI 24, .long (q_i2l x5)]) F hS (show 177 < 191 by decide) (show shK 177 = 8 from rfl) rfl (c_Laws_name l F.2.2.1 q41 24 (q_i2l x5) (inr_c rfl) _ hq43.symm) gs_Laws_79 hd_Laws_name ⟨Nat.le_of_ble_eq_true rfl, Nat.le_of_ble_eq_true rfl⟩ rfl hl.1 (Nat.le_of_ble_eq_true rfl) ⟨Nat.zero_le _, Nat.zero_le _⟩ rfl d_Laws_pushFrom_214) (fun H locs hS => ?_)
  refine lv_aload_n F.hx F.hb d_Laws_pushFrom_217 rfl (lv_at hl 1 rfl) ?_
  refine r_get (v := .ref (b + (k1 + 10))) (N := 20) (T := T11) (j := 9) F hS (Town_lt hk1) (Town_sh hk1) (Town_N hk1) rfl (Nat.le_of_ble_eq_true rfl) ing11 mw_116 (Town_g9 hk1 _) d_Laws_pushFrom_218 ?_
  refine lv_aload_n F.hx F.hb d_Laws_pushFrom_221 rfl (lv_at hl 0 rfl) ?_
  refine r_get (v := .ref (b + 178)) (N := 9) (T := T4) (j := 0) F hS (show 177 < 191 by decide) (show shK 177 = 8 from rfl) (show shN 177 = 9 from rfl) rfl (Nat.le_of_ble_eq_true rfl) ing4 mw_438 (fv_sg rfl rfl rfl) d_Laws_pushFrom_222 ?_
  obtain ⟨q45, hq45, hT⟩ := q_obind hT
  refine r_backL F hS (r_runV (k := (k1 + 10)) (N := 12) (T := T3) (As := [.ref (b + 178)]) F hS (Formula_lt (Town_f9 hk1)) (Formula_sh (Town_f9 hk1)) rfl (c_Formula_value l F.2.2.1 q43 (k1 + 10) 178 7 (Town_f9 hk1) (show arrP 2 178 7 191 from ⟨rfl, rfl, by decide⟩) _ hq45) gs_Laws_90 hd_Formula_value ⟨Nat.le_of_ble_eq_true rfl, Nat.le_of_ble_eq_true rfl⟩ rfl hl.1 (Nat.le_of_ble_eq_true rfl) ⟨Nat.zero_le _, Nat.zero_le _⟩ rfl d_Laws_pushFrom_225) (fun H locs hS => ?_)
  cases hT
  exact r_lret F hlk hr hS d_Laws_pushFrom_228
set_option maxHeartbeats 4000000 in
set_option maxRecDepth 100000 in
theorem k_Laws_pushFrom_L204 (l : Launch) {p : Program} {e : Env} {s : State} {m : MethodId} {below : List Frame} {meth : Method} {c : Code} {b n : Nat} {C : CT} (hlo : 191 ≤ n) (k1 : Nat) (k2 : Nat) (x3 : Int) (x4 : Int) (x5 : Int) (hk1 : isTown k1) (hk2 : isScene k2) (hx3 : InR x3) (hx4 : InR x4) (hx5 : InR x5) (F : Cx b p m c b_Laws_pushFrom 10 s ([.ref (b + 177), .ref (b + k1), .ref (b + k2), vI x3, vI x4, vI x5] : List Value).toArray "WardFalls$Laws" C n 191) (hlk : meth.locks = false) (hr : meth.sig.returnType = some .long) {res : Mem × Int64} (M : Mem) (v4_ : Int) (hv4_ : InR v4_) (H : Heap) (locs : List Loc) (ls : Array Slot) (hS : St b C n M s H locs) (hl : lv_has ls 10 [(0, .ref (b + 177)), (1, .ref (b + k1)), (5, vI x5)]) (hT : t_Laws_pushFrom_L204 k1 k2 x3 x4 x5 M v4_ = some res) : W p l e (headSpec (wsM y_Laws_pushFrom b_Laws_pushFrom 10 (some .long)) (rmD 4)).room s m ([.ref (b + 177), .ref (b + k1), .ref (b + k2), vI x3, vI x4, vI x5] : List Value).toArray below meth c H locs 0 0 (MQ below (QL b C n res.1 res.2) ([.ref (b + 177), .ref (b + k1), .ref (b + k2), vI x3, vI x4, vI x5] : List Value).toArray s 0 0 (frb b)) (F0 m 204 ls [vI v4_, .ref (b + 177)]) := by
  unfold t_Laws_pushFrom_L204 at hT
  refine lv_lconst (v := 0) F.hx F.hb d_Laws_pushFrom_204 rfl ?_
  exact k_Laws_pushFrom_L205 l hlo k1 k2 x3 x4 x5 hk1 hk2 hx3 hx4 hx5 F hlk hr M v4_ hv4_ 0 _ _ _ hS (lv_sub hl [0, 1, 2] rfl) hT
set_option maxHeartbeats 4000000 in
set_option maxRecDepth 100000 in
theorem k_Laws_pushFrom_L177 (l : Launch) {p : Program} {e : Env} {s : State} {m : MethodId} {below : List Frame} {meth : Method} {c : Code} {b n : Nat} {C : CT} (hlo : 191 ≤ n) (k1 : Nat) (k2 : Nat) (x3 : Int) (x4 : Int) (x5 : Int) (hk1 : isTown k1) (hk2 : isScene k2) (hx3 : InR x3) (hx4 : InR x4) (hx5 : InR x5) (F : Cx b p m c b_Laws_pushFrom 10 s ([.ref (b + 177), .ref (b + k1), .ref (b + k2), vI x3, vI x4, vI x5] : List Value).toArray "WardFalls$Laws" C n 191) (hlk : meth.locks = false) (hr : meth.sig.returnType = some .long) {res : Mem × Int64} (M : Mem) (v4_ : Int) (hv4_ : InR v4_) (v6_ : Int) (hv6_ : InR v6_) (v7_ : Int64) (H : Heap) (locs : List Loc) (ls : Array Slot) (hS : St b C n M s H locs) (hl : lv_has ls 10 [(0, .ref (b + 177)), (1, .ref (b + k1)), (4, vI x4), (5, vI x5), (9, vI v4_)]) (hT : t_Laws_pushFrom_L177 k1 k2 x3 x4 x5 M v4_ v6_ v7_ = some res) : W p l e (headSpec (wsM y_Laws_pushFrom b_Laws_pushFrom 10 (some .long)) (rmD 4)).room s m ([.ref (b + 177), .ref (b + k1), .ref (b + k2), vI x3, vI x4, vI x5] : List Value).toArray below meth c H locs 0 0 (MQ below (QL b C n res.1 res.2) ([.ref (b + 177), .ref (b + k1), .ref (b + k2), vI x3, vI x4, vI x5] : List Value).toArray s 0 0 (frb b)) (F0 m 177 ls [.long v7_, vI v6_, .ref (b + 177)]) := by
  unfold t_Laws_pushFrom_L177 at hT
  obtain ⟨q37, hq37⟩ : ∃ q, q = (t_Laws_name M v6_ v7_) := ⟨_, rfl⟩
  replace hT := qlet_eq hT hq37
  refine r_backV F hS (r_runV (k := 177) (N := 9) (T := T4) (As := [vI v6_, .long v7_]) F hS (show 177 < 191 by decide) (show shK 177 = 8 from rfl) rfl (c_Laws_name l F.2.2.1 M v6_ v7_ hv6_ _ hq37.symm) gs_Laws_79 hd_Laws_name ⟨Nat.le_of_ble_eq_true rfl, Nat.le_of_ble_eq_true rfl⟩ rfl hl.1 (Nat.le_of_ble_eq_true rfl) ⟨Nat.zero_le _, Nat.zero_le _⟩ rfl d_Laws_pushFrom_177) (fun H locs hS => ?_)
  refine lv_aload_n F.hx F.hb d_Laws_pushFrom_180 rfl (lv_at hl 0 rfl) ?_
  refine r_bipush F.hx F.hb d_Laws_pushFrom_181 rfl ?_
  refine lv_iload F.hx F.hb d_Laws_pushFrom_183 (lv_at hl 4 rfl) ?_
  refine r_iconst F.hx F.hb d_Laws_pushFrom_185 ?_
  refine r_icmp_eq (tgt := 204) F.hx F.hb hv4_ (inr_c rfl) d_Laws_pushFrom_186 (by decide) (fun c39 => ?_) (fun c39 => ?_)
  · replace hT := (if_pos c39).symm.trans hT
    exact k_Laws_pushFrom_L204 l hlo k1 k2 x3 x4 x5 hk1 hk2 hx3 hx4 hx5 F hlk hr q37 23 (inr_c rfl) _ _ _ hS (lv_sub hl [0, 1, 3] rfl) hT
  · replace hT := (if_neg c39).symm.trans hT
    refine lv_iload F.hx F.hb d_Laws_pushFrom_189 (lv_at hl 4 rfl) ?_
    refine r_iconst F.hx F.hb d_Laws_pushFrom_191 ?_
    refine r_iadd F.hx F.hb d_Laws_pushFrom_192 ?_
    refine r_iconst F.hx F.hb d_Laws_pushFrom_193 ?_
    refine r_irem F.hx F.hb (inr_c rfl) (by decide) d_Laws_pushFrom_194 ?_
    refine lv_iload F.hx F.hb d_Laws_pushFrom_195 (lv_at hl 2 rfl) ?_
    refine r_icmp_ne (tgt := 204) F.hx F.hb (q_inr_toInt _) hx4 d_Laws_pushFrom_197 (by decide) (fun c40 => ?_) (fun c40 => ?_)
    · replace hT := (if_neg c40).symm.trans hT
      exact k_Laws_pushFrom_L204 l hlo k1 k2 x3 x4 x5 hk1 hk2 hx3 hx4 hx5 F hlk hr q37 23 (inr_c rfl) _ _ _ hS (lv_sub hl [0, 1, 3] rfl) hT
    · replace hT := (if_pos c40).symm.trans hT
      refine lv_lconst (v := 1) F.hx F.hb d_Laws_pushFrom_200 rfl ?_
      refine lv_goto (tgt := 205) F.hx F.hb d_Laws_pushFrom_201 (by decide) ?_
      exact k_Laws_pushFrom_L205 l hlo k1 k2 x3 x4 x5 hk1 hk2 hx3 hx4 hx5 F hlk hr q37 23 (inr_c rfl) 1 _ _ _ hS (lv_sub hl [0, 1, 3] rfl) hT
set_option maxHeartbeats 4000000 in
set_option maxRecDepth 100000 in
theorem k_Laws_pushFrom_L156 (l : Launch) {p : Program} {e : Env} {s : State} {m : MethodId} {below : List Frame} {meth : Method} {c : Code} {b n : Nat} {C : CT} (hlo : 191 ≤ n) (k1 : Nat) (k2 : Nat) (x3 : Int) (x4 : Int) (x5 : Int) (hk1 : isTown k1) (hk2 : isScene k2) (hx3 : InR x3) (hx4 : InR x4) (hx5 : InR x5) (F : Cx b p m c b_Laws_pushFrom 10 s ([.ref (b + 177), .ref (b + k1), .ref (b + k2), vI x3, vI x4, vI x5] : List Value).toArray "WardFalls$Laws" C n 191) (hlk : meth.locks = false) (hr : meth.sig.returnType = some .long) {res : Mem × Int64} (M : Mem) (v5_ : Int) (hv5_ : InR v5_) (v6_ : Int) (hv6_ : InR v6_) (v8_ : Int) (hv8_ : InR v8_) (v9_ : Int64) (H : Heap) (locs : List Loc) (ls : Array Slot) (hS : St b C n M s H locs) (hl : lv_has ls 10 [(0, .ref (b + 177)), (1, .ref (b + k1)), (3, vI x3), (4, vI x4), (5, vI x5), (6, vI v5_), (9, vI v6_)]) (hT : t_Laws_pushFrom_L156 k1 k2 x3 x4 x5 M v5_ v6_ v8_ v9_ = some res) : W p l e (headSpec (wsM y_Laws_pushFrom b_Laws_pushFrom 10 (some .long)) (rmD 4)).room s m ([.ref (b + 177), .ref (b + k1), .ref (b + k2), vI x3, vI x4, vI x5] : List Value).toArray below meth c H locs 0 0 (MQ below (QL b C n res.1 res.2) ([.ref (b + 177), .ref (b + k1), .ref (b + k2), vI x3, vI x4, vI x5] : List Value).toArray s 0 0 (frb b)) (F0 m 156 ls [.long v9_, vI v8_, .ref (b + 177)]) := by
  unfold t_Laws_pushFrom_L156 at hT
  obtain ⟨q32, hq32⟩ : ∃ q, q = (t_Laws_name M v8_ v9_) := ⟨_, rfl⟩
  replace hT := qlet_eq hT hq32
  refine r_backV F hS (r_runV (k := 177) (N := 9) (T := T4) (As := [vI v8_, .long v9_]) F hS (show 177 < 191 by decide) (show shK 177 = 8 from rfl) rfl (c_Laws_name l F.2.2.1 M v8_ v9_ hv8_ _ hq32.symm) gs_Laws_79 hd_Laws_name ⟨Nat.le_of_ble_eq_true rfl, Nat.le_of_ble_eq_true rfl⟩ rfl hl.1 (Nat.le_of_ble_eq_true rfl) ⟨Nat.zero_le _, Nat.zero_le _⟩ rfl d_Laws_pushFrom_156) (fun H locs hS => ?_)
  refine lv_aload_n F.hx F.hb d_Laws_pushFrom_159 rfl (lv_at hl 0 rfl) ?_
  refine r_bipush F.hx F.hb d_Laws_pushFrom_160 rfl ?_
  refine lv_aload_n F.hx F.hb d_Laws_pushFrom_162 rfl (lv_at hl 1 rfl) ?_
  refine lv_iload_n F.hx F.hb d_Laws_pushFrom_163 rfl (lv_at hl 2 rfl) ?_
  refine lv_iload F.hx F.hb d_Laws_pushFrom_164 (lv_at hl 5 rfl) ?_
  obtain ⟨q34, hq34⟩ : ∃ q, q = (t_Town_isLine q32 k1 x3 v5_) := ⟨_, rfl⟩
  replace hT := qlet_eq hT hq34
  refine r_backZ F hS (r_runV (k := k1) (N := 20) (T := T11) (As := [vI x3, vI v5_]) F hS (Town_lt hk1) (Town_sh hk1) rfl (c_Town_isLine l F.2.2.1 q32 k1 x3 v5_ hk1 hx3 hv5_ _ hq34.symm) gs_Laws_132 hd_Town_isLine ⟨Nat.le_of_ble_eq_true rfl, Nat.le_of_ble_eq_true rfl⟩ rfl hl.1 (Nat.le_of_ble_eq_true rfl) ⟨Nat.zero_le _, Nat.zero_le _⟩ rfl d_Laws_pushFrom_166) (fun H locs hS h35 => ?_)
  refine r_if_eq (tgt := 176) F.hx F.hb (inr_z h35) d_Laws_pushFrom_169 (by decide) (fun c36 => ?_) (fun c36 => ?_)
  · replace hT := (if_pos c36).symm.trans hT
    refine lv_lconst (v := 0) F.hx F.hb d_Laws_pushFrom_176 rfl ?_
    exact k_Laws_pushFrom_L177 l hlo k1 k2 x3 x4 x5 hk1 hk2 hx3 hx4 hx5 F hlk hr q32 v6_ hv6_ 22 (inr_c rfl) 0 _ _ _ hS (lv_sub hl [0, 1, 3, 4, 6] rfl) hT
  · replace hT := (if_neg c36).symm.trans hT
    refine lv_lconst (v := 1) F.hx F.hb d_Laws_pushFrom_172 rfl ?_
    refine lv_goto (tgt := 177) F.hx F.hb d_Laws_pushFrom_173 (by decide) ?_
    exact k_Laws_pushFrom_L177 l hlo k1 k2 x3 x4 x5 hk1 hk2 hx3 hx4 hx5 F hlk hr q32 v6_ hv6_ 22 (inr_c rfl) 1 _ _ _ hS (lv_sub hl [0, 1, 3, 4, 6] rfl) hT
set_option maxHeartbeats 4000000 in
set_option maxRecDepth 100000 in
theorem k_Laws_pushFrom_L131 (l : Launch) {p : Program} {e : Env} {s : State} {m : MethodId} {below : List Frame} {meth : Method} {c : Code} {b n : Nat} {C : CT} (hlo : 191 ≤ n) (k1 : Nat) (k2 : Nat) (x3 : Int) (x4 : Int) (x5 : Int) (hk1 : isTown k1) (hk2 : isScene k2) (hx3 : InR x3) (hx4 : InR x4) (hx5 : InR x5) (F : Cx b p m c b_Laws_pushFrom 10 s ([.ref (b + 177), .ref (b + k1), .ref (b + k2), vI x3, vI x4, vI x5] : List Value).toArray "WardFalls$Laws" C n 191) (hlk : meth.locks = false) (hr : meth.sig.returnType = some .long) {res : Mem × Int64} (M : Mem) (v5_ : Int) (hv5_ : InR v5_) (v6_ : Int) (hv6_ : InR v6_) (v7_ : Int) (hv7_ : InR v7_) (v9_ : Int) (hv9_ : InR v9_) (v10_ : Int64) (H : Heap) (locs : List Loc) (ls : Array Slot) (hS : St b C n M s H locs) (hl : lv_has ls 10 [(0, .ref (b + 177)), (1, .ref (b + k1)), (3, vI x3), (4, vI x4), (5, vI x5), (6, vI v5_), (8, vI v6_), (9, vI v7_)]) (hT : t_Laws_pushFrom_L131 k1 k2 x3 x4 x5 M v5_ v6_ v7_ v9_ v10_ = some res) : W p l e (headSpec (wsM y_Laws_pushFrom b_Laws_pushFrom 10 (some .long)) (rmD 4)).room s m ([.ref (b + 177), .ref (b + k1), .ref (b + k2), vI x3, vI x4, vI x5] : List Value).toArray below meth c H locs 0 0 (MQ below (QL b C n res.1 res.2) ([.ref (b + 177), .ref (b + k1), .ref (b + k2), vI x3, vI x4, vI x5] : List Value).toArray s 0 0 (frb b)) (F0 m 131 ls [.long v10_, vI v9_, .ref (b + 177)]) := by
  unfold t_Laws_pushFrom_L131 at hT
  obtain ⟨q27, hq27⟩ : ∃ q, q = (t_Laws_name M v9_ v10_) := ⟨_, rfl⟩
  replace hT := qlet_eq hT hq27
  refine r_backV F hS (r_runV (k := 177) (N := 9) (T := T4) (As := [vI v9_, .long v10_]) F hS (show 177 < 191 by decide) (show shK 177 = 8 from rfl) rfl (c_Laws_name l F.2.2.1 M v9_ v10_ hv9_ _ hq27.symm) gs_Laws_79 hd_Laws_name ⟨Nat.le_of_ble_eq_true rfl, Nat.le_of_ble_eq_true rfl⟩ rfl hl.1 (Nat.le_of_ble_eq_true rfl) ⟨Nat.zero_le _, Nat.zero_le _⟩ rfl d_Laws_pushFrom_131) (fun H locs hS => ?_)
  refine lv_aload_n F.hx F.hb d_Laws_pushFrom_134 rfl (lv_at hl 0 rfl) ?_
  refine r_bipush F.hx F.hb d_Laws_pushFrom_135 rfl ?_
  refine lv_iload F.hx F.hb d_Laws_pushFrom_137 (lv_at hl 6 rfl) ?_
  refine r_if_ge (tgt := 146) F.hx F.hb hv6_ d_Laws_pushFrom_139 (by decide) (fun c29 => ?_) (fun c29 => ?_)
  · replace hT := (if_pos c29).symm.trans hT
    refine lv_aload_n F.hx F.hb d_Laws_pushFrom_146 rfl (lv_at hl 1 rfl) ?_
    refine r_get (v := .ref (b + (k1 + 6))) (N := 20) (T := T11) (j := 5) F hS (Town_lt hk1) (Town_sh hk1) (Town_N hk1) rfl (Nat.le_of_ble_eq_true rfl) ing11 mw_105 (Town_g5 hk1 _) d_Laws_pushFrom_147 ?_
    refine lv_iload F.hx F.hb d_Laws_pushFrom_150 (lv_at hl 6 rfl) ?_
    obtain ⟨q30, hq30⟩ : ∃ q, q = (t_WF_look q27 (k1 + 6) 8 v6_) := ⟨_, rfl⟩
    replace hT := qlet_eq hT hq30
    refine r_backI F hS (r_runSN (As := [.ref (b + (k1 + 6)), vI v6_]) F hS (c_WF_look l F.2.2.1 q27 (k1 + 6) 8 v6_ (Town_f5 hk1) hv6_ _ hq30.symm) mw_519 mw_518 mw_1 gs_Laws_52 hd_WF_look ⟨Nat.le_of_ble_eq_true rfl, Nat.le_of_ble_eq_true rfl⟩ rfl hl.1 (Nat.le_of_ble_eq_true rfl) ⟨Nat.zero_le _, Nat.zero_le _⟩ rfl d_Laws_pushFrom_152) (fun H locs hS h31 => ?_)
    refine r_i2l F.hx F.hb d_Laws_pushFrom_155 ?_
    exact k_Laws_pushFrom_L156 l hlo k1 k2 x3 x4 x5 hk1 hk2 hx3 hx4 hx5 F hlk hr q27 v5_ hv5_ v7_ hv7_ 21 (inr_c rfl) (q_i2l q30) _ _ _ hS (lv_sub hl [0, 1, 2, 3, 4, 5, 7] rfl) hT
  · replace hT := (if_neg c29).symm.trans hT
    refine lv_lconst (v := 0) F.hx F.hb d_Laws_pushFrom_142 rfl ?_
    refine lv_goto (tgt := 156) F.hx F.hb d_Laws_pushFrom_143 (by decide) ?_
    exact k_Laws_pushFrom_L156 l hlo k1 k2 x3 x4 x5 hk1 hk2 hx3 hx4 hx5 F hlk hr q27 v5_ hv5_ v7_ hv7_ 21 (inr_c rfl) 0 _ _ _ hS (lv_sub hl [0, 1, 2, 3, 4, 5, 7] rfl) hT
set_option maxHeartbeats 4000000 in
set_option maxRecDepth 100000 in
theorem k_Laws_pushFrom_L115 (l : Launch) {p : Program} {e : Env} {s : State} {m : MethodId} {below : List Frame} {meth : Method} {c : Code} {b n : Nat} {C : CT} (hlo : 191 ≤ n) (k1 : Nat) (k2 : Nat) (x3 : Int) (x4 : Int) (x5 : Int) (hk1 : isTown k1) (hk2 : isScene k2) (hx3 : InR x3) (hx4 : InR x4) (hx5 : InR x5) (F : Cx b p m c b_Laws_pushFrom 10 s ([.ref (b + 177), .ref (b + k1), .ref (b + k2), vI x3, vI x4, vI x5] : List Value).toArray "WardFalls$Laws" C n 191) (hlk : meth.locks = false) (hr : meth.sig.returnType = some .long) {res : Mem × Int64} (M : Mem) (v5_ : Int) (hv5_ : InR v5_) (v6_ : Int) (hv6_ : InR v6_) (v7_ : Int) (hv7_ : InR v7_) (v9_ : Int) (hv9_ : InR v9_) (v10_ : Int64) (H : Heap) (locs : List Loc) (ls : Array Slot) (hS : St b C n M s H locs) (hl : lv_has ls 10 [(0, .ref (b + 177)), (1, .ref (b + k1)), (3, vI x3), (4, vI x4), (5, vI x5), (6, vI v5_), (8, vI v6_), (9, vI v7_)]) (hT : t_Laws_pushFrom_L115 k1 k2 x3 x4 x5 M v5_ v6_ v7_ v9_ v10_ = some res) : W p l e (headSpec (wsM y_Laws_pushFrom b_Laws_pushFrom 10 (some .long)) (rmD 4)).room s m ([.ref (b + 177), .ref (b + k1), .ref (b + k2), vI x3, vI x4, vI x5] : List Value).toArray below meth c H locs 0 0 (MQ below (QL b C n res.1 res.2) ([.ref (b + 177), .ref (b + k1), .ref (b + k2), vI x3, vI x4, vI x5] : List Value).toArray s 0 0 (frb b)) (F0 m 115 ls [.long v10_, vI v9_, .ref (b + 177)]) := by
  unfold t_Laws_pushFrom_L115 at hT
  obtain ⟨q24, hq24⟩ : ∃ q, q = (t_Laws_name M v9_ v10_) := ⟨_, rfl⟩
  replace hT := qlet_eq hT hq24
  refine r_backV F hS (r_runV (k := 177) (N := 9) (T := T4) (As := [vI v9_, .long v10_]) F hS (show 177 < 191 by decide) (show shK 177 = 8 from rfl) rfl (c_Laws_name l F.2.2.1 M v9_ v10_ hv9_ _ hq24.symm) gs_Laws_79 hd_Laws_name ⟨Nat.le_of_ble_eq_true rfl, Nat.le_of_ble_eq_true rfl⟩ rfl hl.1 (Nat.le_of_ble_eq_true rfl) ⟨Nat.zero_le _, Nat.zero_le _⟩ rfl d_Laws_pushFrom_115) (fun H locs hS => ?_)
  refine lv_aload_n F.hx F.hb d_Laws_pushFrom_118 rfl (lv_at hl 0 rfl) ?_
  refine r_bipush F.hx F.hb d_Laws_pushFrom_119 rfl ?_
  refine lv_iload F.hx F.hb d_Laws_pushFrom_121 (lv_at hl 6 rfl) ?_
  refine r_if_ge (tgt := 130) F.hx F.hb hv6_ d_Laws_pushFrom_123 (by decide) (fun c26 => ?_) (fun c26 => ?_)
  · replace hT := (if_pos c26).symm.trans hT
    refine lv_lconst (v := 1) F.hx F.hb d_Laws_pushFrom_130 rfl ?_
    exact k_Laws_pushFrom_L131 l hlo k1 k2 x3 x4 x5 hk1 hk2 hx3 hx4 hx5 F hlk hr q24 v5_ hv5_ v6_ hv6_ v7_ hv7_ 20 (inr_c rfl) 1 _ _ _ hS (lv_sub hl [0, 1, 2, 3, 4, 5, 6, 7] rfl) hT
  · replace hT := (if_neg c26).symm.trans hT
    refine lv_lconst (v := 0) F.hx F.hb d_Laws_pushFrom_126 rfl ?_
    refine lv_goto (tgt := 131) F.hx F.hb d_Laws_pushFrom_127 (by decide) ?_
    exact k_Laws_pushFrom_L131 l hlo k1 k2 x3 x4 x5 hk1 hk2 hx3 hx4 hx5 F hlk hr q24 v5_ hv5_ v6_ hv6_ v7_ hv7_ 20 (inr_c rfl) 0 _ _ _ hS (lv_sub hl [0, 1, 2, 3, 4, 5, 6, 7] rfl) hT
set_option maxHeartbeats 4000000 in
set_option maxRecDepth 100000 in
theorem k_Laws_pushFrom_L90 (l : Launch) {p : Program} {e : Env} {s : State} {m : MethodId} {below : List Frame} {meth : Method} {c : Code} {b n : Nat} {C : CT} (hlo : 191 ≤ n) (k1 : Nat) (k2 : Nat) (x3 : Int) (x4 : Int) (x5 : Int) (hk1 : isTown k1) (hk2 : isScene k2) (hx3 : InR x3) (hx4 : InR x4) (hx5 : InR x5) (F : Cx b p m c b_Laws_pushFrom 10 s ([.ref (b + 177), .ref (b + k1), .ref (b + k2), vI x3, vI x4, vI x5] : List Value).toArray "WardFalls$Laws" C n 191) (hlk : meth.locks = false) (hr : meth.sig.returnType = some .long) {res : Mem × Int64} (M : Mem) (v5_ : Int) (hv5_ : InR v5_) (v6_ : Int) (hv6_ : InR v6_) (v7_ : Int) (hv7_ : InR v7_) (v8_ : Int) (hv8_ : InR v8_) (v10_ : Int) (hv10_ : InR v10_) (v11_ : Int64) (H : Heap) (locs : List Loc) (ls : Array Slot) (hS : St b C n M s H locs) (hl : lv_has ls 10 [(0, .ref (b + 177)), (1, .ref (b + k1)), (3, vI x3), (4, vI x4), (5, vI x5), (6, vI v5_), (7, vI v6_), (8, vI v7_), (9, vI v8_)]) (hT : t_Laws_pushFrom_L90 k1 k2 x3 x4 x5 M v5_ v6_ v7_ v8_ v10_ v11_ = some res) : W p l e (headSpec (wsM y_Laws_pushFrom b_Laws_pushFrom 10 (some .long)) (rmD 4)).room s m ([.ref (b + 177), .ref (b + k1), .ref (b + k2), vI x3, vI x4, vI x5] : List Value).toArray below meth c H locs 0 0 (MQ below (QL b C n res.1 res.2) ([.ref (b + 177), .ref (b + k1), .ref (b + k2), vI x3, vI x4, vI x5] : List Value).toArray s 0 0 (frb b)) (F0 m 90 ls [.long v11_, vI v10_, .ref (b + 177)]) := by
  unfold t_Laws_pushFrom_L90 at hT
  obtain ⟨q19, hq19⟩ : ∃ q, q = (t_Laws_name M v10_ v11_) := ⟨_, rfl⟩
  replace hT := qlet_eq hT hq19
  refine r_backV F hS (r_runV (k := 177) (N := 9) (T := T4) (As := [vI v10_, .long v11_]) F hS (show 177 < 191 by decide) (show shK 177 = 8 from rfl) rfl (c_Laws_name l F.2.2.1 M v10_ v11_ hv10_ _ hq19.symm) gs_Laws_79 hd_Laws_name ⟨Nat.le_of_ble_eq_true rfl, Nat.le_of_ble_eq_true rfl⟩ rfl hl.1 (Nat.le_of_ble_eq_true rfl) ⟨Nat.zero_le _, Nat.zero_le _⟩ rfl d_Laws_pushFrom_90) (fun H locs hS => ?_)
  refine lv_aload_n F.hx F.hb d_Laws_pushFrom_93 rfl (lv_at hl 0 rfl) ?_
  refine r_bipush F.hx F.hb d_Laws_pushFrom_94 rfl ?_
  refine lv_iload F.hx F.hb d_Laws_pushFrom_96 (lv_at hl 6 rfl) ?_
  refine r_if_ge (tgt := 105) F.hx F.hb hv6_ d_Laws_pushFrom_98 (by decide) (fun c21 => ?_) (fun c21 => ?_)
  · replace hT := (if_pos c21).symm.trans hT
    refine lv_aload_n F.hx F.hb d_Laws_pushFrom_105 rfl (lv_at hl 1 rfl) ?_
    refine r_get (v := .ref (b + (k1 + 4))) (N := 20) (T := T11) (j := 3) F hS (Town_lt hk1) (Town_sh hk1) (Town_N hk1) rfl (Nat.le_of_ble_eq_true rfl) ing11 mw_99 (Town_g3 hk1 _) d_Laws_pushFrom_106 ?_
    refine lv_iload F.hx F.hb d_Laws_pushFrom_109 (lv_at hl 6 rfl) ?_
    obtain ⟨q22, hq22⟩ : ∃ q, q = (t_WF_look q19 (k1 + 4) 4 v6_) := ⟨_, rfl⟩
    replace hT := qlet_eq hT hq22
    refine r_backI F hS (r_runSN (As := [.ref (b + (k1 + 4)), vI v6_]) F hS (c_WF_look l F.2.2.1 q19 (k1 + 4) 4 v6_ (Town_f3 hk1) hv6_ _ hq22.symm) mw_519 mw_518 mw_1 gs_Laws_52 hd_WF_look ⟨Nat.le_of_ble_eq_true rfl, Nat.le_of_ble_eq_true rfl⟩ rfl hl.1 (Nat.le_of_ble_eq_true rfl) ⟨Nat.zero_le _, Nat.zero_le _⟩ rfl d_Laws_pushFrom_111) (fun H locs hS h23 => ?_)
    refine r_i2l F.hx F.hb d_Laws_pushFrom_114 ?_
    exact k_Laws_pushFrom_L115 l hlo k1 k2 x3 x4 x5 hk1 hk2 hx3 hx4 hx5 F hlk hr q19 v5_ hv5_ v7_ hv7_ v8_ hv8_ 19 (inr_c rfl) (q_i2l q22) _ _ _ hS (lv_sub hl [0, 1, 2, 3, 4, 5, 7, 8] rfl) hT
  · replace hT := (if_neg c21).symm.trans hT
    refine lv_lconst (v := 0) F.hx F.hb d_Laws_pushFrom_101 rfl ?_
    refine lv_goto (tgt := 115) F.hx F.hb d_Laws_pushFrom_102 (by decide) ?_
    exact k_Laws_pushFrom_L115 l hlo k1 k2 x3 x4 x5 hk1 hk2 hx3 hx4 hx5 F hlk hr q19 v5_ hv5_ v7_ hv7_ v8_ hv8_ 19 (inr_c rfl) 0 _ _ _ hS (lv_sub hl [0, 1, 2, 3, 4, 5, 7, 8] rfl) hT
set_option maxHeartbeats 4000000 in
set_option maxRecDepth 100000 in
theorem c_Laws_pushFrom (l : Launch) {b n : Nat} {C : CT} (hlo : 191 ≤ n) (M : Mem) (k1 : Nat) (k2 : Nat) (x3 : Int) (x4 : Int) (x5 : Int) (hk1 : isTown k1) (hk2 : isScene k2) (hx3 : InR x3) (hx4 : InR x4) (hx5 : InR x5) (res : Mem × Int64) (hT : t_Laws_pushFrom M k1 k2 x3 x4 x5 = some res) : CM l b C n 4 y_Laws_pushFrom b_Laws_pushFrom 10 (some .long) [.ref (b + 177), .ref (b + k1), .ref (b + k2), vI x3, vI x4, vI x5] M (QL b C n res.1 res.2) := by
  refine CM.of (lo := 191) (ow := "WardFalls$Laws") (by decide) rfl (Nat.le_of_ble_eq_true rfl) hlo (fun p e s m below meth c F hlk hr hS ls hl => ?_)
  have hl : lv_has ls 10 [(0, .ref (b + 177)), (1, .ref (b + k1)), (2, .ref (b + k2)), (3, vI x3), (4, vI x4), (5, vI x5)] := hl
  unfold t_Laws_pushFrom at hT
  refine lv_aload_n F.hx F.hb d_Laws_pushFrom_0 rfl (lv_at hl 1 rfl) ?_
  refine lv_iload_n F.hx F.hb d_Laws_pushFrom_1 rfl (lv_at hl 3 rfl) ?_
  refine lv_iload F.hx F.hb d_Laws_pushFrom_2 (lv_at hl 4 rfl) ?_
  obtain ⟨q1, hq1⟩ : ∃ q, q = (t_Town_beside M k1 x3 x4) := ⟨_, rfl⟩
  replace hT := qlet_eq hT hq1
  refine r_backI F hS (r_runV (k := k1) (N := 20) (T := T11) (As := [vI x3, vI x4]) F hS (Town_lt hk1) (Town_sh hk1) rfl (c_Town_beside l F.2.2.1 M k1 x3 x4 hk1 hx3 hx4 _ hq1.symm) gs_Laws_113 hd_Town_beside ⟨Nat.le_of_ble_eq_true rfl, Nat.le_of_ble_eq_true rfl⟩ rfl hl.1 (Nat.le_of_ble_eq_true rfl) ⟨Nat.zero_le _, Nat.zero_le _⟩ rfl d_Laws_pushFrom_4) (fun H locs hS h2 => ?_)
  refine lv_istore (lv' := [(6, vI q1), (0, .ref (b + 177)), (1, .ref (b + k1)), (2, .ref (b + k2)), (3, vI x3), (4, vI x4), (5, vI x5)]) F.hx F.hb d_Laws_pushFrom_7 hl (Nat.le_of_ble_eq_true rfl) rfl (fun ls hl => ?_)
  refine lv_iload F.hx F.hb d_Laws_pushFrom_9 (lv_at hl 0 rfl) ?_
  refine r_if_lt (tgt := 39) F.hx F.hb h2 d_Laws_pushFrom_11 (by decide) (fun c3 => ?_) (fun c3 => ?_)
  · replace hT := (if_pos c3).symm.trans hT
    refine lv_ldc2 (v := (-9223372036854775808)) F.hx F.hb F.hown (F.hts mw_920) d_Laws_pushFrom_39 ?_
    cases hT
    exact r_lret F hlk hr hS d_Laws_pushFrom_42
  · replace hT := (if_neg c3).symm.trans hT
    refine lv_aload_n F.hx F.hb d_Laws_pushFrom_14 rfl (lv_at hl 3 rfl) ?_
    refine r_get (v := .long (M.2 k2 4)) (N := 7) (T := T9) (j := 4) F hS (Scene_lt hk2) (Scene_sh hk2) (Scene_N hk2) rfl (Nat.le_of_ble_eq_true rfl) ing9 mw_286 (fv_long rfl) d_Laws_pushFrom_15 ?_
    refine lv_iload_n F.hx F.hb d_Laws_pushFrom_18 rfl (lv_at hl 4 rfl) ?_
    obtain ⟨q4, hq4⟩ : ∃ q, q = (t_WF_bitOf M (M.2 k2 4) x3) := ⟨_, rfl⟩
    replace hT := qlet_eq hT hq4
    refine r_backI F hS (r_runSN (As := [.long (M.2 k2 4), vI x3]) F hS (c_WF_bitOf l F.2.2.1 M (M.2 k2 4) x3 hx3 _ hq4.symm) mw_773 mw_772 mw_1 gs_Laws_121 hd_WF_bitOf ⟨Nat.le_of_ble_eq_true rfl, Nat.le_of_ble_eq_true rfl⟩ rfl hl.1 (Nat.le_of_ble_eq_true rfl) ⟨Nat.zero_le _, Nat.zero_le _⟩ rfl d_Laws_pushFrom_19) (fun H locs hS h5 => ?_)
    refine r_iconst F.hx F.hb d_Laws_pushFrom_22 ?_
    refine r_icmp_eq (tgt := 39) F.hx F.hb h5 (inr_c rfl) d_Laws_pushFrom_23 (by decide) (fun c6 => ?_) (fun c6 => ?_)
    · replace hT := (if_pos c6).symm.trans hT
      refine lv_ldc2 (v := (-9223372036854775808)) F.hx F.hb F.hown (F.hts mw_920) d_Laws_pushFrom_39 ?_
      cases hT
      exact r_lret F hlk hr hS d_Laws_pushFrom_42
    · replace hT := (if_neg c6).symm.trans hT
      refine lv_aload_n F.hx F.hb d_Laws_pushFrom_26 rfl (lv_at hl 3 rfl) ?_
      refine r_get (v := .long (M.2 k2 4)) (N := 7) (T := T9) (j := 4) F hS (Scene_lt hk2) (Scene_sh hk2) (Scene_N hk2) rfl (Nat.le_of_ble_eq_true rfl) ing9 mw_286 (fv_long rfl) d_Laws_pushFrom_27 ?_
      refine lv_iload F.hx F.hb d_Laws_pushFrom_30 (lv_at hl 0 rfl) ?_
      obtain ⟨q7, hq7⟩ : ∃ q, q = (t_WF_bitOf M (M.2 k2 4) q1) := ⟨_, rfl⟩
      replace hT := qlet_eq hT hq7
      refine r_backI F hS (r_runSN (As := [.long (M.2 k2 4), vI q1]) F hS (c_WF_bitOf l F.2.2.1 M (M.2 k2 4) q1 h2 _ hq7.symm) mw_773 mw_772 mw_1 gs_Laws_121 hd_WF_bitOf ⟨Nat.le_of_ble_eq_true rfl, Nat.le_of_ble_eq_true rfl⟩ rfl hl.1 (Nat.le_of_ble_eq_true rfl) ⟨Nat.zero_le _, Nat.zero_le _⟩ rfl d_Laws_pushFrom_32) (fun H locs hS h8 => ?_)
      refine r_iconst F.hx F.hb d_Laws_pushFrom_35 ?_
      refine r_icmp_ne (tgt := 43) F.hx F.hb h8 (inr_c rfl) d_Laws_pushFrom_36 (by decide) (fun c9 => ?_) (fun c9 => ?_)
      · replace hT := (if_neg c9).symm.trans hT
        refine lv_aload_n F.hx F.hb d_Laws_pushFrom_43 rfl (lv_at hl 2 rfl) ?_
        refine lv_iload F.hx F.hb d_Laws_pushFrom_44 (lv_at hl 0 rfl) ?_
        obtain ⟨q10, hq10⟩ : ∃ q, q = (t_Town_ownerOf M k1 q1) := ⟨_, rfl⟩
        replace hT := qlet_eq hT hq10
        refine r_backI F hS (r_runV (k := k1) (N := 20) (T := T11) (As := [vI q1]) F hS (Town_lt hk1) (Town_sh hk1) rfl (c_Town_ownerOf l F.2.2.1 M k1 q1 hk1 h2 _ hq10.symm) gs_Laws_64 hd_Town_ownerOf ⟨Nat.le_of_ble_eq_true rfl, Nat.le_of_ble_eq_true rfl⟩ rfl hl.1 (Nat.le_of_ble_eq_true rfl) ⟨Nat.zero_le _, Nat.zero_le _⟩ rfl d_Laws_pushFrom_46) (fun H locs hS h11 => ?_)
        refine lv_istore (lv' := [(7, vI q10), (6, vI q1), (0, .ref (b + 177)), (1, .ref (b + k1)), (2, .ref (b + k2)), (3, vI x3), (4, vI x4), (5, vI x5)]) F.hx F.hb d_Laws_pushFrom_49 hl (Nat.le_of_ble_eq_true rfl) rfl (fun ls hl => ?_)
        refine lv_aload_n F.hx F.hb d_Laws_pushFrom_51 rfl (lv_at hl 4 rfl) ?_
        refine lv_aload_n F.hx F.hb d_Laws_pushFrom_52 rfl (lv_at hl 3 rfl) ?_
        refine lv_iload F.hx F.hb d_Laws_pushFrom_53 (lv_at hl 1 rfl) ?_
        obtain ⟨q12, hq12, hT⟩ := q_obind hT
        refine r_backI F hS (r_runV (k := k2) (N := 7) (T := T9) (As := [.ref (b + k1), vI q1]) F hS (Scene_lt hk2) (Scene_sh hk2) rfl (c_Scene_thingIn l F.2.2.1 M k2 k1 q1 hk2 hk1 h2 _ hq12) gs_Laws_125 hd_Scene_thingIn ⟨Nat.le_of_ble_eq_true rfl, Nat.le_of_ble_eq_true rfl⟩ rfl hl.1 (Nat.le_of_ble_eq_true rfl) ⟨Nat.zero_le _, Nat.zero_le _⟩ rfl d_Laws_pushFrom_55) (fun H locs hS h13 => ?_)
        refine lv_istore (lv' := [(8, vI q12), (7, vI q10), (6, vI q1), (0, .ref (b + 177)), (1, .ref (b + k1)), (2, .ref (b + k2)), (3, vI x3), (4, vI x4), (5, vI x5)]) F.hx F.hb d_Laws_pushFrom_58 hl (Nat.le_of_ble_eq_true rfl) rfl (fun ls hl => ?_)
        refine lv_aload_n F.hx F.hb d_Laws_pushFrom_60 rfl (lv_at hl 5 rfl) ?_
        refine lv_aload_n F.hx F.hb d_Laws_pushFrom_61 rfl (lv_at hl 4 rfl) ?_
        refine lv_iload_n F.hx F.hb d_Laws_pushFrom_62 rfl (lv_at hl 6 rfl) ?_
        obtain ⟨q14, hq14⟩ : ∃ q, q = (t_Scene_downOf M k2 k1 x3) := ⟨_, rfl⟩
        replace hT := qlet_eq hT hq14
        refine r_backI F hS (r_runV (k := k2) (N := 7) (T := T9) (As := [.ref (b + k1), vI x3]) F hS (Scene_lt hk2) (Scene_sh hk2) rfl (c_Scene_downOf l F.2.2.1 M k2 k1 x3 hk2 hk1 hx3 _ hq14.symm) gs_Laws_129 hd_Scene_downOf ⟨Nat.le_of_ble_eq_true rfl, Nat.le_of_ble_eq_true rfl⟩ rfl hl.1 (Nat.le_of_ble_eq_true rfl) ⟨Nat.zero_le _, Nat.zero_le _⟩ rfl d_Laws_pushFrom_63) (fun H locs hS h15 => ?_)
        refine lv_istore (lv' := [(9, vI q14), (8, vI q12), (7, vI q10), (6, vI q1), (0, .ref (b + 177)), (1, .ref (b + k1)), (2, .ref (b + k2)), (3, vI x3), (4, vI x4), (5, vI x5)]) F.hx F.hb d_Laws_pushFrom_66 hl (Nat.le_of_ble_eq_true rfl) rfl (fun ls hl => ?_)
        refine lv_aload_n F.hx F.hb d_Laws_pushFrom_68 rfl (lv_at hl 4 rfl) ?_
        refine r_bipush F.hx F.hb d_Laws_pushFrom_69 rfl ?_
        refine lv_iload F.hx F.hb d_Laws_pushFrom_71 (lv_at hl 2 rfl) ?_
        refine r_if_ge (tgt := 80) F.hx F.hb h11 d_Laws_pushFrom_73 (by decide) (fun c16 => ?_) (fun c16 => ?_)
        · replace hT := (if_pos c16).symm.trans hT
          refine lv_aload_n F.hx F.hb d_Laws_pushFrom_80 rfl (lv_at hl 5 rfl) ?_
          refine r_get (v := .ref (b + (k1 + 3))) (N := 20) (T := T11) (j := 2) F hS (Town_lt hk1) (Town_sh hk1) (Town_N hk1) rfl (Nat.le_of_ble_eq_true rfl) ing11 mw_95 (Town_g2 hk1 _) d_Laws_pushFrom_81 ?_
          refine lv_iload F.hx F.hb d_Laws_pushFrom_84 (lv_at hl 2 rfl) ?_
          obtain ⟨q17, hq17⟩ : ∃ q, q = (t_WF_look M (k1 + 3) 4 q10) := ⟨_, rfl⟩
          replace hT := qlet_eq hT hq17
          refine r_backI F hS (r_runSN (As := [.ref (b + (k1 + 3)), vI q10]) F hS (c_WF_look l F.2.2.1 M (k1 + 3) 4 q10 (Town_f2 hk1) h11 _ hq17.symm) mw_519 mw_518 mw_1 gs_Laws_52 hd_WF_look ⟨Nat.le_of_ble_eq_true rfl, Nat.le_of_ble_eq_true rfl⟩ rfl hl.1 (Nat.le_of_ble_eq_true rfl) ⟨Nat.zero_le _, Nat.zero_le _⟩ rfl d_Laws_pushFrom_86) (fun H locs hS h18 => ?_)
          refine r_i2l F.hx F.hb d_Laws_pushFrom_89 ?_
          exact k_Laws_pushFrom_L90 l hlo k1 k2 x3 x4 x5 hk1 hk2 hx3 hx4 hx5 F hlk hr M q1 h2 q10 h11 q12 h13 q14 h15 18 (inr_c rfl) (q_i2l q17) _ _ _ hS (lv_sub hl [4, 5, 7, 8, 9, 3, 2, 1, 0] rfl) hT
        · replace hT := (if_neg c16).symm.trans hT
          refine lv_lconst (v := 0) F.hx F.hb d_Laws_pushFrom_76 rfl ?_
          refine lv_goto (tgt := 90) F.hx F.hb d_Laws_pushFrom_77 (by decide) ?_
          exact k_Laws_pushFrom_L90 l hlo k1 k2 x3 x4 x5 hk1 hk2 hx3 hx4 hx5 F hlk hr M q1 h2 q10 h11 q12 h13 q14 h15 18 (inr_c rfl) 0 _ _ _ hS (lv_sub hl [4, 5, 7, 8, 9, 3, 2, 1, 0] rfl) hT
      · replace hT := (if_pos c9).symm.trans hT
        refine lv_ldc2 (v := (-9223372036854775808)) F.hx F.hb F.hown (F.hts mw_920) d_Laws_pushFrom_39 ?_
        cases hT
        exact r_lret F hlk hr hS d_Laws_pushFrom_42
theorem d_WF_law_0 : decode b_WF_law 0 = .ok (.iload_n 1, 1) := dc_27 (by decide +kernel)
theorem d_WF_law_1 : decode b_WF_law 1 = .ok (.ifCond .ne 28, 3) := dc_154 (by decide +kernel)
theorem d_WF_law_4 : decode b_WF_law 4 = .ok (.aload_n 0, 1) := dc_42 (by decide +kernel)
theorem d_WF_law_5 : decode b_WF_law 5 = .ok (.getfield 83, 3) := dc_180 (by decide +kernel)
theorem d_WF_law_8 : decode b_WF_law 8 = .ok (.aload_n 0, 1) := dc_42 (by decide +kernel)
theorem d_WF_law_9 : decode b_WF_law 9 = .ok (.getfield 22, 3) := dc_180 (by decide +kernel)
theorem d_WF_law_12 : decode b_WF_law 12 = .ok (.aload_n 0, 1) := dc_42 (by decide +kernel)
theorem d_WF_law_13 : decode b_WF_law 13 = .ok (.getfield 46, 3) := dc_180 (by decide +kernel)
theorem d_WF_law_16 : decode b_WF_law 16 = .ok (.iload_n 2, 1) := dc_28 (by decide +kernel)
theorem d_WF_law_17 : decode b_WF_law 17 = .ok (.iload_n 3, 1) := dc_29 (by decide +kernel)
theorem d_WF_law_18 : decode b_WF_law 18 = .ok (.aload_n 0, 1) := dc_42 (by decide +kernel)
theorem d_WF_law_19 : decode b_WF_law 19 = .ok (.getfield 59, 3) := dc_180 (by decide +kernel)
theorem d_WF_law_22 : decode b_WF_law 22 = .ok (.getfield 218, 3) := dc_180 (by decide +kernel)
theorem d_WF_law_25 : decode b_WF_law 25 = .ok (.invokevirtual 240, 3) := dc_182 (by decide +kernel)
theorem d_WF_law_28 : decode b_WF_law 28 = .ok (.lreturn, 1) := dc_173 (by decide +kernel)
theorem d_WF_law_29 : decode b_WF_law 29 = .ok (.iload_n 1, 1) := dc_27 (by decide +kernel)
theorem d_WF_law_30 : decode b_WF_law 30 = .ok (.iconst 1, 1) := dc_4 (by decide +kernel)
theorem d_WF_law_31 : decode b_WF_law 31 = .ok (.if_icmp .ne 14, 3) := dc_160 (by decide +kernel)
theorem d_WF_law_34 : decode b_WF_law 34 = .ok (.aload_n 0, 1) := dc_42 (by decide +kernel)
theorem d_WF_law_35 : decode b_WF_law 35 = .ok (.getfield 22, 3) := dc_180 (by decide +kernel)
theorem d_WF_law_38 : decode b_WF_law 38 = .ok (.iload_n 2, 1) := dc_28 (by decide +kernel)
theorem d_WF_law_39 : decode b_WF_law 39 = .ok (.invokevirtual 198, 3) := dc_182 (by decide +kernel)
theorem d_WF_law_42 : decode b_WF_law 42 = .ok (.ifCond .ne 7, 3) := dc_154 (by decide +kernel)
theorem d_WF_law_45 : decode b_WF_law 45 = .ok (.ldc2_w 244, 3) := dc_20 (by decide +kernel)
theorem d_WF_law_48 : decode b_WF_law 48 = .ok (.lreturn, 1) := dc_173 (by decide +kernel)
theorem d_WF_law_49 : decode b_WF_law 49 = .ok (.aload_n 0, 1) := dc_42 (by decide +kernel)
theorem d_WF_law_50 : decode b_WF_law 50 = .ok (.getfield 83, 3) := dc_180 (by decide +kernel)
theorem d_WF_law_53 : decode b_WF_law 53 = .ok (.aload_n 0, 1) := dc_42 (by decide +kernel)
theorem d_WF_law_54 : decode b_WF_law 54 = .ok (.getfield 22, 3) := dc_180 (by decide +kernel)
theorem d_WF_law_57 : decode b_WF_law 57 = .ok (.aload_n 0, 1) := dc_42 (by decide +kernel)
theorem d_WF_law_58 : decode b_WF_law 58 = .ok (.getfield 46, 3) := dc_180 (by decide +kernel)
theorem d_WF_law_61 : decode b_WF_law 61 = .ok (.invokevirtual 214, 3) := dc_182 (by decide +kernel)
theorem d_WF_law_64 : decode b_WF_law 64 = .ok (.aload_n 0, 1) := dc_42 (by decide +kernel)
theorem d_WF_law_65 : decode b_WF_law 65 = .ok (.getfield 83, 3) := dc_180 (by decide +kernel)
theorem d_WF_law_68 : decode b_WF_law 68 = .ok (.aload_n 0, 1) := dc_42 (by decide +kernel)
theorem d_WF_law_69 : decode b_WF_law 69 = .ok (.getfield 22, 3) := dc_180 (by decide +kernel)
theorem d_WF_law_72 : decode b_WF_law 72 = .ok (.iload_n 2, 1) := dc_28 (by decide +kernel)
theorem d_WF_law_73 : decode b_WF_law 73 = .ok (.aload_n 0, 1) := dc_42 (by decide +kernel)
theorem d_WF_law_74 : decode b_WF_law 74 = .ok (.getfield 59, 3) := dc_180 (by decide +kernel)
theorem d_WF_law_77 : decode b_WF_law 77 = .ok (.getfield 218, 3) := dc_180 (by decide +kernel)
theorem d_WF_law_80 : decode b_WF_law 80 = .ok (.invokevirtual 246, 3) := dc_182 (by decide +kernel)
theorem d_WF_law_83 : decode b_WF_law 83 = .ok (.lreturn, 1) := dc_173 (by decide +kernel)
def t_WF_law (M : Mem) (x1 : Int) (x2 : Int) (x3 : Int) : Option (Mem × Int64) := (if x1 = 0 then (obind (t_Laws_pushFrom M ((M.1 0 4).toNat) 47 x2 x3 (M.1 62 3)) fun q16 => (some ((q16.1), (q16.2)))) else (if x1 = 1 then (qlet (t_Town_hasWard M ((M.1 0 4).toNat) x2) fun q4 => (if q4 = 0 then (some (M, (-9223372036854775808))) else (obind (t_Laws_measure M ((M.1 0 4).toNat) 47) fun q8 => (obind (t_Laws_joyTold q8 ((q8.1 0 4).toNat) x2 (q8.1 62 3)) fun q12 => (some ((q12.1), (q12.2))))))) else (some (M, (-9223372036854775808)))))
set_option maxHeartbeats 4000000 in
set_option maxRecDepth 100000 in
theorem c_WF_law (l : Launch) {b n : Nat} {C : CT} (hlo : 191 ≤ n) (M : Mem) (x1 : Int) (x2 : Int) (x3 : Int) (hx1 : InR x1) (hx2 : InR x2) (hx3 : InR x3) (res : Mem × Int64) (hT : t_WF_law M x1 x2 x3 = some res) : CM l b C n 5 y_WF_law b_WF_law 4 (some .long) [.ref (b + 0), vI x1, vI x2, vI x3] M (QL b C n res.1 res.2) := by
  refine CM.of (lo := 191) (ow := "WardFalls") (by decide) rfl (Nat.le_of_ble_eq_true rfl) hlo (fun p e s m below meth c F hlk hr hS ls hl => ?_)
  have hl : lv_has ls 4 [(0, .ref (b + 0)), (1, vI x1), (2, vI x2), (3, vI x3)] := hl
  unfold t_WF_law at hT
  refine lv_iload_n F.hx F.hb d_WF_law_0 rfl (lv_at hl 1 rfl) ?_
  refine r_if_ne (tgt := 29) F.hx F.hb hx1 d_WF_law_1 (by decide) (fun c1 => ?_) (fun c1 => ?_)
  · replace hT := (if_neg c1).symm.trans hT
    refine lv_iload_n F.hx F.hb d_WF_law_29 rfl (lv_at hl 1 rfl) ?_
    refine r_iconst F.hx F.hb d_WF_law_30 ?_
    refine r_icmp_ne (tgt := 45) F.hx F.hb hx1 (inr_c rfl) d_WF_law_31 (by decide) (fun c2 => ?_) (fun c2 => ?_)
    · replace hT := (if_neg c2).symm.trans hT
      refine lv_ldc2 (v := (-9223372036854775808)) F.hx F.hb F.hown (F.hts mw_953) d_WF_law_45 ?_
      cases hT
      exact r_lret F hlk hr hS d_WF_law_48
    · replace hT := (if_pos c2).symm.trans hT
      refine lv_aload_n F.hx F.hb d_WF_law_34 rfl (lv_at hl 0 rfl) ?_
      have h3 := St_town hS
      refine r_get (v := .ref (b + ((M.1 0 4).toNat))) (N := 19) (T := T0) (j := 4) F hS (show 0 < 191 by decide) (show shK 0 = 4 from rfl) (show shN 0 = 19 from rfl) rfl (Nat.le_of_ble_eq_true rfl) ing0 mw_554 (fv_town hS) d_WF_law_35 ?_
      refine lv_iload_n F.hx F.hb d_WF_law_38 rfl (lv_at hl 2 rfl) ?_
      obtain ⟨q4, hq4⟩ : ∃ q, q = (t_Town_hasWard M ((M.1 0 4).toNat) x2) := ⟨_, rfl⟩
      replace hT := qlet_eq hT hq4
      refine r_backZ F hS (r_runV (k := ((M.1 0 4).toNat)) (N := 20) (T := T11) (As := [vI x2]) F hS (Town_lt h3) (Town_sh h3) rfl (c_Town_hasWard l F.2.2.1 M ((M.1 0 4).toNat) x2 h3 hx2 _ hq4.symm) gs_WF_198 hd_Town_hasWard ⟨Nat.le_of_ble_eq_true rfl, Nat.le_of_ble_eq_true rfl⟩ rfl hl.1 (Nat.le_of_ble_eq_true rfl) ⟨Nat.zero_le _, Nat.zero_le _⟩ rfl d_WF_law_39) (fun H locs hS h5 => ?_)
      refine r_if_ne (tgt := 49) F.hx F.hb (inr_z h5) d_WF_law_42 (by decide) (fun c6 => ?_) (fun c6 => ?_)
      · replace hT := (if_neg c6).symm.trans hT
        refine lv_aload_n F.hx F.hb d_WF_law_49 rfl (lv_at hl 0 rfl) ?_
        refine r_get (v := .ref (b + 177)) (N := 19) (T := T0) (j := 16) F hS (show 0 < 191 by decide) (show shK 0 = 4 from rfl) (show shN 0 = 19 from rfl) rfl (Nat.le_of_ble_eq_true rfl) ing0 mw_566 (fv_sg rfl rfl rfl) d_WF_law_50 ?_
        refine lv_aload_n F.hx F.hb d_WF_law_53 rfl (lv_at hl 0 rfl) ?_
        have h7 := St_town hS
        refine r_get (v := .ref (b + ((M.1 0 4).toNat))) (N := 19) (T := T0) (j := 4) F hS (show 0 < 191 by decide) (show shK 0 = 4 from rfl) (show shN 0 = 19 from rfl) rfl (Nat.le_of_ble_eq_true rfl) ing0 mw_554 (fv_town hS) d_WF_law_54 ?_
        refine lv_aload_n F.hx F.hb d_WF_law_57 rfl (lv_at hl 0 rfl) ?_
        refine r_get (v := .ref (b + 47)) (N := 19) (T := T0) (j := 8) F hS (show 0 < 191 by decide) (show shK 0 = 4 from rfl) (show shN 0 = 19 from rfl) rfl (Nat.le_of_ble_eq_true rfl) ing0 mw_558 (fv_sg rfl rfl rfl) d_WF_law_58 ?_
        obtain ⟨q8, hq8, hT⟩ := q_obind hT
        refine r_backV F hS (r_runV (k := 177) (N := 9) (T := T4) (As := [.ref (b + ((M.1 0 4).toNat)), .ref (b + 47)]) F hS (show 177 < 191 by decide) (show shK 177 = 8 from rfl) rfl (c_Laws_measure l F.2.2.1 M ((M.1 0 4).toNat) 47 h7 (by decide : isScene 47) _ hq8) gs_WF_214 hd_Laws_measure ⟨Nat.le_of_ble_eq_true rfl, Nat.le_of_ble_eq_true rfl⟩ rfl hl.1 (Nat.le_of_ble_eq_true rfl) ⟨Nat.zero_le _, Nat.zero_le _⟩ rfl d_WF_law_61) (fun H locs hS => ?_)
        refine lv_aload_n F.hx F.hb d_WF_law_64 rfl (lv_at hl 0 rfl) ?_
        refine r_get (v := .ref (b + 177)) (N := 19) (T := T0) (j := 16) F hS (show 0 < 191 by decide) (show shK 0 = 4 from rfl) (show shN 0 = 19 from rfl) rfl (Nat.le_of_ble_eq_true rfl) ing0 mw_566 (fv_sg rfl rfl rfl) d_WF_law_65 ?_
        refine lv_aload_n F.hx F.hb d_WF_law_68 rfl (lv_at hl 0 rfl) ?_
        have h10 := St_town hS
        refine r_get (v := .ref (b + ((q8.1 0 4).toNat))) (N := 19) (T := T0) (j := 4) F hS (show 0 < 191 by decide) (show shK 0 = 4 from rfl) (show shN 0 = 19 from rfl) rfl (Nat.le_of_ble_eq_true rfl) ing0 mw_554 (fv_town hS) d_WF_law_69 ?_
        refine lv_iload_n F.hx F.hb d_WF_law_72 rfl (lv_at hl 2 rfl) ?_
        refine lv_aload_n F.hx F.hb d_WF_law_73 rfl (lv_at hl 0 rfl) ?_
        refine r_get (v := .ref (b + 62)) (N := 19) (T := T0) (j := 11) F hS (show 0 < 191 by decide) (show shK 0 = 4 from rfl) (show shN 0 = 19 from rfl) rfl (Nat.le_of_ble_eq_true rfl) ing0 mw_561 (fv_sg rfl rfl rfl) d_WF_law_74 ?_
        refine r_get (v := vI (q8.1 62 3)) (N := 6) (T := T2) (j := 3) F hS (show 62 < 191 by decide) (show shK 62 = 6 from rfl) (show shN 62 = 6 from rfl) rfl (Nat.le_of_ble_eq_true rfl) ing2 mw_321 (fv_int rfl) d_WF_law_77 ?_
        have i11 := hS.rng 62 3
        obtain ⟨q12, hq12, hT⟩ := q_obind hT
        refine r_backL F hS (r_runV (k := 177) (N := 9) (T := T4) (As := [.ref (b + ((q8.1 0 4).toNat)), vI x2, vI (q8.1 62 3)]) F hS (show 177 < 191 by decide) (show shK 177 = 8 from rfl) rfl (c_Laws_joyTold l F.2.2.1 q8 ((q8.1 0 4).toNat) x2 (q8.1 62 3) h10 hx2 i11 _ hq12) gs_WF_246 hd_Laws_joyTold ⟨Nat.le_of_ble_eq_true rfl, Nat.le_of_ble_eq_true rfl⟩ rfl hl.1 (Nat.le_of_ble_eq_true rfl) ⟨Nat.zero_le _, Nat.zero_le _⟩ rfl d_WF_law_80) (fun H locs hS => ?_)
        cases hT
        exact r_lret F hlk hr hS d_WF_law_83
      · replace hT := (if_pos c6).symm.trans hT
        refine lv_ldc2 (v := (-9223372036854775808)) F.hx F.hb F.hown (F.hts mw_953) d_WF_law_45 ?_
        cases hT
        exact r_lret F hlk hr hS d_WF_law_48
  · replace hT := (if_pos c1).symm.trans hT
    refine lv_aload_n F.hx F.hb d_WF_law_4 rfl (lv_at hl 0 rfl) ?_
    refine r_get (v := .ref (b + 177)) (N := 19) (T := T0) (j := 16) F hS (show 0 < 191 by decide) (show shK 0 = 4 from rfl) (show shN 0 = 19 from rfl) rfl (Nat.le_of_ble_eq_true rfl) ing0 mw_566 (fv_sg rfl rfl rfl) d_WF_law_5 ?_
    refine lv_aload_n F.hx F.hb d_WF_law_8 rfl (lv_at hl 0 rfl) ?_
    have h14 := St_town hS
    refine r_get (v := .ref (b + ((M.1 0 4).toNat))) (N := 19) (T := T0) (j := 4) F hS (show 0 < 191 by decide) (show shK 0 = 4 from rfl) (show shN 0 = 19 from rfl) rfl (Nat.le_of_ble_eq_true rfl) ing0 mw_554 (fv_town hS) d_WF_law_9 ?_
    refine lv_aload_n F.hx F.hb d_WF_law_12 rfl (lv_at hl 0 rfl) ?_
    refine r_get (v := .ref (b + 47)) (N := 19) (T := T0) (j := 8) F hS (show 0 < 191 by decide) (show shK 0 = 4 from rfl) (show shN 0 = 19 from rfl) rfl (Nat.le_of_ble_eq_true rfl) ing0 mw_558 (fv_sg rfl rfl rfl) d_WF_law_13 ?_
    refine lv_iload_n F.hx F.hb d_WF_law_16 rfl (lv_at hl 2 rfl) ?_
    refine lv_iload_n F.hx F.hb d_WF_law_17 rfl (lv_at hl 3 rfl) ?_
    refine lv_aload_n F.hx F.hb d_WF_law_18 rfl (lv_at hl 0 rfl) ?_
    refine r_get (v := .ref (b + 62)) (N := 19) (T := T0) (j := 11) F hS (show 0 < 191 by decide) (show shK 0 = 4 from rfl) (show shN 0 = 19 from rfl) rfl (Nat.le_of_ble_eq_true rfl) ing0 mw_561 (fv_sg rfl rfl rfl) d_WF_law_19 ?_
    refine r_get (v := vI (M.1 62 3)) (N := 6) (T := T2) (j := 3) F hS (show 62 < 191 by decide) (show shK 62 = 6 from rfl) (show shN 62 = 6 from rfl) rfl (Nat.le_of_ble_eq_true rfl) ing2 mw_321 (fv_int rfl) d_WF_law_22 ?_
    have i15 := hS.rng 62 3
    obtain ⟨q16, hq16, hT⟩ := q_obind hT
    refine r_backL F hS (r_runV (k := 177) (N := 9) (T := T4) (As := [.ref (b + ((M.1 0 4).toNat)), .ref (b + 47), vI x2, vI x3, vI (M.1 62 3)]) F hS (show 177 < 191 by decide) (show shK 177 = 8 from rfl) rfl (c_Laws_pushFrom l F.2.2.1 M ((M.1 0 4).toNat) 47 x2 x3 (M.1 62 3) h14 (by decide : isScene 47) hx2 hx3 i15 _ hq16) gs_WF_240 hd_Laws_pushFrom ⟨Nat.le_of_ble_eq_true rfl, Nat.le_of_ble_eq_true rfl⟩ rfl hl.1 (Nat.le_of_ble_eq_true rfl) ⟨Nat.zero_le _, Nat.zero_le _⟩ rfl d_WF_law_25) (fun H locs hS => ?_)
    cases hT
    exact r_lret F hlk hr hS d_WF_law_28
theorem d_WF_isFree_0 : decode b_WF_isFree 0 = .ok (.aload_n 0, 1) := dc_42 (by decide +kernel)
theorem d_WF_isFree_1 : decode b_WF_isFree 1 = .ok (.getfield 22, 3) := dc_180 (by decide +kernel)
theorem d_WF_isFree_4 : decode b_WF_isFree 4 = .ok (.iload_n 1, 1) := dc_27 (by decide +kernel)
theorem d_WF_isFree_5 : decode b_WF_isFree 5 = .ok (.invokevirtual 150, 3) := dc_182 (by decide +kernel)
theorem d_WF_isFree_8 : decode b_WF_isFree 8 = .ok (.ifCond .eq 21, 3) := dc_153 (by decide +kernel)
theorem d_WF_isFree_11 : decode b_WF_isFree 11 = .ok (.aload_n 0, 1) := dc_42 (by decide +kernel)
theorem d_WF_isFree_12 : decode b_WF_isFree 12 = .ok (.getfield 46, 3) := dc_180 (by decide +kernel)
theorem d_WF_isFree_15 : decode b_WF_isFree 15 = .ok (.getfield 165, 3) := dc_180 (by decide +kernel)
theorem d_WF_isFree_18 : decode b_WF_isFree 18 = .ok (.iload_n 1, 1) := dc_27 (by decide +kernel)
theorem d_WF_isFree_19 : decode b_WF_isFree 19 = .ok (.invokestatic 169, 3) := dc_184 (by decide +kernel)
theorem d_WF_isFree_22 : decode b_WF_isFree 22 = .ok (.ifCond .ne 7, 3) := dc_154 (by decide +kernel)
theorem d_WF_isFree_25 : decode b_WF_isFree 25 = .ok (.iconst 1, 1) := dc_4 (by decide +kernel)
theorem d_WF_isFree_26 : decode b_WF_isFree 26 = .ok (.goto 4, 3) := dc_167 (by decide +kernel)
theorem d_WF_isFree_29 : decode b_WF_isFree 29 = .ok (.iconst 0, 1) := dc_3 (by decide +kernel)
theorem d_WF_isFree_30 : decode b_WF_isFree 30 = .ok (.ireturn, 1) := dc_172 (by decide +kernel)
def t_WF_isFree (M : Mem) (x1 : Int) : Int := (qlet (t_Town_hasCell M ((M.1 0 4).toNat) x1) fun q2 => (if q2 = 0 then 0 else (qlet (t_WF_bitOf M (M.2 47 4) x1) fun q5 => (if q5 = 0 then 1 else 0))))
set_option maxHeartbeats 4000000 in
set_option maxRecDepth 100000 in
theorem c_WF_isFree (l : Launch) {b n : Nat} {C : CT} (hlo : 191 ≤ n) (M : Mem) (x1 : Int) (hx1 : InR x1) (res : Int) (hT : t_WF_isFree M x1 = res) : CM l b C n 1 y_WF_isFree b_WF_isFree 2 (some .boolean) [.ref (b + 0), vI x1] M (QZ b C n M res) := by
  refine CM.of (lo := 191) (ow := "WardFalls") (by decide) rfl (Nat.le_of_ble_eq_true rfl) hlo (fun p e s m below meth c F hlk hr hS ls hl => ?_)
  have hl : lv_has ls 2 [(0, .ref (b + 0)), (1, vI x1)] := hl
  unfold t_WF_isFree at hT
  refine lv_aload_n F.hx F.hb d_WF_isFree_0 rfl (lv_at hl 0 rfl) ?_
  have h1 := St_town hS
  refine r_get (v := .ref (b + ((M.1 0 4).toNat))) (N := 19) (T := T0) (j := 4) F hS (show 0 < 191 by decide) (show shK 0 = 4 from rfl) (show shN 0 = 19 from rfl) rfl (Nat.le_of_ble_eq_true rfl) ing0 mw_554 (fv_town hS) d_WF_isFree_1 ?_
  refine lv_iload_n F.hx F.hb d_WF_isFree_4 rfl (lv_at hl 1 rfl) ?_
  obtain ⟨q2, hq2⟩ : ∃ q, q = (t_Town_hasCell M ((M.1 0 4).toNat) x1) := ⟨_, rfl⟩
  replace hT := qlet_eq hT hq2
  refine r_backZ F hS (r_runV (k := ((M.1 0 4).toNat)) (N := 20) (T := T11) (As := [vI x1]) F hS (Town_lt h1) (Town_sh h1) rfl (c_Town_hasCell l F.2.2.1 M ((M.1 0 4).toNat) x1 h1 hx1 _ hq2.symm) gs_WF_150 hd_Town_hasCell ⟨Nat.le_of_ble_eq_true rfl, Nat.le_of_ble_eq_true rfl⟩ rfl hl.1 (Nat.le_of_ble_eq_true rfl) ⟨Nat.zero_le _, Nat.zero_le _⟩ rfl d_WF_isFree_5) (fun H locs hS h3 => ?_)
  refine r_if_eq (tgt := 29) F.hx F.hb (inr_z h3) d_WF_isFree_8 (by decide) (fun c4 => ?_) (fun c4 => ?_)
  · replace hT := (if_pos c4).symm.trans hT
    refine r_iconst F.hx F.hb d_WF_isFree_29 ?_
    subst hT
    exact r_zret F hlk hr hS (Or.inl rfl) d_WF_isFree_30
  · replace hT := (if_neg c4).symm.trans hT
    refine lv_aload_n F.hx F.hb d_WF_isFree_11 rfl (lv_at hl 0 rfl) ?_
    refine r_get (v := .ref (b + 47)) (N := 19) (T := T0) (j := 8) F hS (show 0 < 191 by decide) (show shK 0 = 4 from rfl) (show shN 0 = 19 from rfl) rfl (Nat.le_of_ble_eq_true rfl) ing0 mw_558 (fv_sg rfl rfl rfl) d_WF_isFree_12 ?_
    refine r_get (v := .long (M.2 47 4)) (N := 7) (T := T9) (j := 4) F hS (show 47 < 191 by decide) (show shK 47 = 13 from rfl) (show shN 47 = 7 from rfl) rfl (Nat.le_of_ble_eq_true rfl) ing9 mw_287 (fv_long rfl) d_WF_isFree_15 ?_
    refine lv_iload_n F.hx F.hb d_WF_isFree_18 rfl (lv_at hl 1 rfl) ?_
    obtain ⟨q5, hq5⟩ : ∃ q, q = (t_WF_bitOf M (M.2 47 4) x1) := ⟨_, rfl⟩
    replace hT := qlet_eq hT hq5
    refine r_backI F hS (r_runS (As := [.long (M.2 47 4), vI x1]) F hS (c_WF_bitOf l F.2.2.1 M (M.2 47 4) x1 hx1 _ hq5.symm) gs_WF_169 hd_WF_bitOf ⟨Nat.le_of_ble_eq_true rfl, Nat.le_of_ble_eq_true rfl⟩ rfl hl.1 (Nat.le_of_ble_eq_true rfl) ⟨Nat.zero_le _, Nat.zero_le _⟩ rfl d_WF_isFree_19) (fun H locs hS h6 => ?_)
    refine r_if_ne (tgt := 29) F.hx F.hb h6 d_WF_isFree_22 (by decide) (fun c7 => ?_) (fun c7 => ?_)
    · replace hT := (if_neg c7).symm.trans hT
      refine r_iconst F.hx F.hb d_WF_isFree_29 ?_
      subst hT
      exact r_zret F hlk hr hS (Or.inl rfl) d_WF_isFree_30
    · replace hT := (if_pos c7).symm.trans hT
      refine r_iconst F.hx F.hb d_WF_isFree_25 ?_
      refine lv_goto (tgt := 30) F.hx F.hb d_WF_isFree_26 (by decide) ?_
      subst hT
      exact r_zret F hlk hr hS (Or.inr rfl) d_WF_isFree_30
theorem d_WF_rest_0 : decode b_WF_rest 0 = .ok (.aload_n 0, 1) := dc_42 (by decide +kernel)
theorem d_WF_rest_1 : decode b_WF_rest 1 = .ok (.iload_n 1, 1) := dc_27 (by decide +kernel)
theorem d_WF_rest_2 : decode b_WF_rest 2 = .ok (.invokevirtual 250, 3) := dc_182 (by decide +kernel)
theorem d_WF_rest_5 : decode b_WF_rest 5 = .ok (.ifCond .ne 5, 3) := dc_154 (by decide +kernel)
theorem d_WF_rest_8 : decode b_WF_rest 8 = .ok (.iconst (-1), 1) := dc_2 (by decide +kernel)
theorem d_WF_rest_9 : decode b_WF_rest 9 = .ok (.ireturn, 1) := dc_172 (by decide +kernel)
theorem d_WF_rest_10 : decode b_WF_rest 10 = .ok (.aload_n 0, 1) := dc_42 (by decide +kernel)
theorem d_WF_rest_11 : decode b_WF_rest 11 = .ok (.getfield 97, 3) := dc_180 (by decide +kernel)
theorem d_WF_rest_14 : decode b_WF_rest 14 = .ok (.aload_n 0, 1) := dc_42 (by decide +kernel)
theorem d_WF_rest_15 : decode b_WF_rest 15 = .ok (.getfield 22, 3) := dc_180 (by decide +kernel)
theorem d_WF_rest_18 : decode b_WF_rest 18 = .ok (.aload_n 0, 1) := dc_42 (by decide +kernel)
theorem d_WF_rest_19 : decode b_WF_rest 19 = .ok (.getfield 46, 3) := dc_180 (by decide +kernel)
theorem d_WF_rest_22 : decode b_WF_rest 22 = .ok (.iload_n 1, 1) := dc_27 (by decide +kernel)
theorem d_WF_rest_23 : decode b_WF_rest 23 = .ok (.invokevirtual 253, 3) := dc_182 (by decide +kernel)
theorem d_WF_rest_26 : decode b_WF_rest 26 = .ok (.aload_n 0, 1) := dc_42 (by decide +kernel)
theorem d_WF_rest_27 : decode b_WF_rest 27 = .ok (.getfield 97, 3) := dc_180 (by decide +kernel)
theorem d_WF_rest_30 : decode b_WF_rest 30 = .ok (.invokevirtual 257, 3) := dc_182 (by decide +kernel)
theorem d_WF_rest_33 : decode b_WF_rest 33 = .ok (.ireturn, 1) := dc_172 (by decide +kernel)
def t_WF_rest (M : Mem) (x1 : Int) : Option (Mem × Int) := (qlet (t_WF_isFree M x1) fun q1 => (if q1 = 0 then (some (M, (-1))) else (obind (t_Trail_follow M 189 ((M.1 0 4).toNat) 47 x1) fun q5 => (qlet (t_Trail_end q5 189) fun q7 => (some (q5, q7))))))
set_option maxHeartbeats 4000000 in
set_option maxRecDepth 100000 in
theorem c_WF_rest (l : Launch) {b n : Nat} {C : CT} (hlo : 191 ≤ n) (M : Mem) (x1 : Int) (hx1 : InR x1) (res : Mem × Int) (hT : t_WF_rest M x1 = some res) : CM l b C n 4 y_WF_rest b_WF_rest 2 (some .int) [.ref (b + 0), vI x1] M (QI b C n res.1 res.2) := by
  refine CM.of (lo := 191) (ow := "WardFalls") (by decide) rfl (Nat.le_of_ble_eq_true rfl) hlo (fun p e s m below meth c F hlk hr hS ls hl => ?_)
  have hl : lv_has ls 2 [(0, .ref (b + 0)), (1, vI x1)] := hl
  unfold t_WF_rest at hT
  refine lv_aload_n F.hx F.hb d_WF_rest_0 rfl (lv_at hl 0 rfl) ?_
  refine lv_iload_n F.hx F.hb d_WF_rest_1 rfl (lv_at hl 1 rfl) ?_
  obtain ⟨q1, hq1⟩ : ∃ q, q = (t_WF_isFree M x1) := ⟨_, rfl⟩
  replace hT := qlet_eq hT hq1
  refine r_backZ F hS (r_runV (k := 0) (N := 19) (T := T0) (As := [vI x1]) F hS (show 0 < 191 by decide) (show shK 0 = 4 from rfl) rfl (c_WF_isFree l F.2.2.1 M x1 hx1 _ hq1.symm) gs_WF_250 hd_WF_isFree ⟨Nat.le_of_ble_eq_true rfl, Nat.le_of_ble_eq_true rfl⟩ rfl hl.1 (Nat.le_of_ble_eq_true rfl) ⟨Nat.zero_le _, Nat.zero_le _⟩ rfl d_WF_rest_2) (fun H locs hS h2 => ?_)
  refine r_if_ne (tgt := 10) F.hx F.hb (inr_z h2) d_WF_rest_5 (by decide) (fun c3 => ?_) (fun c3 => ?_)
  · replace hT := (if_neg c3).symm.trans hT
    refine lv_aload_n F.hx F.hb d_WF_rest_10 rfl (lv_at hl 0 rfl) ?_
    refine r_get (v := .ref (b + 189)) (N := 19) (T := T0) (j := 18) F hS (show 0 < 191 by decide) (show shK 0 = 4 from rfl) (show shN 0 = 19 from rfl) rfl (Nat.le_of_ble_eq_true rfl) ing0 mw_568 (fv_sg rfl rfl rfl) d_WF_rest_11 ?_
    refine lv_aload_n F.hx F.hb d_WF_rest_14 rfl (lv_at hl 0 rfl) ?_
    have h4 := St_town hS
    refine r_get (v := .ref (b + ((M.1 0 4).toNat))) (N := 19) (T := T0) (j := 4) F hS (show 0 < 191 by decide) (show shK 0 = 4 from rfl) (show shN 0 = 19 from rfl) rfl (Nat.le_of_ble_eq_true rfl) ing0 mw_554 (fv_town hS) d_WF_rest_15 ?_
    refine lv_aload_n F.hx F.hb d_WF_rest_18 rfl (lv_at hl 0 rfl) ?_
    refine r_get (v := .ref (b + 47)) (N := 19) (T := T0) (j := 8) F hS (show 0 < 191 by decide) (show shK 0 = 4 from rfl) (show shN 0 = 19 from rfl) rfl (Nat.le_of_ble_eq_true rfl) ing0 mw_558 (fv_sg rfl rfl rfl) d_WF_rest_19 ?_
    refine lv_iload_n F.hx F.hb d_WF_rest_22 rfl (lv_at hl 1 rfl) ?_
    obtain ⟨q5, hq5, hT⟩ := q_obind hT
    refine r_backV F hS (r_runV (k := 189) (N := 9) (T := T12) (As := [.ref (b + ((M.1 0 4).toNat)), .ref (b + 47), vI x1]) F hS (show 189 < 191 by decide) (show shK 189 = 16 from rfl) rfl (c_Trail_follow l F.2.2.1 M 189 ((M.1 0 4).toNat) 47 x1 (by decide : isTrail 189) h4 (by decide : isScene 47) hx1 _ hq5) gs_WF_253 hd_Trail_follow ⟨Nat.le_of_ble_eq_true rfl, Nat.le_of_ble_eq_true rfl⟩ rfl hl.1 (Nat.le_of_ble_eq_true rfl) ⟨Nat.zero_le _, Nat.zero_le _⟩ rfl d_WF_rest_23) (fun H locs hS => ?_)
    refine lv_aload_n F.hx F.hb d_WF_rest_26 rfl (lv_at hl 0 rfl) ?_
    refine r_get (v := .ref (b + 189)) (N := 19) (T := T0) (j := 18) F hS (show 0 < 191 by decide) (show shK 0 = 4 from rfl) (show shN 0 = 19 from rfl) rfl (Nat.le_of_ble_eq_true rfl) ing0 mw_568 (fv_sg rfl rfl rfl) d_WF_rest_27 ?_
    obtain ⟨q7, hq7⟩ : ∃ q, q = (t_Trail_end q5 189) := ⟨_, rfl⟩
    replace hT := qlet_eq hT hq7
    refine r_backI F hS (r_runV (k := 189) (N := 9) (T := T12) (As := []) F hS (show 189 < 191 by decide) (show shK 189 = 16 from rfl) rfl (c_Trail_end l F.2.2.1 q5 189 (by decide : isTrail 189) _ hq7.symm) gs_WF_257 hd_Trail_end ⟨Nat.le_of_ble_eq_true rfl, Nat.le_of_ble_eq_true rfl⟩ rfl hl.1 (Nat.le_of_ble_eq_true rfl) ⟨Nat.zero_le _, Nat.zero_le _⟩ rfl d_WF_rest_30) (fun H locs hS h8 => ?_)
    cases hT
    exact r_iret F hlk hr rfl hS h8 d_WF_rest_33
  · replace hT := (if_pos c3).symm.trans hT
    refine r_iconst F.hx F.hb d_WF_rest_8 ?_
    cases hT
    exact r_iret F hlk hr rfl hS (inr_c rfl) d_WF_rest_9
theorem d_Trail_cellAt_0 : decode b_Trail_cellAt 0 = .ok (.iload_n 1, 1) := dc_27 (by decide +kernel)
theorem d_Trail_cellAt_1 : decode b_Trail_cellAt 1 = .ok (.aload_n 0, 1) := dc_42 (by decide +kernel)
theorem d_Trail_cellAt_2 : decode b_Trail_cellAt 2 = .ok (.getfield 15, 3) := dc_180 (by decide +kernel)
theorem d_Trail_cellAt_5 : decode b_Trail_cellAt 5 = .ok (.if_icmp .ge 12, 3) := dc_162 (by decide +kernel)
theorem d_Trail_cellAt_8 : decode b_Trail_cellAt 8 = .ok (.aload_n 0, 1) := dc_42 (by decide +kernel)
theorem d_Trail_cellAt_9 : decode b_Trail_cellAt 9 = .ok (.getfield 9, 3) := dc_180 (by decide +kernel)
theorem d_Trail_cellAt_12 : decode b_Trail_cellAt 12 = .ok (.iload_n 1, 1) := dc_27 (by decide +kernel)
theorem d_Trail_cellAt_13 : decode b_Trail_cellAt 13 = .ok (.invokestatic 52, 3) := dc_184 (by decide +kernel)
theorem d_Trail_cellAt_16 : decode b_Trail_cellAt 16 = .ok (.ireturn, 1) := dc_172 (by decide +kernel)
theorem d_Trail_cellAt_17 : decode b_Trail_cellAt 17 = .ok (.aload_n 0, 1) := dc_42 (by decide +kernel)
theorem d_Trail_cellAt_18 : decode b_Trail_cellAt 18 = .ok (.getfield 19, 3) := dc_180 (by decide +kernel)
theorem d_Trail_cellAt_21 : decode b_Trail_cellAt 21 = .ok (.ifCond .le 29, 3) := dc_158 (by decide +kernel)
theorem d_Trail_cellAt_24 : decode b_Trail_cellAt 24 = .ok (.aload_n 0, 1) := dc_42 (by decide +kernel)
theorem d_Trail_cellAt_25 : decode b_Trail_cellAt 25 = .ok (.getfield 9, 3) := dc_180 (by decide +kernel)
theorem d_Trail_cellAt_28 : decode b_Trail_cellAt 28 = .ok (.aload_n 0, 1) := dc_42 (by decide +kernel)
theorem d_Trail_cellAt_29 : decode b_Trail_cellAt 29 = .ok (.getfield 29, 3) := dc_180 (by decide +kernel)
theorem d_Trail_cellAt_32 : decode b_Trail_cellAt 32 = .ok (.iload_n 1, 1) := dc_27 (by decide +kernel)
theorem d_Trail_cellAt_33 : decode b_Trail_cellAt 33 = .ok (.aload_n 0, 1) := dc_42 (by decide +kernel)
theorem d_Trail_cellAt_34 : decode b_Trail_cellAt 34 = .ok (.getfield 29, 3) := dc_180 (by decide +kernel)
theorem d_Trail_cellAt_37 : decode b_Trail_cellAt 37 = .ok (.isub, 1) := dc_100 (by decide +kernel)
theorem d_Trail_cellAt_38 : decode b_Trail_cellAt 38 = .ok (.aload_n 0, 1) := dc_42 (by decide +kernel)
theorem d_Trail_cellAt_39 : decode b_Trail_cellAt 39 = .ok (.getfield 19, 3) := dc_180 (by decide +kernel)
theorem d_Trail_cellAt_42 : decode b_Trail_cellAt 42 = .ok (.irem, 1) := dc_112 (by decide +kernel)
theorem d_Trail_cellAt_43 : decode b_Trail_cellAt 43 = .ok (.iadd, 1) := dc_96 (by decide +kernel)
theorem d_Trail_cellAt_44 : decode b_Trail_cellAt 44 = .ok (.invokestatic 52, 3) := dc_184 (by decide +kernel)
theorem d_Trail_cellAt_47 : decode b_Trail_cellAt 47 = .ok (.goto 5, 3) := dc_167 (by decide +kernel)
theorem d_Trail_cellAt_50 : decode b_Trail_cellAt 50 = .ok (.bipush (-2), 2) := dc_16 (by decide +kernel)
theorem d_Trail_cellAt_52 : decode b_Trail_cellAt 52 = .ok (.ireturn, 1) := dc_172 (by decide +kernel)
def t_Trail_cellAt (M : Mem) (k0 : Nat) (x1 : Int) : Option (Int) := (if (M.1 k0 1) ≤ x1 then (if (M.1 k0 3) ≤ 0 then (some (-2)) else (if (M.1 k0 3) = 0 then none else (qlet (t_WF_look M (k0 + 1) 48 (w32 ((M.1 k0 2) + (q_rem (w32 (x1 - (M.1 k0 2))) (M.1 k0 3))))) fun q9 => (some q9)))) else (qlet (t_WF_look M (k0 + 1) 48 x1) fun q11 => (some q11)))
set_option maxHeartbeats 4000000 in
set_option maxRecDepth 100000 in
theorem c_Trail_cellAt (l : Launch) {b n : Nat} {C : CT} (hlo : 191 ≤ n) (M : Mem) (k0 : Nat) (x1 : Int) (hk0 : isTrail k0) (hx1 : InR x1) (res : Int) (hT : t_Trail_cellAt M k0 x1 = some res) : CM l b C n 1 y_Trail_cellAt b_Trail_cellAt 2 (some .int) [.ref (b + k0), vI x1] M (QI b C n M res) := by
  refine CM.of (lo := 191) (ow := "WardFalls$Trail") (by decide) rfl (Nat.le_of_ble_eq_true rfl) hlo (fun p e s m below meth c F hlk hr hS ls hl => ?_)
  have hl : lv_has ls 2 [(0, .ref (b + k0)), (1, vI x1)] := hl
  unfold t_Trail_cellAt at hT
  refine lv_iload_n F.hx F.hb d_Trail_cellAt_0 rfl (lv_at hl 1 rfl) ?_
  refine lv_aload_n F.hx F.hb d_Trail_cellAt_1 rfl (lv_at hl 0 rfl) ?_
  refine r_get (v := vI (M.1 k0 1)) (N := 9) (T := T12) (j := 1) F hS (Trail_lt hk0) (Trail_sh hk0) (Trail_N hk0) rfl (Nat.le_of_ble_eq_true rfl) ing12 mw_403 (fv_int rfl) d_Trail_cellAt_2 ?_
  have i1 := hS.rng k0 1
  refine r_icmp_ge (tgt := 17) F.hx F.hb hx1 i1 d_Trail_cellAt_5 (by decide) (fun c2 => ?_) (fun c2 => ?_)
  · replace hT := (if_pos c2).symm.trans hT
    refine lv_aload_n F.hx F.hb d_Trail_cellAt_17 rfl (lv_at hl 0 rfl) ?_
    refine r_get (v := vI (M.1 k0 3)) (N := 9) (T := T12) (j := 3) F hS (Trail_lt hk0) (Trail_sh hk0) (Trail_N hk0) rfl (Nat.le_of_ble_eq_true rfl) ing12 mw_406 (fv_int rfl) d_Trail_cellAt_18 ?_
    have i3 := hS.rng k0 3
    refine r_if_le (tgt := 50) F.hx F.hb i3 d_Trail_cellAt_21 (by decide) (fun c4 => ?_) (fun c4 => ?_)
    · replace hT := (if_pos c4).symm.trans hT
      refine r_bipush F.hx F.hb d_Trail_cellAt_50 rfl ?_
      cases hT
      exact r_iret F hlk hr rfl hS (inr_c rfl) d_Trail_cellAt_52
    · replace hT := (if_neg c4).symm.trans hT
      refine lv_aload_n F.hx F.hb d_Trail_cellAt_24 rfl (lv_at hl 0 rfl) ?_
      refine r_get (v := .ref (b + (k0 + 1))) (N := 9) (T := T12) (j := 0) F hS (Trail_lt hk0) (Trail_sh hk0) (Trail_N hk0) rfl (Nat.le_of_ble_eq_true rfl) ing12 mw_402 (Trail_g0 hk0 _) d_Trail_cellAt_25 ?_
      refine lv_aload_n F.hx F.hb d_Trail_cellAt_28 rfl (lv_at hl 0 rfl) ?_
      refine r_get (v := vI (M.1 k0 2)) (N := 9) (T := T12) (j := 2) F hS (Trail_lt hk0) (Trail_sh hk0) (Trail_N hk0) rfl (Nat.le_of_ble_eq_true rfl) ing12 mw_404 (fv_int rfl) d_Trail_cellAt_29 ?_
      have i5 := hS.rng k0 2
      refine lv_iload_n F.hx F.hb d_Trail_cellAt_32 rfl (lv_at hl 1 rfl) ?_
      refine lv_aload_n F.hx F.hb d_Trail_cellAt_33 rfl (lv_at hl 0 rfl) ?_
      refine r_get (v := vI (M.1 k0 2)) (N := 9) (T := T12) (j := 2) F hS (Trail_lt hk0) (Trail_sh hk0) (Trail_N hk0) rfl (Nat.le_of_ble_eq_true rfl) ing12 mw_404 (fv_int rfl) d_Trail_cellAt_34 ?_
      have i6 := hS.rng k0 2
      refine r_isub F.hx F.hb d_Trail_cellAt_37 ?_
      refine lv_aload_n F.hx F.hb d_Trail_cellAt_38 rfl (lv_at hl 0 rfl) ?_
      refine r_get (v := vI (M.1 k0 3)) (N := 9) (T := T12) (j := 3) F hS (Trail_lt hk0) (Trail_sh hk0) (Trail_N hk0) rfl (Nat.le_of_ble_eq_true rfl) ing12 mw_406 (fv_int rfl) d_Trail_cellAt_39 ?_
      have i7 := hS.rng k0 3
      obtain ⟨c8, hT⟩ := q_guardn hT
      refine r_irem F.hx F.hb i7 c8 d_Trail_cellAt_42 ?_
      refine r_iadd F.hx F.hb d_Trail_cellAt_43 ?_
      obtain ⟨q9, hq9⟩ : ∃ q, q = (t_WF_look M (k0 + 1) 48 (w32 ((M.1 k0 2) + (q_rem (w32 (x1 - (M.1 k0 2))) (M.1 k0 3))))) := ⟨_, rfl⟩
      replace hT := qlet_eq hT hq9
      refine r_backI F hS (r_runSN (As := [.ref (b + (k0 + 1)), vI (w32 ((M.1 k0 2) + (q_rem (w32 (x1 - (M.1 k0 2))) (M.1 k0 3))))]) F hS (c_WF_look l F.2.2.1 M (k0 + 1) 48 (w32 ((M.1 k0 2) + (q_rem (w32 (x1 - (M.1 k0 2))) (M.1 k0 3)))) (Trail_f0 hk0) (inr_w32 _) _ hq9.symm) mw_519 mw_518 mw_1 gs_Trail_52 hd_WF_look ⟨Nat.le_of_ble_eq_true rfl, Nat.le_of_ble_eq_true rfl⟩ rfl hl.1 (Nat.le_of_ble_eq_true rfl) ⟨Nat.zero_le _, Nat.zero_le _⟩ rfl d_Trail_cellAt_44) (fun H locs hS h10 => ?_)
      refine lv_goto (tgt := 52) F.hx F.hb d_Trail_cellAt_47 (by decide) ?_
      cases hT
      exact r_iret F hlk hr rfl hS h10 d_Trail_cellAt_52
  · replace hT := (if_neg c2).symm.trans hT
    refine lv_aload_n F.hx F.hb d_Trail_cellAt_8 rfl (lv_at hl 0 rfl) ?_
    refine r_get (v := .ref (b + (k0 + 1))) (N := 9) (T := T12) (j := 0) F hS (Trail_lt hk0) (Trail_sh hk0) (Trail_N hk0) rfl (Nat.le_of_ble_eq_true rfl) ing12 mw_402 (Trail_g0 hk0 _) d_Trail_cellAt_9 ?_
    refine lv_iload_n F.hx F.hb d_Trail_cellAt_12 rfl (lv_at hl 1 rfl) ?_
    obtain ⟨q11, hq11⟩ : ∃ q, q = (t_WF_look M (k0 + 1) 48 x1) := ⟨_, rfl⟩
    replace hT := qlet_eq hT hq11
    refine r_backI F hS (r_runSN (As := [.ref (b + (k0 + 1)), vI x1]) F hS (c_WF_look l F.2.2.1 M (k0 + 1) 48 x1 (Trail_f0 hk0) hx1 _ hq11.symm) mw_519 mw_518 mw_1 gs_Trail_52 hd_WF_look ⟨Nat.le_of_ble_eq_true rfl, Nat.le_of_ble_eq_true rfl⟩ rfl hl.1 (Nat.le_of_ble_eq_true rfl) ⟨Nat.zero_le _, Nat.zero_le _⟩ rfl d_Trail_cellAt_13) (fun H locs hS h12 => ?_)
    cases hT
    exact r_iret F hlk hr rfl hS h12 d_Trail_cellAt_16
theorem d_WF_way_0 : decode b_WF_way 0 = .ok (.aload_n 0, 1) := dc_42 (by decide +kernel)
theorem d_WF_way_1 : decode b_WF_way 1 = .ok (.iload_n 1, 1) := dc_27 (by decide +kernel)
theorem d_WF_way_2 : decode b_WF_way 2 = .ok (.invokevirtual 250, 3) := dc_182 (by decide +kernel)
theorem d_WF_way_5 : decode b_WF_way 5 = .ok (.ifCond .eq 7, 3) := dc_153 (by decide +kernel)
theorem d_WF_way_8 : decode b_WF_way 8 = .ok (.iload_n 2, 1) := dc_28 (by decide +kernel)
theorem d_WF_way_9 : decode b_WF_way 9 = .ok (.ifCond .ge 5, 3) := dc_156 (by decide +kernel)
theorem d_WF_way_12 : decode b_WF_way 12 = .ok (.iconst (-1), 1) := dc_2 (by decide +kernel)
theorem d_WF_way_13 : decode b_WF_way 13 = .ok (.ireturn, 1) := dc_172 (by decide +kernel)
theorem d_WF_way_14 : decode b_WF_way 14 = .ok (.aload_n 0, 1) := dc_42 (by decide +kernel)
theorem d_WF_way_15 : decode b_WF_way 15 = .ok (.getfield 97, 3) := dc_180 (by decide +kernel)
theorem d_WF_way_18 : decode b_WF_way 18 = .ok (.aload_n 0, 1) := dc_42 (by decide +kernel)
theorem d_WF_way_19 : decode b_WF_way 19 = .ok (.getfield 22, 3) := dc_180 (by decide +kernel)
theorem d_WF_way_22 : decode b_WF_way 22 = .ok (.aload_n 0, 1) := dc_42 (by decide +kernel)
theorem d_WF_way_23 : decode b_WF_way 23 = .ok (.getfield 46, 3) := dc_180 (by decide +kernel)
theorem d_WF_way_26 : decode b_WF_way 26 = .ok (.iload_n 1, 1) := dc_27 (by decide +kernel)
theorem d_WF_way_27 : decode b_WF_way 27 = .ok (.invokevirtual 253, 3) := dc_182 (by decide +kernel)
theorem d_WF_way_30 : decode b_WF_way 30 = .ok (.aload_n 0, 1) := dc_42 (by decide +kernel)
theorem d_WF_way_31 : decode b_WF_way 31 = .ok (.getfield 97, 3) := dc_180 (by decide +kernel)
theorem d_WF_way_34 : decode b_WF_way 34 = .ok (.iload_n 2, 1) := dc_28 (by decide +kernel)
theorem d_WF_way_35 : decode b_WF_way 35 = .ok (.invokevirtual 261, 3) := dc_182 (by decide +kernel)
theorem d_WF_way_38 : decode b_WF_way 38 = .ok (.ireturn, 1) := dc_172 (by decide +kernel)
def t_WF_way (M : Mem) (x1 : Int) (x2 : Int) : Option (Mem × Int) := (qlet (t_WF_isFree M x1) fun q1 => (if q1 = 0 then (some (M, (-1))) else (if 0 ≤ x2 then (obind (t_Trail_follow M 189 ((M.1 0 4).toNat) 47 x1) fun q6 => (obind (t_Trail_cellAt q6 189 x2) fun q8 => (some (q6, q8)))) else (some (M, (-1))))))
set_option maxHeartbeats 4000000 in
set_option maxRecDepth 100000 in
theorem c_WF_way (l : Launch) {b n : Nat} {C : CT} (hlo : 191 ≤ n) (M : Mem) (x1 : Int) (x2 : Int) (hx1 : InR x1) (hx2 : InR x2) (res : Mem × Int) (hT : t_WF_way M x1 x2 = some res) : CM l b C n 4 y_WF_way b_WF_way 3 (some .int) [.ref (b + 0), vI x1, vI x2] M (QI b C n res.1 res.2) := by
  refine CM.of (lo := 191) (ow := "WardFalls") (by decide) rfl (Nat.le_of_ble_eq_true rfl) hlo (fun p e s m below meth c F hlk hr hS ls hl => ?_)
  have hl : lv_has ls 3 [(0, .ref (b + 0)), (1, vI x1), (2, vI x2)] := hl
  unfold t_WF_way at hT
  refine lv_aload_n F.hx F.hb d_WF_way_0 rfl (lv_at hl 0 rfl) ?_
  refine lv_iload_n F.hx F.hb d_WF_way_1 rfl (lv_at hl 1 rfl) ?_
  obtain ⟨q1, hq1⟩ : ∃ q, q = (t_WF_isFree M x1) := ⟨_, rfl⟩
  replace hT := qlet_eq hT hq1
  refine r_backZ F hS (r_runV (k := 0) (N := 19) (T := T0) (As := [vI x1]) F hS (show 0 < 191 by decide) (show shK 0 = 4 from rfl) rfl (c_WF_isFree l F.2.2.1 M x1 hx1 _ hq1.symm) gs_WF_250 hd_WF_isFree ⟨Nat.le_of_ble_eq_true rfl, Nat.le_of_ble_eq_true rfl⟩ rfl hl.1 (Nat.le_of_ble_eq_true rfl) ⟨Nat.zero_le _, Nat.zero_le _⟩ rfl d_WF_way_2) (fun H locs hS h2 => ?_)
  refine r_if_eq (tgt := 12) F.hx F.hb (inr_z h2) d_WF_way_5 (by decide) (fun c3 => ?_) (fun c3 => ?_)
  · replace hT := (if_pos c3).symm.trans hT
    refine r_iconst F.hx F.hb d_WF_way_12 ?_
    cases hT
    exact r_iret F hlk hr rfl hS (inr_c rfl) d_WF_way_13
  · replace hT := (if_neg c3).symm.trans hT
    refine lv_iload_n F.hx F.hb d_WF_way_8 rfl (lv_at hl 2 rfl) ?_
    refine r_if_ge (tgt := 14) F.hx F.hb hx2 d_WF_way_9 (by decide) (fun c4 => ?_) (fun c4 => ?_)
    · replace hT := (if_pos c4).symm.trans hT
      refine lv_aload_n F.hx F.hb d_WF_way_14 rfl (lv_at hl 0 rfl) ?_
      refine r_get (v := .ref (b + 189)) (N := 19) (T := T0) (j := 18) F hS (show 0 < 191 by decide) (show shK 0 = 4 from rfl) (show shN 0 = 19 from rfl) rfl (Nat.le_of_ble_eq_true rfl) ing0 mw_568 (fv_sg rfl rfl rfl) d_WF_way_15 ?_
      refine lv_aload_n F.hx F.hb d_WF_way_18 rfl (lv_at hl 0 rfl) ?_
      have h5 := St_town hS
      refine r_get (v := .ref (b + ((M.1 0 4).toNat))) (N := 19) (T := T0) (j := 4) F hS (show 0 < 191 by decide) (show shK 0 = 4 from rfl) (show shN 0 = 19 from rfl) rfl (Nat.le_of_ble_eq_true rfl) ing0 mw_554 (fv_town hS) d_WF_way_19 ?_
      refine lv_aload_n F.hx F.hb d_WF_way_22 rfl (lv_at hl 0 rfl) ?_
      refine r_get (v := .ref (b + 47)) (N := 19) (T := T0) (j := 8) F hS (show 0 < 191 by decide) (show shK 0 = 4 from rfl) (show shN 0 = 19 from rfl) rfl (Nat.le_of_ble_eq_true rfl) ing0 mw_558 (fv_sg rfl rfl rfl) d_WF_way_23 ?_
      refine lv_iload_n F.hx F.hb d_WF_way_26 rfl (lv_at hl 1 rfl) ?_
      obtain ⟨q6, hq6, hT⟩ := q_obind hT
      refine r_backV F hS (r_runV (k := 189) (N := 9) (T := T12) (As := [.ref (b + ((M.1 0 4).toNat)), .ref (b + 47), vI x1]) F hS (show 189 < 191 by decide) (show shK 189 = 16 from rfl) rfl (c_Trail_follow l F.2.2.1 M 189 ((M.1 0 4).toNat) 47 x1 (by decide : isTrail 189) h5 (by decide : isScene 47) hx1 _ hq6) gs_WF_253 hd_Trail_follow ⟨Nat.le_of_ble_eq_true rfl, Nat.le_of_ble_eq_true rfl⟩ rfl hl.1 (Nat.le_of_ble_eq_true rfl) ⟨Nat.zero_le _, Nat.zero_le _⟩ rfl d_WF_way_27) (fun H locs hS => ?_)
      refine lv_aload_n F.hx F.hb d_WF_way_30 rfl (lv_at hl 0 rfl) ?_
      refine r_get (v := .ref (b + 189)) (N := 19) (T := T0) (j := 18) F hS (show 0 < 191 by decide) (show shK 0 = 4 from rfl) (show shN 0 = 19 from rfl) rfl (Nat.le_of_ble_eq_true rfl) ing0 mw_568 (fv_sg rfl rfl rfl) d_WF_way_31 ?_
      refine lv_iload_n F.hx F.hb d_WF_way_34 rfl (lv_at hl 2 rfl) ?_
      obtain ⟨q8, hq8, hT⟩ := q_obind hT
      refine r_backI F hS (r_runV (k := 189) (N := 9) (T := T12) (As := [vI x2]) F hS (show 189 < 191 by decide) (show shK 189 = 16 from rfl) rfl (c_Trail_cellAt l F.2.2.1 q6 189 x2 (by decide : isTrail 189) hx2 _ hq8) gs_WF_261 hd_Trail_cellAt ⟨Nat.le_of_ble_eq_true rfl, Nat.le_of_ble_eq_true rfl⟩ rfl hl.1 (Nat.le_of_ble_eq_true rfl) ⟨Nat.zero_le _, Nat.zero_le _⟩ rfl d_WF_way_35) (fun H locs hS h9 => ?_)
      cases hT
      exact r_iret F hlk hr rfl hS h9 d_WF_way_38
    · replace hT := (if_neg c4).symm.trans hT
      refine r_iconst F.hx F.hb d_WF_way_12 ?_
      cases hT
      exact r_iret F hlk hr rfl hS (inr_c rfl) d_WF_way_13
theorem d_WF_falls_0 : decode b_WF_falls 0 = .ok (.aload_n 0, 1) := dc_42 (by decide +kernel)
theorem d_WF_falls_1 : decode b_WF_falls 1 = .ok (.iload_n 1, 1) := dc_27 (by decide +kernel)
theorem d_WF_falls_2 : decode b_WF_falls 2 = .ok (.invokevirtual 250, 3) := dc_182 (by decide +kernel)
theorem d_WF_falls_5 : decode b_WF_falls 5 = .ok (.ifCond .ne 5, 3) := dc_154 (by decide +kernel)
theorem d_WF_falls_8 : decode b_WF_falls 8 = .ok (.iconst (-1), 1) := dc_2 (by decide +kernel)
theorem d_WF_falls_9 : decode b_WF_falls 9 = .ok (.ireturn, 1) := dc_172 (by decide +kernel)
theorem d_WF_falls_10 : decode b_WF_falls 10 = .ok (.aload_n 0, 1) := dc_42 (by decide +kernel)
theorem d_WF_falls_11 : decode b_WF_falls 11 = .ok (.getfield 97, 3) := dc_180 (by decide +kernel)
theorem d_WF_falls_14 : decode b_WF_falls 14 = .ok (.aload_n 0, 1) := dc_42 (by decide +kernel)
theorem d_WF_falls_15 : decode b_WF_falls 15 = .ok (.getfield 22, 3) := dc_180 (by decide +kernel)
theorem d_WF_falls_18 : decode b_WF_falls 18 = .ok (.aload_n 0, 1) := dc_42 (by decide +kernel)
theorem d_WF_falls_19 : decode b_WF_falls 19 = .ok (.getfield 46, 3) := dc_180 (by decide +kernel)
theorem d_WF_falls_22 : decode b_WF_falls 22 = .ok (.iload_n 1, 1) := dc_27 (by decide +kernel)
theorem d_WF_falls_23 : decode b_WF_falls 23 = .ok (.invokevirtual 253, 3) := dc_182 (by decide +kernel)
theorem d_WF_falls_26 : decode b_WF_falls 26 = .ok (.iload_n 2, 1) := dc_28 (by decide +kernel)
theorem d_WF_falls_27 : decode b_WF_falls 27 = .ok (.tableswitch 64 0 2 #[25, 33, 41], 25) := by decide +kernel
theorem d_WF_falls_52 : decode b_WF_falls 52 = .ok (.aload_n 0, 1) := dc_42 (by decide +kernel)
theorem d_WF_falls_53 : decode b_WF_falls 53 = .ok (.getfield 97, 3) := dc_180 (by decide +kernel)
theorem d_WF_falls_56 : decode b_WF_falls 56 = .ok (.getfield 264, 3) := dc_180 (by decide +kernel)
theorem d_WF_falls_59 : decode b_WF_falls 59 = .ok (.ireturn, 1) := dc_172 (by decide +kernel)
theorem d_WF_falls_60 : decode b_WF_falls 60 = .ok (.aload_n 0, 1) := dc_42 (by decide +kernel)
theorem d_WF_falls_61 : decode b_WF_falls 61 = .ok (.getfield 97, 3) := dc_180 (by decide +kernel)
theorem d_WF_falls_64 : decode b_WF_falls 64 = .ok (.getfield 267, 3) := dc_180 (by decide +kernel)
theorem d_WF_falls_67 : decode b_WF_falls 67 = .ok (.ireturn, 1) := dc_172 (by decide +kernel)
theorem d_WF_falls_68 : decode b_WF_falls 68 = .ok (.aload_n 0, 1) := dc_42 (by decide +kernel)
theorem d_WF_falls_69 : decode b_WF_falls 69 = .ok (.getfield 97, 3) := dc_180 (by decide +kernel)
theorem d_WF_falls_72 : decode b_WF_falls 72 = .ok (.getfield 267, 3) := dc_180 (by decide +kernel)
theorem d_WF_falls_75 : decode b_WF_falls 75 = .ok (.ifCond .le 8, 3) := dc_158 (by decide +kernel)
theorem d_WF_falls_78 : decode b_WF_falls 78 = .ok (.bipush (-2), 2) := dc_16 (by decide +kernel)
theorem d_WF_falls_80 : decode b_WF_falls 80 = .ok (.goto 10, 3) := dc_167 (by decide +kernel)
theorem d_WF_falls_83 : decode b_WF_falls 83 = .ok (.aload_n 0, 1) := dc_42 (by decide +kernel)
theorem d_WF_falls_84 : decode b_WF_falls 84 = .ok (.getfield 97, 3) := dc_180 (by decide +kernel)
theorem d_WF_falls_87 : decode b_WF_falls 87 = .ok (.getfield 270, 3) := dc_180 (by decide +kernel)
theorem d_WF_falls_90 : decode b_WF_falls 90 = .ok (.ireturn, 1) := dc_172 (by decide +kernel)
theorem d_WF_falls_91 : decode b_WF_falls 91 = .ok (.iconst (-1), 1) := dc_2 (by decide +kernel)
theorem d_WF_falls_92 : decode b_WF_falls 92 = .ok (.ireturn, 1) := dc_172 (by decide +kernel)
def t_WF_falls (M : Mem) (x1 : Int) (x2 : Int) : Option (Mem × Int) := (qlet (t_WF_isFree M x1) fun q1 => (if q1 = 0 then (some (M, (-1))) else (obind (t_Trail_follow M 189 ((M.1 0 4).toNat) 47 x1) fun q5 => (if x2 = 0 then (some (q5, (q5.1 189 2))) else (if x2 = 1 then (some (q5, (q5.1 189 3))) else (if x2 = 2 then (if (q5.1 189 3) ≤ 0 then (some (q5, (q5.1 189 4))) else (some (q5, (-2)))) else (some (q5, (-1)))))))))
set_option maxHeartbeats 4000000 in
set_option maxRecDepth 100000 in
theorem c_WF_falls (l : Launch) {b n : Nat} {C : CT} (hlo : 191 ≤ n) (M : Mem) (x1 : Int) (x2 : Int) (hx1 : InR x1) (hx2 : InR x2) (res : Mem × Int) (hT : t_WF_falls M x1 x2 = some res) : CM l b C n 4 y_WF_falls b_WF_falls 3 (some .int) [.ref (b + 0), vI x1, vI x2] M (QI b C n res.1 res.2) := by
  refine CM.of (lo := 191) (ow := "WardFalls") (by decide) rfl (Nat.le_of_ble_eq_true rfl) hlo (fun p e s m below meth c F hlk hr hS ls hl => ?_)
  have hl : lv_has ls 3 [(0, .ref (b + 0)), (1, vI x1), (2, vI x2)] := hl
  unfold t_WF_falls at hT
  refine lv_aload_n F.hx F.hb d_WF_falls_0 rfl (lv_at hl 0 rfl) ?_
  refine lv_iload_n F.hx F.hb d_WF_falls_1 rfl (lv_at hl 1 rfl) ?_
  obtain ⟨q1, hq1⟩ : ∃ q, q = (t_WF_isFree M x1) := ⟨_, rfl⟩
  replace hT := qlet_eq hT hq1
  refine r_backZ F hS (r_runV (k := 0) (N := 19) (T := T0) (As := [vI x1]) F hS (show 0 < 191 by decide) (show shK 0 = 4 from rfl) rfl (c_WF_isFree l F.2.2.1 M x1 hx1 _ hq1.symm) gs_WF_250 hd_WF_isFree ⟨Nat.le_of_ble_eq_true rfl, Nat.le_of_ble_eq_true rfl⟩ rfl hl.1 (Nat.le_of_ble_eq_true rfl) ⟨Nat.zero_le _, Nat.zero_le _⟩ rfl d_WF_falls_2) (fun H locs hS h2 => ?_)
  refine r_if_ne (tgt := 10) F.hx F.hb (inr_z h2) d_WF_falls_5 (by decide) (fun c3 => ?_) (fun c3 => ?_)
  · replace hT := (if_neg c3).symm.trans hT
    refine lv_aload_n F.hx F.hb d_WF_falls_10 rfl (lv_at hl 0 rfl) ?_
    refine r_get (v := .ref (b + 189)) (N := 19) (T := T0) (j := 18) F hS (show 0 < 191 by decide) (show shK 0 = 4 from rfl) (show shN 0 = 19 from rfl) rfl (Nat.le_of_ble_eq_true rfl) ing0 mw_568 (fv_sg rfl rfl rfl) d_WF_falls_11 ?_
    refine lv_aload_n F.hx F.hb d_WF_falls_14 rfl (lv_at hl 0 rfl) ?_
    have h4 := St_town hS
    refine r_get (v := .ref (b + ((M.1 0 4).toNat))) (N := 19) (T := T0) (j := 4) F hS (show 0 < 191 by decide) (show shK 0 = 4 from rfl) (show shN 0 = 19 from rfl) rfl (Nat.le_of_ble_eq_true rfl) ing0 mw_554 (fv_town hS) d_WF_falls_15 ?_
    refine lv_aload_n F.hx F.hb d_WF_falls_18 rfl (lv_at hl 0 rfl) ?_
    refine r_get (v := .ref (b + 47)) (N := 19) (T := T0) (j := 8) F hS (show 0 < 191 by decide) (show shK 0 = 4 from rfl) (show shN 0 = 19 from rfl) rfl (Nat.le_of_ble_eq_true rfl) ing0 mw_558 (fv_sg rfl rfl rfl) d_WF_falls_19 ?_
    refine lv_iload_n F.hx F.hb d_WF_falls_22 rfl (lv_at hl 1 rfl) ?_
    obtain ⟨q5, hq5, hT⟩ := q_obind hT
    refine r_backV F hS (r_runV (k := 189) (N := 9) (T := T12) (As := [.ref (b + ((M.1 0 4).toNat)), .ref (b + 47), vI x1]) F hS (show 189 < 191 by decide) (show shK 189 = 16 from rfl) rfl (c_Trail_follow l F.2.2.1 M 189 ((M.1 0 4).toNat) 47 x1 (by decide : isTrail 189) h4 (by decide : isScene 47) hx1 _ hq5) gs_WF_253 hd_Trail_follow ⟨Nat.le_of_ble_eq_true rfl, Nat.le_of_ble_eq_true rfl⟩ rfl hl.1 (Nat.le_of_ble_eq_true rfl) ⟨Nat.zero_le _, Nat.zero_le _⟩ rfl d_WF_falls_23) (fun H locs hS => ?_)
    refine lv_iload_n F.hx F.hb d_WF_falls_26 rfl (lv_at hl 2 rfl) ?_
    rcases q_ite hT with ⟨c7, hT⟩ | ⟨c7, hT⟩
    · refine r_tableIn (i := 0) (tgt := 52) F.hx F.hb hx2 c7 d_WF_falls_27 (by decide) (by decide) rfl (by decide) ?_
      refine lv_aload_n F.hx F.hb d_WF_falls_52 rfl (lv_at hl 0 rfl) ?_
      refine r_get (v := .ref (b + 189)) (N := 19) (T := T0) (j := 18) F hS (show 0 < 191 by decide) (show shK 0 = 4 from rfl) (show shN 0 = 19 from rfl) rfl (Nat.le_of_ble_eq_true rfl) ing0 mw_568 (fv_sg rfl rfl rfl) d_WF_falls_53 ?_
      refine r_get (v := vI (q5.1 189 2)) (N := 9) (T := T12) (j := 2) F hS (show 189 < 191 by decide) (show shK 189 = 16 from rfl) (show shN 189 = 9 from rfl) rfl (Nat.le_of_ble_eq_true rfl) ing12 mw_405 (fv_int rfl) d_WF_falls_56 ?_
      have i8 := hS.rng 189 2
      cases hT
      exact r_iret F hlk hr rfl hS i8 d_WF_falls_59
    ·
      rcases q_ite hT with ⟨c9, hT⟩ | ⟨c9, hT⟩
      · refine r_tableIn (i := 1) (tgt := 60) F.hx F.hb hx2 c9 d_WF_falls_27 (by decide) (by decide) rfl (by decide) ?_
        refine lv_aload_n F.hx F.hb d_WF_falls_60 rfl (lv_at hl 0 rfl) ?_
        refine r_get (v := .ref (b + 189)) (N := 19) (T := T0) (j := 18) F hS (show 0 < 191 by decide) (show shK 0 = 4 from rfl) (show shN 0 = 19 from rfl) rfl (Nat.le_of_ble_eq_true rfl) ing0 mw_568 (fv_sg rfl rfl rfl) d_WF_falls_61 ?_
        refine r_get (v := vI (q5.1 189 3)) (N := 9) (T := T12) (j := 3) F hS (show 189 < 191 by decide) (show shK 189 = 16 from rfl) (show shN 189 = 9 from rfl) rfl (Nat.le_of_ble_eq_true rfl) ing12 mw_407 (fv_int rfl) d_WF_falls_64 ?_
        have i10 := hS.rng 189 3
        cases hT
        exact r_iret F hlk hr rfl hS i10 d_WF_falls_67
      ·
        rcases q_ite hT with ⟨c11, hT⟩ | ⟨c11, hT⟩
        · refine r_tableIn (i := 2) (tgt := 68) F.hx F.hb hx2 c11 d_WF_falls_27 (by decide) (by decide) rfl (by decide) ?_
          refine lv_aload_n F.hx F.hb d_WF_falls_68 rfl (lv_at hl 0 rfl) ?_
          refine r_get (v := .ref (b + 189)) (N := 19) (T := T0) (j := 18) F hS (show 0 < 191 by decide) (show shK 0 = 4 from rfl) (show shN 0 = 19 from rfl) rfl (Nat.le_of_ble_eq_true rfl) ing0 mw_568 (fv_sg rfl rfl rfl) d_WF_falls_69 ?_
          refine r_get (v := vI (q5.1 189 3)) (N := 9) (T := T12) (j := 3) F hS (show 189 < 191 by decide) (show shK 189 = 16 from rfl) (show shN 189 = 9 from rfl) rfl (Nat.le_of_ble_eq_true rfl) ing12 mw_407 (fv_int rfl) d_WF_falls_72 ?_
          have i12 := hS.rng 189 3
          refine r_if_le (tgt := 83) F.hx F.hb i12 d_WF_falls_75 (by decide) (fun c13 => ?_) (fun c13 => ?_)
          · replace hT := (if_pos c13).symm.trans hT
            refine lv_aload_n F.hx F.hb d_WF_falls_83 rfl (lv_at hl 0 rfl) ?_
            refine r_get (v := .ref (b + 189)) (N := 19) (T := T0) (j := 18) F hS (show 0 < 191 by decide) (show shK 0 = 4 from rfl) (show shN 0 = 19 from rfl) rfl (Nat.le_of_ble_eq_true rfl) ing0 mw_568 (fv_sg rfl rfl rfl) d_WF_falls_84 ?_
            refine r_get (v := vI (q5.1 189 4)) (N := 9) (T := T12) (j := 4) F hS (show 189 < 191 by decide) (show shK 189 = 16 from rfl) (show shN 189 = 9 from rfl) rfl (Nat.le_of_ble_eq_true rfl) ing12 mw_410 (fv_int rfl) d_WF_falls_87 ?_
            have i14 := hS.rng 189 4
            cases hT
            exact r_iret F hlk hr rfl hS i14 d_WF_falls_90
          · replace hT := (if_neg c13).symm.trans hT
            refine r_bipush F.hx F.hb d_WF_falls_78 rfl ?_
            refine lv_goto (tgt := 90) F.hx F.hb d_WF_falls_80 (by decide) ?_
            cases hT
            exact r_iret F hlk hr rfl hS (inr_c rfl) d_WF_falls_90
        ·
          refine r_tableOut (tgt := 91) F.hx F.hb hx2 (by omega) d_WF_falls_27 (by decide) ?_
          refine r_iconst F.hx F.hb d_WF_falls_91 ?_
          cases hT
          exact r_iret F hlk hr rfl hS (inr_c rfl) d_WF_falls_92
  · replace hT := (if_pos c3).symm.trans hT
    refine r_iconst F.hx F.hb d_WF_falls_8 ?_
    cases hT
    exact r_iret F hlk hr rfl hS (inr_c rfl) d_WF_falls_9
theorem wn_Scene_beat_0 : ∀ i, i < 94 → bA b_Scene_beat (0 + i) = wB [3, 62, 3, 54, 4, 21, 4, 43, 180, 0, 72, 162, 0, 126, 42, 180, 0, 15, 21, 4, 184, 0, 56, 54, 5, 21, 5, 156, 0, 7, 2, 167, 0, 10, 42, 43, 21, 5, 182, 0, 83, 54, 6, 21, 6, 155, 0, 86, 28, 153, 0, 13, 42, 43, 21, 6, 182, 0, 86, 156, 0, 72, 42, 180, 0, 15, 21, 4, 21, 6, 184, 0, 89, 42, 180, 0, 18, 21, 4, 42, 180, 0, 18, 21, 4, 184, 0, 56, 4, 96, 184, 0, 89, 42] i := wB_of (by decide +kernel)
theorem d_Scene_beat_0 : decode b_Scene_beat 0 = .ok (.iconst 0, 1) := dc_3 (q0_win (r := 0) wn_Scene_beat_0 (by decide +kernel))
theorem d_Scene_beat_1 : decode b_Scene_beat 1 = .ok (.istore_n 3, 1) := dc_62 (q0_win (r := 1) wn_Scene_beat_0 (by decide +kernel))
theorem d_Scene_beat_2 : decode b_Scene_beat 2 = .ok (.iconst 0, 1) := dc_3 (q0_win (r := 2) wn_Scene_beat_0 (by decide +kernel))
theorem d_Scene_beat_3 : decode b_Scene_beat 3 = .ok (.istore 4, 2) := dc_54 (qU1_win (r := 3) wn_Scene_beat_0 (by decide +kernel))
theorem d_Scene_beat_5 : decode b_Scene_beat 5 = .ok (.iload 4, 2) := dc_21 (qU1_win (r := 5) wn_Scene_beat_0 (by decide +kernel))
theorem d_Scene_beat_7 : decode b_Scene_beat 7 = .ok (.aload_n 1, 1) := dc_43 (q0_win (r := 7) wn_Scene_beat_0 (by decide +kernel))
theorem d_Scene_beat_8 : decode b_Scene_beat 8 = .ok (.getfield 72, 3) := dc_180 (qU2_win (r := 8) wn_Scene_beat_0 (by decide +kernel))
theorem d_Scene_beat_11 : decode b_Scene_beat 11 = .ok (.if_icmp .ge 126, 3) := dc_162 (qS2_win (r := 11) wn_Scene_beat_0 (by decide +kernel))
theorem d_Scene_beat_14 : decode b_Scene_beat 14 = .ok (.aload_n 0, 1) := dc_42 (q0_win (r := 14) wn_Scene_beat_0 (by decide +kernel))
theorem d_Scene_beat_15 : decode b_Scene_beat 15 = .ok (.getfield 15, 3) := dc_180 (qU2_win (r := 15) wn_Scene_beat_0 (by decide +kernel))
theorem d_Scene_beat_18 : decode b_Scene_beat 18 = .ok (.iload 4, 2) := dc_21 (qU1_win (r := 18) wn_Scene_beat_0 (by decide +kernel))
theorem d_Scene_beat_20 : decode b_Scene_beat 20 = .ok (.invokestatic 56, 3) := dc_184 (qU2_win (r := 20) wn_Scene_beat_0 (by decide +kernel))
theorem d_Scene_beat_23 : decode b_Scene_beat 23 = .ok (.istore 5, 2) := dc_54 (qU1_win (r := 23) wn_Scene_beat_0 (by decide +kernel))
theorem d_Scene_beat_25 : decode b_Scene_beat 25 = .ok (.iload 5, 2) := dc_21 (qU1_win (r := 25) wn_Scene_beat_0 (by decide +kernel))
theorem d_Scene_beat_27 : decode b_Scene_beat 27 = .ok (.ifCond .ge 7, 3) := dc_156 (qS2_win (r := 27) wn_Scene_beat_0 (by decide +kernel))
theorem d_Scene_beat_30 : decode b_Scene_beat 30 = .ok (.iconst (-1), 1) := dc_2 (q0_win (r := 30) wn_Scene_beat_0 (by decide +kernel))
theorem d_Scene_beat_31 : decode b_Scene_beat 31 = .ok (.goto 10, 3) := dc_167 (qS2_win (r := 31) wn_Scene_beat_0 (by decide +kernel))
theorem d_Scene_beat_34 : decode b_Scene_beat 34 = .ok (.aload_n 0, 1) := dc_42 (q0_win (r := 34) wn_Scene_beat_0 (by decide +kernel))
theorem d_Scene_beat_35 : decode b_Scene_beat 35 = .ok (.aload_n 1, 1) := dc_43 (q0_win (r := 35) wn_Scene_beat_0 (by decide +kernel))
theorem d_Scene_beat_36 : decode b_Scene_beat 36 = .ok (.iload 5, 2) := dc_21 (qU1_win (r := 36) wn_Scene_beat_0 (by decide +kernel))
theorem d_Scene_beat_38 : decode b_Scene_beat 38 = .ok (.invokevirtual 83, 3) := dc_182 (qU2_win (r := 38) wn_Scene_beat_0 (by decide +kernel))
theorem d_Scene_beat_41 : decode b_Scene_beat 41 = .ok (.istore 6, 2) := dc_54 (qU1_win (r := 41) wn_Scene_beat_0 (by decide +kernel))
theorem d_Scene_beat_43 : decode b_Scene_beat 43 = .ok (.iload 6, 2) := dc_21 (qU1_win (r := 43) wn_Scene_beat_0 (by decide +kernel))
theorem d_Scene_beat_45 : decode b_Scene_beat 45 = .ok (.ifCond .lt 86, 3) := dc_155 (qS2_win (r := 45) wn_Scene_beat_0 (by decide +kernel))
theorem d_Scene_beat_48 : decode b_Scene_beat 48 = .ok (.iload_n 2, 1) := dc_28 (q0_win (r := 48) wn_Scene_beat_0 (by decide +kernel))
theorem d_Scene_beat_49 : decode b_Scene_beat 49 = .ok (.ifCond .eq 13, 3) := dc_153 (qS2_win (r := 49) wn_Scene_beat_0 (by decide +kernel))
theorem d_Scene_beat_52 : decode b_Scene_beat 52 = .ok (.aload_n 0, 1) := dc_42 (q0_win (r := 52) wn_Scene_beat_0 (by decide +kernel))
theorem d_Scene_beat_53 : decode b_Scene_beat 53 = .ok (.aload_n 1, 1) := dc_43 (q0_win (r := 53) wn_Scene_beat_0 (by decide +kernel))
theorem d_Scene_beat_54 : decode b_Scene_beat 54 = .ok (.iload 6, 2) := dc_21 (qU1_win (r := 54) wn_Scene_beat_0 (by decide +kernel))
theorem d_Scene_beat_56 : decode b_Scene_beat 56 = .ok (.invokevirtual 86, 3) := dc_182 (qU2_win (r := 56) wn_Scene_beat_0 (by decide +kernel))
theorem d_Scene_beat_59 : decode b_Scene_beat 59 = .ok (.ifCond .ge 72, 3) := dc_156 (qS2_win (r := 59) wn_Scene_beat_0 (by decide +kernel))
theorem d_Scene_beat_62 : decode b_Scene_beat 62 = .ok (.aload_n 0, 1) := dc_42 (q0_win (r := 62) wn_Scene_beat_0 (by decide +kernel))
theorem d_Scene_beat_63 : decode b_Scene_beat 63 = .ok (.getfield 15, 3) := dc_180 (qU2_win (r := 63) wn_Scene_beat_0 (by decide +kernel))
theorem d_Scene_beat_66 : decode b_Scene_beat 66 = .ok (.iload 4, 2) := dc_21 (qU1_win (r := 66) wn_Scene_beat_0 (by decide +kernel))
theorem d_Scene_beat_68 : decode b_Scene_beat 68 = .ok (.iload 6, 2) := dc_21 (qU1_win (r := 68) wn_Scene_beat_0 (by decide +kernel))
theorem d_Scene_beat_70 : decode b_Scene_beat 70 = .ok (.invokestatic 89, 3) := dc_184 (qU2_win (r := 70) wn_Scene_beat_0 (by decide +kernel))
theorem d_Scene_beat_73 : decode b_Scene_beat 73 = .ok (.aload_n 0, 1) := dc_42 (q0_win (r := 73) wn_Scene_beat_0 (by decide +kernel))
theorem d_Scene_beat_74 : decode b_Scene_beat 74 = .ok (.getfield 18, 3) := dc_180 (qU2_win (r := 74) wn_Scene_beat_0 (by decide +kernel))
theorem d_Scene_beat_77 : decode b_Scene_beat 77 = .ok (.iload 4, 2) := dc_21 (qU1_win (r := 77) wn_Scene_beat_0 (by decide +kernel))
theorem d_Scene_beat_79 : decode b_Scene_beat 79 = .ok (.aload_n 0, 1) := dc_42 (q0_win (r := 79) wn_Scene_beat_0 (by decide +kernel))
theorem d_Scene_beat_80 : decode b_Scene_beat 80 = .ok (.getfield 18, 3) := dc_180 (qU2_win (r := 80) wn_Scene_beat_0 (by decide +kernel))
theorem d_Scene_beat_83 : decode b_Scene_beat 83 = .ok (.iload 4, 2) := dc_21 (qU1_win (r := 83) wn_Scene_beat_0 (by decide +kernel))
theorem d_Scene_beat_85 : decode b_Scene_beat 85 = .ok (.invokestatic 56, 3) := dc_184 (qU2_win (r := 85) wn_Scene_beat_0 (by decide +kernel))
theorem d_Scene_beat_88 : decode b_Scene_beat 88 = .ok (.iconst 1, 1) := dc_4 (q0_win (r := 88) wn_Scene_beat_0 (by decide +kernel))
theorem d_Scene_beat_89 : decode b_Scene_beat 89 = .ok (.iadd, 1) := dc_96 (q0_win (r := 89) wn_Scene_beat_0 (by decide +kernel))
theorem d_Scene_beat_90 : decode b_Scene_beat 90 = .ok (.invokestatic 89, 3) := dc_184 (qU2_win (r := 90) wn_Scene_beat_0 (by decide +kernel))
theorem d_Scene_beat_93 : decode b_Scene_beat 93 = .ok (.aload_n 0, 1) := dc_42 (q0_win (r := 93) wn_Scene_beat_0 (by decide +kernel))
theorem wn_Scene_beat_94 : ∀ i, i < 45 → bA b_Scene_beat (94 + i) = wB [180, 0, 21, 21, 4, 42, 180, 0, 21, 21, 4, 184, 0, 56, 43, 21, 5, 21, 6, 182, 0, 93, 153, 0, 7, 4, 167, 0, 4, 3, 96, 184, 0, 89, 132, 3, 1, 132, 4, 1, 167, 255, 127, 29, 172] i := wB_of (by decide +kernel)
theorem d_Scene_beat_94 : decode b_Scene_beat 94 = .ok (.getfield 21, 3) := dc_180 (qU2_win (r := 0) wn_Scene_beat_94 (by decide +kernel))
theorem d_Scene_beat_97 : decode b_Scene_beat 97 = .ok (.iload 4, 2) := dc_21 (qU1_win (r := 3) wn_Scene_beat_94 (by decide +kernel))
theorem d_Scene_beat_99 : decode b_Scene_beat 99 = .ok (.aload_n 0, 1) := dc_42 (q0_win (r := 5) wn_Scene_beat_94 (by decide +kernel))
theorem d_Scene_beat_100 : decode b_Scene_beat 100 = .ok (.getfield 21, 3) := dc_180 (qU2_win (r := 6) wn_Scene_beat_94 (by decide +kernel))
theorem d_Scene_beat_103 : decode b_Scene_beat 103 = .ok (.iload 4, 2) := dc_21 (qU1_win (r := 9) wn_Scene_beat_94 (by decide +kernel))
theorem d_Scene_beat_105 : decode b_Scene_beat 105 = .ok (.invokestatic 56, 3) := dc_184 (qU2_win (r := 11) wn_Scene_beat_94 (by decide +kernel))
theorem d_Scene_beat_108 : decode b_Scene_beat 108 = .ok (.aload_n 1, 1) := dc_43 (q0_win (r := 14) wn_Scene_beat_94 (by decide +kernel))
theorem d_Scene_beat_109 : decode b_Scene_beat 109 = .ok (.iload 5, 2) := dc_21 (qU1_win (r := 15) wn_Scene_beat_94 (by decide +kernel))
theorem d_Scene_beat_111 : decode b_Scene_beat 111 = .ok (.iload 6, 2) := dc_21 (qU1_win (r := 17) wn_Scene_beat_94 (by decide +kernel))
theorem d_Scene_beat_113 : decode b_Scene_beat 113 = .ok (.invokevirtual 93, 3) := dc_182 (qU2_win (r := 19) wn_Scene_beat_94 (by decide +kernel))
theorem d_Scene_beat_116 : decode b_Scene_beat 116 = .ok (.ifCond .eq 7, 3) := dc_153 (qS2_win (r := 22) wn_Scene_beat_94 (by decide +kernel))
theorem d_Scene_beat_119 : decode b_Scene_beat 119 = .ok (.iconst 1, 1) := dc_4 (q0_win (r := 25) wn_Scene_beat_94 (by decide +kernel))
theorem d_Scene_beat_120 : decode b_Scene_beat 120 = .ok (.goto 4, 3) := dc_167 (qS2_win (r := 26) wn_Scene_beat_94 (by decide +kernel))
theorem d_Scene_beat_123 : decode b_Scene_beat 123 = .ok (.iconst 0, 1) := dc_3 (q0_win (r := 29) wn_Scene_beat_94 (by decide +kernel))
theorem d_Scene_beat_124 : decode b_Scene_beat 124 = .ok (.iadd, 1) := dc_96 (q0_win (r := 30) wn_Scene_beat_94 (by decide +kernel))
theorem d_Scene_beat_125 : decode b_Scene_beat 125 = .ok (.invokestatic 89, 3) := dc_184 (qU2_win (r := 31) wn_Scene_beat_94 (by decide +kernel))
theorem d_Scene_beat_128 : decode b_Scene_beat 128 = .ok (.iinc 3 1, 3) := dc_132 (qI_win (r := 34) wn_Scene_beat_94 (by decide +kernel))
theorem d_Scene_beat_131 : decode b_Scene_beat 131 = .ok (.iinc 4 1, 3) := dc_132 (qI_win (r := 37) wn_Scene_beat_94 (by decide +kernel))
theorem d_Scene_beat_134 : decode b_Scene_beat 134 = .ok (.goto (-129), 3) := dc_167 (qS2_win (r := 40) wn_Scene_beat_94 (by decide +kernel))
theorem d_Scene_beat_137 : decode b_Scene_beat 137 = .ok (.iload_n 3, 1) := dc_29 (q0_win (r := 43) wn_Scene_beat_94 (by decide +kernel))
theorem d_Scene_beat_138 : decode b_Scene_beat 138 = .ok (.ireturn, 1) := dc_172 (q0_win (r := 44) wn_Scene_beat_94 (by decide +kernel))
def t_Scene_beat_L131 (k0 : Nat) (k1 : Nat) (x2 : Int) (bk5 : Mem → Int → Int → Option (Mem × Int)) (M : Mem) (v3_ : Int) (v4_ : Int) : Option (Mem × Int) := (bk5 M v3_ (w32 (v4_ + 1)))
def t_Scene_beat_L124 (k0 : Nat) (k1 : Nat) (x2 : Int) (bk5 : Mem → Int → Int → Option (Mem × Int)) (M : Mem) (v3_ : Int) (v4_ : Int) (v6_ : Int) (v7_ : Int) (v8_ : Int) : Option (Mem × Int) := (qlet (t_WF_put M (k0 + 4) 8 v6_ (w32 (v7_ + v8_))) fun q24 => (t_Scene_beat_L131 k0 k1 x2 bk5 q24 (w32 (v3_ + 1)) v4_))
def t_Scene_beat_L62 (k0 : Nat) (k1 : Nat) (x2 : Int) (bk5 : Mem → Int → Int → Option (Mem × Int)) (M : Mem) (v3_ : Int) (v4_ : Int) (v5_ : Int) (v6_ : Int) : Option (Mem × Int) := (qlet (t_WF_put M (k0 + 2) 8 v4_ v6_) fun q13 => (qlet (t_WF_look q13 (k0 + 3) 8 v4_) fun q15 => (qlet (t_WF_put q13 (k0 + 3) 8 v4_ (w32 (q15 + 1))) fun q17 => (qlet (t_WF_look q17 (k0 + 4) 8 v4_) fun q19 => (qlet (t_Town_isLine q17 k1 v5_ v6_) fun q21 => (if q21 = 0 then (t_Scene_beat_L124 k0 k1 x2 bk5 q17 v3_ v4_ v4_ q19 0) else (t_Scene_beat_L124 k0 k1 x2 bk5 q17 v3_ v4_ v4_ q19 1)))))))
def t_Scene_beat_L41 (k0 : Nat) (k1 : Nat) (x2 : Int) (bk5 : Mem → Int → Int → Option (Mem × Int)) (M : Mem) (v3_ : Int) (v4_ : Int) (v5_ : Int) (v6_ : Int) : Option (Mem × Int) := (if v6_ < 0 then (t_Scene_beat_L131 k0 k1 x2 bk5 M v3_ v4_) else (if x2 = 0 then (t_Scene_beat_L62 k0 k1 x2 bk5 M v3_ v4_ v5_ v6_) else (obind (t_Scene_thingIn M k0 k1 v6_) fun q10 => (if 0 ≤ q10 then (t_Scene_beat_L131 k0 k1 x2 bk5 M v3_ v4_) else (t_Scene_beat_L62 k0 k1 x2 bk5 M v3_ v4_ v5_ v6_)))))
def t_Scene_beat_L5 (k0 : Nat) (k1 : Nat) (x2 : Int)  : Nat → Mem → Int → Int → Option (Mem × Int)
  | 0, _, _, _ => none
  | fu + 1, M, v3_, v4_ => (if (M.1 k1 15) ≤ v4_ then (some (M, v3_)) else (qlet (t_WF_look M (k0 + 2) 8 v4_) fun q3 => (if 0 ≤ q3 then (qlet (t_Scene_nextOf M k0 k1 q3) fun q6 => (t_Scene_beat_L41 k0 k1 x2 (fun a0_ a1_ a2_ => t_Scene_beat_L5 k0 k1 x2 fu a0_ a1_ a2_) M v3_ v4_ q3 q6)) else (t_Scene_beat_L41 k0 k1 x2 (fun a0_ a1_ a2_ => t_Scene_beat_L5 k0 k1 x2 fu a0_ a1_ a2_) M v3_ v4_ q3 (-1)))))
def t_Scene_beat (M : Mem) (k0 : Nat) (k1 : Nat) (x2 : Int) : Option (Mem × Int) := (t_Scene_beat_L5 k0 k1 x2 FU M 0 0)
set_option maxHeartbeats 4000000 in
set_option maxRecDepth 100000 in
theorem k_Scene_beat_L131 (l : Launch) {p : Program} {e : Env} {s : State} {m : MethodId} {below : List Frame} {meth : Method} {c : Code} {b n : Nat} {C : CT} (hlo : 191 ≤ n) (k0 : Nat) (k1 : Nat) (x2 : Int) (hk0 : isScene k0) (hk1 : isTown k1) (hx2 : InR x2) (F : Cx b p m c b_Scene_beat 7 s ([.ref (b + k0), .ref (b + k1), vI x2] : List Value).toArray "WardFalls$Scene" C n 191) (hlk : meth.locks = false) (hr : meth.sig.returnType = some .int) {res : Mem × Int} (bk5 : Mem → Int → Int → Option (Mem × Int)) (hbk5 : ∀ (M : Mem) (v3_ : Int) (hv3_ : InR v3_) (v4_ : Int) (hv4_ : InR v4_) (H : Heap) (locs : List Loc) (ls : Array Slot), St b C n M s H locs → lv_has ls 7 [(0, .ref (b + k0)), (1, .ref (b + k1)), (2, vI x2), (3, vI v3_), (4, vI v4_)] → bk5 M v3_ v4_ = some res → W p l e (headSpec (wsM y_Scene_beat b_Scene_beat 7 (some .int)) (rmD 3)).room s m ([.ref (b + k0), .ref (b + k1), vI x2] : List Value).toArray below meth c H locs 0 0 (MQ below (QI b C n res.1 res.2) ([.ref (b + k0), .ref (b + k1), vI x2] : List Value).toArray s 0 0 (frb b)) (F0 m 5 ls [])) (M : Mem) (v3_ : Int) (hv3_ : InR v3_) (v4_ : Int) (hv4_ : InR v4_) (H : Heap) (locs : List Loc) (ls : Array Slot) (hS : St b C n M s H locs) (hl : lv_has ls 7 [(0, .ref (b + k0)), (1, .ref (b + k1)), (2, vI x2), (3, vI v3_), (4, vI v4_)]) (hT : t_Scene_beat_L131 k0 k1 x2 bk5 M v3_ v4_ = some res) : W p l e (headSpec (wsM y_Scene_beat b_Scene_beat 7 (some .int)) (rmD 3)).room s m ([.ref (b + k0), .ref (b + k1), vI x2] : List Value).toArray below meth c H locs 0 0 (MQ below (QI b C n res.1 res.2) ([.ref (b + k0), .ref (b + k1), vI x2] : List Value).toArray s 0 0 (frb b)) (F0 m 131 ls []) := by
  unfold t_Scene_beat_L131 at hT
  refine lv_iinc (v := Int32.ofInt (w32 (v4_ + 1))) (lv' := [(4, vI (w32 (v4_ + 1))), (0, .ref (b + k0)), (1, .ref (b + k1)), (2, vI x2), (3, vI v3_)]) F.hx F.hb d_Scene_beat_131 hl (k := 4) rfl (q_of_add _ _) (Nat.le_of_ble_eq_true rfl) rfl (fun ls hl => ?_)
  refine lv_goto (tgt := 5) F.hx F.hb d_Scene_beat_134 (by decide) ?_
  exact hbk5 M v3_ hv3_ (w32 (v4_ + 1)) (inr_w32 _) _ _ _ hS (lv_sub hl [1, 2, 3, 4, 0] rfl) hT
set_option maxHeartbeats 4000000 in
set_option maxRecDepth 100000 in
theorem k_Scene_beat_L124 (l : Launch) {p : Program} {e : Env} {s : State} {m : MethodId} {below : List Frame} {meth : Method} {c : Code} {b n : Nat} {C : CT} (hlo : 191 ≤ n) (k0 : Nat) (k1 : Nat) (x2 : Int) (hk0 : isScene k0) (hk1 : isTown k1) (hx2 : InR x2) (F : Cx b p m c b_Scene_beat 7 s ([.ref (b + k0), .ref (b + k1), vI x2] : List Value).toArray "WardFalls$Scene" C n 191) (hlk : meth.locks = false) (hr : meth.sig.returnType = some .int) {res : Mem × Int} (bk5 : Mem → Int → Int → Option (Mem × Int)) (hbk5 : ∀ (M : Mem) (v3_ : Int) (hv3_ : InR v3_) (v4_ : Int) (hv4_ : InR v4_) (H : Heap) (locs : List Loc) (ls : Array Slot), St b C n M s H locs → lv_has ls 7 [(0, .ref (b + k0)), (1, .ref (b + k1)), (2, vI x2), (3, vI v3_), (4, vI v4_)] → bk5 M v3_ v4_ = some res → W p l e (headSpec (wsM y_Scene_beat b_Scene_beat 7 (some .int)) (rmD 3)).room s m ([.ref (b + k0), .ref (b + k1), vI x2] : List Value).toArray below meth c H locs 0 0 (MQ below (QI b C n res.1 res.2) ([.ref (b + k0), .ref (b + k1), vI x2] : List Value).toArray s 0 0 (frb b)) (F0 m 5 ls [])) (M : Mem) (v3_ : Int) (hv3_ : InR v3_) (v4_ : Int) (hv4_ : InR v4_) (v6_ : Int) (hv6_ : InR v6_) (v7_ : Int) (hv7_ : InR v7_) (v8_ : Int) (hv8_ : v8_ = 0 ∨ v8_ = 1) (H : Heap) (locs : List Loc) (ls : Array Slot) (hS : St b C n M s H locs) (hl : lv_has ls 7 [(0, .ref (b + k0)), (1, .ref (b + k1)), (2, vI x2), (3, vI v3_), (4, vI v4_)]) (hT : t_Scene_beat_L124 k0 k1 x2 bk5 M v3_ v4_ v6_ v7_ v8_ = some res) : W p l e (headSpec (wsM y_Scene_beat b_Scene_beat 7 (some .int)) (rmD 3)).room s m ([.ref (b + k0), .ref (b + k1), vI x2] : List Value).toArray below meth c H locs 0 0 (MQ below (QI b C n res.1 res.2) ([.ref (b + k0), .ref (b + k1), vI x2] : List Value).toArray s 0 0 (frb b)) (F0 m 124 ls [vI v8_, vI v7_, vI v6_, .ref (b + (k0 + 4))]) := by
  unfold t_Scene_beat_L124 at hT
  refine r_iadd F.hx F.hb d_Scene_beat_124 ?_
  obtain ⟨q24, hq24⟩ : ∃ q, q = (t_WF_put M (k0 + 4) 8 v6_ (w32 (v7_ + v8_))) := ⟨_, rfl⟩
  replace hT := qlet_eq hT hq24
  refine r_backV F hS (r_runSN (As := [.ref (b + (k0 + 4)), vI v6_, vI (w32 (v7_ + v8_))]) F hS (c_WF_put l F.2.2.1 M (k0 + 4) 8 v6_ (w32 (v7_ + v8_)) (Scene_f3 hk0) hv6_ (inr_w32 _) _ hq24.symm) mw_512 mw_511 mw_1 gs_Scene_89 hd_WF_put ⟨Nat.le_of_ble_eq_true rfl, Nat.le_of_ble_eq_true rfl⟩ rfl hl.1 (Nat.le_of_ble_eq_true rfl) ⟨Nat.zero_le _, Nat.zero_le _⟩ rfl d_Scene_beat_125) (fun H locs hS => ?_)
  refine lv_iinc (v := Int32.ofInt (w32 (v3_ + 1))) (lv' := [(3, vI (w32 (v3_ + 1))), (0, .ref (b + k0)), (1, .ref (b + k1)), (2, vI x2), (4, vI v4_)]) F.hx F.hb d_Scene_beat_128 hl (k := 3) rfl (q_of_add _ _) (Nat.le_of_ble_eq_true rfl) rfl (fun ls hl => ?_)
  exact k_Scene_beat_L131 l hlo k0 k1 x2 hk0 hk1 hx2 F hlk hr bk5 hbk5 q24 (w32 (v3_ + 1)) (inr_w32 _) v4_ hv4_ _ _ _ hS (lv_sub hl [1, 2, 3, 0, 4] rfl) hT
set_option maxHeartbeats 4000000 in
set_option maxRecDepth 100000 in
theorem k_Scene_beat_L62 (l : Launch) {p : Program} {e : Env} {s : State} {m : MethodId} {below : List Frame} {meth : Method} {c : Code} {b n : Nat} {C : CT} (hlo : 191 ≤ n) (k0 : Nat) (k1 : Nat) (x2 : Int) (hk0 : isScene k0) (hk1 : isTown k1) (hx2 : InR x2) (F : Cx b p m c b_Scene_beat 7 s ([.ref (b + k0), .ref (b + k1), vI x2] : List Value).toArray "WardFalls$Scene" C n 191) (hlk : meth.locks = false) (hr : meth.sig.returnType = some .int) {res : Mem × Int} (bk5 : Mem → Int → Int → Option (Mem × Int)) (hbk5 : ∀ (M : Mem) (v3_ : Int) (hv3_ : InR v3_) (v4_ : Int) (hv4_ : InR v4_) (H : Heap) (locs : List Loc) (ls : Array Slot), St b C n M s H locs → lv_has ls 7 [(0, .ref (b + k0)), (1, .ref (b + k1)), (2, vI x2), (3, vI v3_), (4, vI v4_)] → bk5 M v3_ v4_ = some res → W p l e (headSpec (wsM y_Scene_beat b_Scene_beat 7 (some .int)) (rmD 3)).room s m ([.ref (b + k0), .ref (b + k1), vI x2] : List Value).toArray below meth c H locs 0 0 (MQ below (QI b C n res.1 res.2) ([.ref (b + k0), .ref (b + k1), vI x2] : List Value).toArray s 0 0 (frb b)) (F0 m 5 ls [])) (M : Mem) (v3_ : Int) (hv3_ : InR v3_) (v4_ : Int) (hv4_ : InR v4_) (v5_ : Int) (hv5_ : InR v5_) (v6_ : Int) (hv6_ : InR v6_) (H : Heap) (locs : List Loc) (ls : Array Slot) (hS : St b C n M s H locs) (hl : lv_has ls 7 [(0, .ref (b + k0)), (1, .ref (b + k1)), (2, vI x2), (3, vI v3_), (4, vI v4_), (5, vI v5_), (6, vI v6_)]) (hT : t_Scene_beat_L62 k0 k1 x2 bk5 M v3_ v4_ v5_ v6_ = some res) : W p l e (headSpec (wsM y_Scene_beat b_Scene_beat 7 (some .int)) (rmD 3)).room s m ([.ref (b + k0), .ref (b + k1), vI x2] : List Value).toArray below meth c H locs 0 0 (MQ below (QI b C n res.1 res.2) ([.ref (b + k0), .ref (b + k1), vI x2] : List Value).toArray s 0 0 (frb b)) (F0 m 62 ls []) := by
  unfold t_Scene_beat_L62 at hT
  refine lv_aload_n F.hx F.hb d_Scene_beat_62 rfl (lv_at hl 0 rfl) ?_
  refine r_get (v := .ref (b + (k0 + 2))) (N := 7) (T := T9) (j := 1) F hS (Scene_lt hk0) (Scene_sh hk0) (Scene_N hk0) rfl (Nat.le_of_ble_eq_true rfl) ing9 mw_278 (Scene_g1 hk0 _) d_Scene_beat_63 ?_
  refine lv_iload F.hx F.hb d_Scene_beat_66 (lv_at hl 4 rfl) ?_
  refine lv_iload F.hx F.hb d_Scene_beat_68 (lv_at hl 6 rfl) ?_
  obtain ⟨q13, hq13⟩ : ∃ q, q = (t_WF_put M (k0 + 2) 8 v4_ v6_) := ⟨_, rfl⟩
  replace hT := qlet_eq hT hq13
  refine r_backV F hS (r_runSN (As := [.ref (b + (k0 + 2)), vI v4_, vI v6_]) F hS (c_WF_put l F.2.2.1 M (k0 + 2) 8 v4_ v6_ (Scene_f1 hk0) hv4_ hv6_ _ hq13.symm) mw_512 mw_511 mw_1 gs_Scene_89 hd_WF_put ⟨Nat.le_of_ble_eq_true rfl, Nat.le_of_ble_eq_true rfl⟩ rfl hl.1 (Nat.le_of_ble_eq_true rfl) ⟨Nat.zero_le _, Nat.zero_le _⟩ rfl d_Scene_beat_70) (fun H locs hS => ?_)
  refine lv_aload_n F.hx F.hb d_Scene_beat_73 rfl (lv_at hl 0 rfl) ?_
  refine r_get (v := .ref (b + (k0 + 3))) (N := 7) (T := T9) (j := 2) F hS (Scene_lt hk0) (Scene_sh hk0) (Scene_N hk0) rfl (Nat.le_of_ble_eq_true rfl) ing9 mw_281 (Scene_g2 hk0 _) d_Scene_beat_74 ?_
  refine lv_iload F.hx F.hb d_Scene_beat_77 (lv_at hl 4 rfl) ?_
  refine lv_aload_n F.hx F.hb d_Scene_beat_79 rfl (lv_at hl 0 rfl) ?_
  refine r_get (v := .ref (b + (k0 + 3))) (N := 7) (T := T9) (j := 2) F hS (Scene_lt hk0) (Scene_sh hk0) (Scene_N hk0) rfl (Nat.le_of_ble_eq_true rfl) ing9 mw_281 (Scene_g2 hk0 _) d_Scene_beat_80 ?_
  refine lv_iload F.hx F.hb d_Scene_beat_83 (lv_at hl 4 rfl) ?_
  obtain ⟨q15, hq15⟩ : ∃ q, q = (t_WF_look q13 (k0 + 3) 8 v4_) := ⟨_, rfl⟩
  replace hT := qlet_eq hT hq15
  refine r_backI F hS (r_runSN (As := [.ref (b + (k0 + 3)), vI v4_]) F hS (c_WF_look l F.2.2.1 q13 (k0 + 3) 8 v4_ (Scene_f2 hk0) hv4_ _ hq15.symm) mw_519 mw_518 mw_1 gs_Scene_56 hd_WF_look ⟨Nat.le_of_ble_eq_true rfl, Nat.le_of_ble_eq_true rfl⟩ rfl hl.1 (Nat.le_of_ble_eq_true rfl) ⟨Nat.zero_le _, Nat.zero_le _⟩ rfl d_Scene_beat_85) (fun H locs hS h16 => ?_)
  refine r_iconst F.hx F.hb d_Scene_beat_88 ?_
  refine r_iadd F.hx F.hb d_Scene_beat_89 ?_
  obtain ⟨q17, hq17⟩ : ∃ q, q = (t_WF_put q13 (k0 + 3) 8 v4_ (w32 (q15 + 1))) := ⟨_, rfl⟩
  replace hT := qlet_eq hT hq17
  refine r_backV F hS (r_runSN (As := [.ref (b + (k0 + 3)), vI v4_, vI (w32 (q15 + 1))]) F hS (c_WF_put l F.2.2.1 q13 (k0 + 3) 8 v4_ (w32 (q15 + 1)) (Scene_f2 hk0) hv4_ (inr_w32 _) _ hq17.symm) mw_512 mw_511 mw_1 gs_Scene_89 hd_WF_put ⟨Nat.le_of_ble_eq_true rfl, Nat.le_of_ble_eq_true rfl⟩ rfl hl.1 (Nat.le_of_ble_eq_true rfl) ⟨Nat.zero_le _, Nat.zero_le _⟩ rfl d_Scene_beat_90) (fun H locs hS => ?_)
  refine lv_aload_n F.hx F.hb d_Scene_beat_93 rfl (lv_at hl 0 rfl) ?_
  refine r_get (v := .ref (b + (k0 + 4))) (N := 7) (T := T9) (j := 3) F hS (Scene_lt hk0) (Scene_sh hk0) (Scene_N hk0) rfl (Nat.le_of_ble_eq_true rfl) ing9 mw_283 (Scene_g3 hk0 _) d_Scene_beat_94 ?_
  refine lv_iload F.hx F.hb d_Scene_beat_97 (lv_at hl 4 rfl) ?_
  refine lv_aload_n F.hx F.hb d_Scene_beat_99 rfl (lv_at hl 0 rfl) ?_
  refine r_get (v := .ref (b + (k0 + 4))) (N := 7) (T := T9) (j := 3) F hS (Scene_lt hk0) (Scene_sh hk0) (Scene_N hk0) rfl (Nat.le_of_ble_eq_true rfl) ing9 mw_283 (Scene_g3 hk0 _) d_Scene_beat_100 ?_
  refine lv_iload F.hx F.hb d_Scene_beat_103 (lv_at hl 4 rfl) ?_
  obtain ⟨q19, hq19⟩ : ∃ q, q = (t_WF_look q17 (k0 + 4) 8 v4_) := ⟨_, rfl⟩
  replace hT := qlet_eq hT hq19
  refine r_backI F hS (r_runSN (As := [.ref (b + (k0 + 4)), vI v4_]) F hS (c_WF_look l F.2.2.1 q17 (k0 + 4) 8 v4_ (Scene_f3 hk0) hv4_ _ hq19.symm) mw_519 mw_518 mw_1 gs_Scene_56 hd_WF_look ⟨Nat.le_of_ble_eq_true rfl, Nat.le_of_ble_eq_true rfl⟩ rfl hl.1 (Nat.le_of_ble_eq_true rfl) ⟨Nat.zero_le _, Nat.zero_le _⟩ rfl d_Scene_beat_105) (fun H locs hS h20 => ?_)
  refine lv_aload_n F.hx F.hb d_Scene_beat_108 rfl (lv_at hl 1 rfl) ?_
  refine lv_iload F.hx F.hb d_Scene_beat_109 (lv_at hl 5 rfl) ?_
  refine lv_iload F.hx F.hb d_Scene_beat_111 (lv_at hl 6 rfl) ?_
  obtain ⟨q21, hq21⟩ : ∃ q, q = (t_Town_isLine q17 k1 v5_ v6_) := ⟨_, rfl⟩
  replace hT := qlet_eq hT hq21
  refine r_backZ F hS (r_runV (k := k1) (N := 20) (T := T11) (As := [vI v5_, vI v6_]) F hS (Town_lt hk1) (Town_sh hk1) rfl (c_Town_isLine l F.2.2.1 q17 k1 v5_ v6_ hk1 hv5_ hv6_ _ hq21.symm) gs_Scene_93 hd_Town_isLine ⟨Nat.le_of_ble_eq_true rfl, Nat.le_of_ble_eq_true rfl⟩ rfl hl.1 (Nat.le_of_ble_eq_true rfl) ⟨Nat.zero_le _, Nat.zero_le _⟩ rfl d_Scene_beat_113) (fun H locs hS h22 => ?_)
  refine r_if_eq (tgt := 123) F.hx F.hb (inr_z h22) d_Scene_beat_116 (by decide) (fun c23 => ?_) (fun c23 => ?_)
  · replace hT := (if_pos c23).symm.trans hT
    refine r_iconst F.hx F.hb d_Scene_beat_123 ?_
    exact k_Scene_beat_L124 l hlo k0 k1 x2 hk0 hk1 hx2 F hlk hr bk5 hbk5 q17 v3_ hv3_ v4_ hv4_ v4_ hv4_ q19 h20 0 (Or.inl rfl) _ _ _ hS (lv_sub hl [0, 1, 2, 3, 4] rfl) hT
  · replace hT := (if_neg c23).symm.trans hT
    refine r_iconst F.hx F.hb d_Scene_beat_119 ?_
    refine lv_goto (tgt := 124) F.hx F.hb d_Scene_beat_120 (by decide) ?_
    exact k_Scene_beat_L124 l hlo k0 k1 x2 hk0 hk1 hx2 F hlk hr bk5 hbk5 q17 v3_ hv3_ v4_ hv4_ v4_ hv4_ q19 h20 1 (Or.inr rfl) _ _ _ hS (lv_sub hl [0, 1, 2, 3, 4] rfl) hT
set_option maxHeartbeats 4000000 in
set_option maxRecDepth 100000 in
theorem k_Scene_beat_L41 (l : Launch) {p : Program} {e : Env} {s : State} {m : MethodId} {below : List Frame} {meth : Method} {c : Code} {b n : Nat} {C : CT} (hlo : 191 ≤ n) (k0 : Nat) (k1 : Nat) (x2 : Int) (hk0 : isScene k0) (hk1 : isTown k1) (hx2 : InR x2) (F : Cx b p m c b_Scene_beat 7 s ([.ref (b + k0), .ref (b + k1), vI x2] : List Value).toArray "WardFalls$Scene" C n 191) (hlk : meth.locks = false) (hr : meth.sig.returnType = some .int) {res : Mem × Int} (bk5 : Mem → Int → Int → Option (Mem × Int)) (hbk5 : ∀ (M : Mem) (v3_ : Int) (hv3_ : InR v3_) (v4_ : Int) (hv4_ : InR v4_) (H : Heap) (locs : List Loc) (ls : Array Slot), St b C n M s H locs → lv_has ls 7 [(0, .ref (b + k0)), (1, .ref (b + k1)), (2, vI x2), (3, vI v3_), (4, vI v4_)] → bk5 M v3_ v4_ = some res → W p l e (headSpec (wsM y_Scene_beat b_Scene_beat 7 (some .int)) (rmD 3)).room s m ([.ref (b + k0), .ref (b + k1), vI x2] : List Value).toArray below meth c H locs 0 0 (MQ below (QI b C n res.1 res.2) ([.ref (b + k0), .ref (b + k1), vI x2] : List Value).toArray s 0 0 (frb b)) (F0 m 5 ls [])) (M : Mem) (v3_ : Int) (hv3_ : InR v3_) (v4_ : Int) (hv4_ : InR v4_) (v5_ : Int) (hv5_ : InR v5_) (v6_ : Int) (hv6_ : InR v6_) (H : Heap) (locs : List Loc) (ls : Array Slot) (hS : St b C n M s H locs) (hl : lv_has ls 7 [(0, .ref (b + k0)), (1, .ref (b + k1)), (2, vI x2), (3, vI v3_), (4, vI v4_), (5, vI v5_)]) (hT : t_Scene_beat_L41 k0 k1 x2 bk5 M v3_ v4_ v5_ v6_ = some res) : W p l e (headSpec (wsM y_Scene_beat b_Scene_beat 7 (some .int)) (rmD 3)).room s m ([.ref (b + k0), .ref (b + k1), vI x2] : List Value).toArray below meth c H locs 0 0 (MQ below (QI b C n res.1 res.2) ([.ref (b + k0), .ref (b + k1), vI x2] : List Value).toArray s 0 0 (frb b)) (F0 m 41 ls [vI v6_]) := by
  unfold t_Scene_beat_L41 at hT
  refine lv_istore (lv' := [(6, vI v6_), (0, .ref (b + k0)), (1, .ref (b + k1)), (2, vI x2), (3, vI v3_), (4, vI v4_), (5, vI v5_)]) F.hx F.hb d_Scene_beat_41 hl (Nat.le_of_ble_eq_true rfl) rfl (fun ls hl => ?_)
  refine lv_iload F.hx F.hb d_Scene_beat_43 (lv_at hl 0 rfl) ?_
  refine r_if_lt (tgt := 131) F.hx F.hb hv6_ d_Scene_beat_45 (by decide) (fun c8 => ?_) (fun c8 => ?_)
  · replace hT := (if_pos c8).symm.trans hT
    exact k_Scene_beat_L131 l hlo k0 k1 x2 hk0 hk1 hx2 F hlk hr bk5 hbk5 M v3_ hv3_ v4_ hv4_ _ _ _ hS (lv_sub hl [1, 2, 3, 4, 5] rfl) hT
  · replace hT := (if_neg c8).symm.trans hT
    refine lv_iload_n F.hx F.hb d_Scene_beat_48 rfl (lv_at hl 3 rfl) ?_
    refine r_if_eq (tgt := 62) F.hx F.hb hx2 d_Scene_beat_49 (by decide) (fun c9 => ?_) (fun c9 => ?_)
    · replace hT := (if_pos c9).symm.trans hT
      exact k_Scene_beat_L62 l hlo k0 k1 x2 hk0 hk1 hx2 F hlk hr bk5 hbk5 M v3_ hv3_ v4_ hv4_ v5_ hv5_ v6_ hv6_ _ _ _ hS (lv_sub hl [1, 2, 3, 4, 5, 6, 0] rfl) hT
    · replace hT := (if_neg c9).symm.trans hT
      refine lv_aload_n F.hx F.hb d_Scene_beat_52 rfl (lv_at hl 1 rfl) ?_
      refine lv_aload_n F.hx F.hb d_Scene_beat_53 rfl (lv_at hl 2 rfl) ?_
      refine lv_iload F.hx F.hb d_Scene_beat_54 (lv_at hl 0 rfl) ?_
      obtain ⟨q10, hq10, hT⟩ := q_obind hT
      refine r_backI F hS (r_runV (k := k0) (N := 7) (T := T9) (As := [.ref (b + k1), vI v6_]) F hS (Scene_lt hk0) (Scene_sh hk0) rfl (c_Scene_thingIn l F.2.2.1 M k0 k1 v6_ hk0 hk1 hv6_ _ hq10) gs_Scene_86 hd_Scene_thingIn ⟨Nat.le_of_ble_eq_true rfl, Nat.le_of_ble_eq_true rfl⟩ rfl hl.1 (Nat.le_of_ble_eq_true rfl) ⟨Nat.zero_le _, Nat.zero_le _⟩ rfl d_Scene_beat_56) (fun H locs hS h11 => ?_)
      refine r_if_ge (tgt := 131) F.hx F.hb h11 d_Scene_beat_59 (by decide) (fun c12 => ?_) (fun c12 => ?_)
      · replace hT := (if_pos c12).symm.trans hT
        exact k_Scene_beat_L131 l hlo k0 k1 x2 hk0 hk1 hx2 F hlk hr bk5 hbk5 M v3_ hv3_ v4_ hv4_ _ _ _ hS (lv_sub hl [1, 2, 3, 4, 5] rfl) hT
      · replace hT := (if_neg c12).symm.trans hT
        exact k_Scene_beat_L62 l hlo k0 k1 x2 hk0 hk1 hx2 F hlk hr bk5 hbk5 M v3_ hv3_ v4_ hv4_ v5_ hv5_ v6_ hv6_ _ _ _ hS (lv_sub hl [1, 2, 3, 4, 5, 6, 0] rfl) hT
set_option maxHeartbeats 4000000 in
set_option maxRecDepth 100000 in
theorem k_Scene_beat_L5 (l : Launch) {p : Program} {e : Env} {s : State} {m : MethodId} {below : List Frame} {meth : Method} {c : Code} {b n : Nat} {C : CT} (hlo : 191 ≤ n) (k0 : Nat) (k1 : Nat) (x2 : Int) (hk0 : isScene k0) (hk1 : isTown k1) (hx2 : InR x2) (F : Cx b p m c b_Scene_beat 7 s ([.ref (b + k0), .ref (b + k1), vI x2] : List Value).toArray "WardFalls$Scene" C n 191) (hlk : meth.locks = false) (hr : meth.sig.returnType = some .int) {res : Mem × Int} : ∀ (fu : Nat) (M : Mem) (v3_ : Int) (hv3_ : InR v3_) (v4_ : Int) (hv4_ : InR v4_) (H : Heap) (locs : List Loc) (ls : Array Slot), St b C n M s H locs → lv_has ls 7 [(0, .ref (b + k0)), (1, .ref (b + k1)), (2, vI x2), (3, vI v3_), (4, vI v4_)] → t_Scene_beat_L5 k0 k1 x2 fu M v3_ v4_ = some res → W p l e (headSpec (wsM y_Scene_beat b_Scene_beat 7 (some .int)) (rmD 3)).room s m ([.ref (b + k0), .ref (b + k1), vI x2] : List Value).toArray below meth c H locs 0 0 (MQ below (QI b C n res.1 res.2) ([.ref (b + k0), .ref (b + k1), vI x2] : List Value).toArray s 0 0 (frb b)) (F0 m 5 ls []) := by
  intro fu
  induction fu with
  | zero => intro M v3_ hv3_ v4_ hv4_ H locs ls hS hl hT; exact absurd hT (by simp [t_Scene_beat_L5])
  | succ fu ih =>
    intro M v3_ hv3_ v4_ hv4_ H locs ls hS hl hT
    rw [t_Scene_beat_L5] at hT
    refine lv_iload F.hx F.hb d_Scene_beat_5 (lv_at hl 4 rfl) ?_
    refine lv_aload_n F.hx F.hb d_Scene_beat_7 rfl (lv_at hl 1 rfl) ?_
    refine r_get (v := vI (M.1 k1 15)) (N := 20) (T := T11) (j := 15) F hS (Town_lt hk1) (Town_sh hk1) (Town_N hk1) rfl (Nat.le_of_ble_eq_true rfl) ing11 mw_144 (fv_int rfl) d_Scene_beat_8 ?_
    have i1 := hS.rng k1 15
    refine r_icmp_ge (tgt := 137) F.hx F.hb hv4_ i1 d_Scene_beat_11 (by decide) (fun c2 => ?_) (fun c2 => ?_)
    · replace hT := (if_pos c2).symm.trans hT
      refine lv_iload_n F.hx F.hb d_Scene_beat_137 rfl (lv_at hl 3 rfl) ?_
      cases hT
      exact r_iret F hlk hr rfl hS hv3_ d_Scene_beat_138
    · replace hT := (if_neg c2).symm.trans hT
      refine lv_aload_n F.hx F.hb d_Scene_beat_14 rfl (lv_at hl 0 rfl) ?_
      refine r_get (v := .ref (b + (k0 + 2))) (N := 7) (T := T9) (j := 1) F hS (Scene_lt hk0) (Scene_sh hk0) (Scene_N hk0) rfl (Nat.le_of_ble_eq_true rfl) ing9 mw_278 (Scene_g1 hk0 _) d_Scene_beat_15 ?_
      refine lv_iload F.hx F.hb d_Scene_beat_18 (lv_at hl 4 rfl) ?_
      obtain ⟨q3, hq3⟩ : ∃ q, q = (t_WF_look M (k0 + 2) 8 v4_) := ⟨_, rfl⟩
      replace hT := qlet_eq hT hq3
      refine r_backI F hS (r_runSN (As := [.ref (b + (k0 + 2)), vI v4_]) F hS (c_WF_look l F.2.2.1 M (k0 + 2) 8 v4_ (Scene_f1 hk0) hv4_ _ hq3.symm) mw_519 mw_518 mw_1 gs_Scene_56 hd_WF_look ⟨Nat.le_of_ble_eq_true rfl, Nat.le_of_ble_eq_true rfl⟩ rfl hl.1 (Nat.le_of_ble_eq_true rfl) ⟨Nat.zero_le _, Nat.zero_le _⟩ rfl d_Scene_beat_20) (fun H locs hS h4 => ?_)
      refine lv_istore (lv' := [(5, vI q3), (0, .ref (b + k0)), (1, .ref (b + k1)), (2, vI x2), (3, vI v3_), (4, vI v4_)]) F.hx F.hb d_Scene_beat_23 hl (Nat.le_of_ble_eq_true rfl) rfl (fun ls hl => ?_)
      refine lv_iload F.hx F.hb d_Scene_beat_25 (lv_at hl 0 rfl) ?_
      refine r_if_ge (tgt := 34) F.hx F.hb h4 d_Scene_beat_27 (by decide) (fun c5 => ?_) (fun c5 => ?_)
      · replace hT := (if_pos c5).symm.trans hT
        refine lv_aload_n F.hx F.hb d_Scene_beat_34 rfl (lv_at hl 1 rfl) ?_
        refine lv_aload_n F.hx F.hb d_Scene_beat_35 rfl (lv_at hl 2 rfl) ?_
        refine lv_iload F.hx F.hb d_Scene_beat_36 (lv_at hl 0 rfl) ?_
        obtain ⟨q6, hq6⟩ : ∃ q, q = (t_Scene_nextOf M k0 k1 q3) := ⟨_, rfl⟩
        replace hT := qlet_eq hT hq6
        refine r_backI F hS (r_runV (k := k0) (N := 7) (T := T9) (As := [.ref (b + k1), vI q3]) F hS (Scene_lt hk0) (Scene_sh hk0) rfl (c_Scene_nextOf l F.2.2.1 M k0 k1 q3 hk0 hk1 h4 _ hq6.symm) gs_Scene_83 hd_Scene_nextOf ⟨Nat.le_of_ble_eq_true rfl, Nat.le_of_ble_eq_true rfl⟩ rfl hl.1 (Nat.le_of_ble_eq_true rfl) ⟨Nat.zero_le _, Nat.zero_le _⟩ rfl d_Scene_beat_38) (fun H locs hS h7 => ?_)
        exact k_Scene_beat_L41 l hlo k0 k1 x2 hk0 hk1 hx2 F hlk hr (fun a0_ a1_ a2_ => t_Scene_beat_L5 k0 k1 x2 fu a0_ a1_ a2_) ih M v3_ hv3_ v4_ hv4_ q3 h4 q6 h7 _ _ _ hS (lv_sub hl [1, 2, 3, 4, 5, 0] rfl) hT
      · replace hT := (if_neg c5).symm.trans hT
        refine r_iconst F.hx F.hb d_Scene_beat_30 ?_
        refine lv_goto (tgt := 41) F.hx F.hb d_Scene_beat_31 (by decide) ?_
        exact k_Scene_beat_L41 l hlo k0 k1 x2 hk0 hk1 hx2 F hlk hr (fun a0_ a1_ a2_ => t_Scene_beat_L5 k0 k1 x2 fu a0_ a1_ a2_) ih M v3_ hv3_ v4_ hv4_ q3 h4 (-1) (inr_c rfl) _ _ _ hS (lv_sub hl [1, 2, 3, 4, 5, 0] rfl) hT
set_option maxHeartbeats 4000000 in
set_option maxRecDepth 100000 in
theorem c_Scene_beat (l : Launch) {b n : Nat} {C : CT} (hlo : 191 ≤ n) (M : Mem) (k0 : Nat) (k1 : Nat) (x2 : Int) (hk0 : isScene k0) (hk1 : isTown k1) (hx2 : InR x2) (res : Mem × Int) (hT : t_Scene_beat M k0 k1 x2 = some res) : CM l b C n 3 y_Scene_beat b_Scene_beat 7 (some .int) [.ref (b + k0), .ref (b + k1), vI x2] M (QI b C n res.1 res.2) := by
  refine CM.of (lo := 191) (ow := "WardFalls$Scene") (by decide) rfl (Nat.le_of_ble_eq_true rfl) hlo (fun p e s m below meth c F hlk hr hS ls hl => ?_)
  have hl : lv_has ls 7 [(0, .ref (b + k0)), (1, .ref (b + k1)), (2, vI x2)] := hl
  unfold t_Scene_beat at hT
  refine r_iconst F.hx F.hb d_Scene_beat_0 ?_
  refine lv_istore_n (lv' := [(3, vI 0), (0, .ref (b + k0)), (1, .ref (b + k1)), (2, vI x2)]) F.hx F.hb d_Scene_beat_1 rfl hl (Nat.le_of_ble_eq_true rfl) rfl (fun ls hl => ?_)
  refine r_iconst F.hx F.hb d_Scene_beat_2 ?_
  refine lv_istore (lv' := [(4, vI 0), (3, vI 0), (0, .ref (b + k0)), (1, .ref (b + k1)), (2, vI x2)]) F.hx F.hb d_Scene_beat_3 hl (Nat.le_of_ble_eq_true rfl) rfl (fun ls hl => ?_)
  exact k_Scene_beat_L5 l hlo k0 k1 x2 hk0 hk1 hx2 F hlk hr FU M 0 (inr_c rfl) 0 (inr_c rfl) _ _ _ hS (lv_sub hl [2, 3, 4, 1, 0] rfl) hT
theorem d_WF_beats_0 : decode b_WF_beats 0 = .ok (.iload_n 1, 1) := dc_27 (by decide +kernel)
theorem d_WF_beats_1 : decode b_WF_beats 1 = .ok (.ifCond .lt 10, 3) := dc_155 (by decide +kernel)
theorem d_WF_beats_4 : decode b_WF_beats 4 = .ok (.iload_n 1, 1) := dc_27 (by decide +kernel)
theorem d_WF_beats_5 : decode b_WF_beats 5 = .ok (.sipush 200, 3) := dc_17 (by decide +kernel)
theorem d_WF_beats_8 : decode b_WF_beats 8 = .ok (.if_icmp .le 5, 3) := dc_164 (by decide +kernel)
theorem d_WF_beats_11 : decode b_WF_beats 11 = .ok (.iconst (-1), 1) := dc_2 (by decide +kernel)
theorem d_WF_beats_12 : decode b_WF_beats 12 = .ok (.ireturn, 1) := dc_172 (by decide +kernel)
theorem d_WF_beats_13 : decode b_WF_beats 13 = .ok (.iconst 0, 1) := dc_3 (by decide +kernel)
theorem d_WF_beats_14 : decode b_WF_beats 14 = .ok (.istore_n 2, 1) := dc_61 (by decide +kernel)
theorem d_WF_beats_15 : decode b_WF_beats 15 = .ok (.iconst 0, 1) := dc_3 (by decide +kernel)
theorem d_WF_beats_16 : decode b_WF_beats 16 = .ok (.istore_n 3, 1) := dc_62 (by decide +kernel)
theorem d_WF_beats_17 : decode b_WF_beats 17 = .ok (.iload_n 3, 1) := dc_29 (by decide +kernel)
theorem d_WF_beats_18 : decode b_WF_beats 18 = .ok (.iload_n 1, 1) := dc_27 (by decide +kernel)
theorem d_WF_beats_19 : decode b_WF_beats 19 = .ok (.if_icmp .ge 24, 3) := dc_162 (by decide +kernel)
theorem d_WF_beats_22 : decode b_WF_beats 22 = .ok (.iload_n 2, 1) := dc_28 (by decide +kernel)
theorem d_WF_beats_23 : decode b_WF_beats 23 = .ok (.aload_n 0, 1) := dc_42 (by decide +kernel)
theorem d_WF_beats_24 : decode b_WF_beats 24 = .ok (.getfield 46, 3) := dc_180 (by decide +kernel)
theorem d_WF_beats_27 : decode b_WF_beats 27 = .ok (.aload_n 0, 1) := dc_42 (by decide +kernel)
theorem d_WF_beats_28 : decode b_WF_beats 28 = .ok (.getfield 22, 3) := dc_180 (by decide +kernel)
theorem d_WF_beats_31 : decode b_WF_beats 31 = .ok (.iconst 1, 1) := dc_4 (by decide +kernel)
theorem d_WF_beats_32 : decode b_WF_beats 32 = .ok (.invokevirtual 272, 3) := dc_182 (by decide +kernel)
theorem d_WF_beats_35 : decode b_WF_beats 35 = .ok (.iadd, 1) := dc_96 (by decide +kernel)
theorem d_WF_beats_36 : decode b_WF_beats 36 = .ok (.istore_n 2, 1) := dc_61 (by decide +kernel)
theorem d_WF_beats_37 : decode b_WF_beats 37 = .ok (.iinc 3 1, 3) := dc_132 (by decide +kernel)
theorem d_WF_beats_40 : decode b_WF_beats 40 = .ok (.goto (-23), 3) := dc_167 (by decide +kernel)
theorem d_WF_beats_43 : decode b_WF_beats 43 = .ok (.iload_n 1, 1) := dc_27 (by decide +kernel)
theorem d_WF_beats_44 : decode b_WF_beats 44 = .ok (.ifCond .le 31, 3) := dc_158 (by decide +kernel)
theorem d_WF_beats_47 : decode b_WF_beats 47 = .ok (.aload_n 0, 1) := dc_42 (by decide +kernel)
theorem d_WF_beats_48 : decode b_WF_beats 48 = .ok (.getfield 59, 3) := dc_180 (by decide +kernel)
theorem d_WF_beats_51 : decode b_WF_beats 51 = .ok (.dup, 1) := dc_89 (by decide +kernel)
theorem d_WF_beats_52 : decode b_WF_beats 52 = .ok (.getfield 276, 3) := dc_180 (by decide +kernel)
theorem d_WF_beats_55 : decode b_WF_beats 55 = .ok (.iload_n 1, 1) := dc_27 (by decide +kernel)
theorem d_WF_beats_56 : decode b_WF_beats 56 = .ok (.iadd, 1) := dc_96 (by decide +kernel)
theorem d_WF_beats_57 : decode b_WF_beats 57 = .ok (.putfield 276, 3) := dc_181 (by decide +kernel)
theorem d_WF_beats_60 : decode b_WF_beats 60 = .ok (.aload_n 0, 1) := dc_42 (by decide +kernel)
theorem d_WF_beats_61 : decode b_WF_beats 61 = .ok (.getfield 69, 3) := dc_180 (by decide +kernel)
theorem d_WF_beats_64 : decode b_WF_beats 64 = .ok (.invokevirtual 279, 3) := dc_182 (by decide +kernel)
theorem d_WF_beats_67 : decode b_WF_beats 67 = .ok (.aload_n 0, 1) := dc_42 (by decide +kernel)
theorem d_WF_beats_68 : decode b_WF_beats 68 = .ok (.getfield 83, 3) := dc_180 (by decide +kernel)
theorem d_WF_beats_71 : decode b_WF_beats 71 = .ok (.iconst 0, 1) := dc_3 (by decide +kernel)
theorem d_WF_beats_72 : decode b_WF_beats 72 = .ok (.putfield 280, 3) := dc_181 (by decide +kernel)
theorem d_WF_beats_75 : decode b_WF_beats 75 = .ok (.iload_n 2, 1) := dc_28 (by decide +kernel)
theorem d_WF_beats_76 : decode b_WF_beats 76 = .ok (.ireturn, 1) := dc_172 (by decide +kernel)
def t_WF_beats_L17 (x1 : Int)  : Nat → Mem → Int → Int → Option (Mem × Int)
  | 0, _, _, _ => none
  | fu + 1, M, v2_, v3_ => (if x1 ≤ v3_ then (if x1 ≤ 0 then (some (M, v2_)) else (qlet (setI M 62 4 (w32 ((M.1 62 4) + x1))) fun M6 => (qlet (t_Past_clear M6) fun q7 => (qlet (setI q7 177 8 0) fun M9 => (some (M9, v2_)))))) else (obind (t_Scene_beat M 47 ((M.1 0 4).toNat) 1) fun q11 => (t_WF_beats_L17 x1 fu (q11.1) (w32 (v2_ + (q11.2))) (w32 (v3_ + 1)))))
def t_WF_beats (M : Mem) (x1 : Int) : Option (Mem × Int) := (if x1 < 0 then (some (M, (-1))) else (if x1 ≤ 200 then (t_WF_beats_L17 x1 FU M 0 0) else (some (M, (-1)))))
set_option maxHeartbeats 4000000 in
set_option maxRecDepth 100000 in
theorem k_WF_beats_L17 (l : Launch) {p : Program} {e : Env} {s : State} {m : MethodId} {below : List Frame} {meth : Method} {c : Code} {b n : Nat} {C : CT} (hlo : 191 ≤ n) (x1 : Int) (hx1 : InR x1) (F : Cx b p m c b_WF_beats 4 s ([.ref (b + 0), vI x1] : List Value).toArray "WardFalls" C n 191) (hlk : meth.locks = false) (hr : meth.sig.returnType = some .int) {res : Mem × Int} : ∀ (fu : Nat) (M : Mem) (v2_ : Int) (hv2_ : InR v2_) (v3_ : Int) (hv3_ : InR v3_) (H : Heap) (locs : List Loc) (ls : Array Slot), St b C n M s H locs → lv_has ls 4 [(0, .ref (b + 0)), (1, vI x1), (2, vI v2_), (3, vI v3_)] → t_WF_beats_L17 x1 fu M v2_ v3_ = some res → W p l e (headSpec (wsM y_WF_beats b_WF_beats 4 (some .int)) (rmD 4)).room s m ([.ref (b + 0), vI x1] : List Value).toArray below meth c H locs 0 0 (MQ below (QI b C n res.1 res.2) ([.ref (b + 0), vI x1] : List Value).toArray s 0 0 (frb b)) (F0 m 17 ls []) := by
  intro fu
  induction fu with
  | zero => intro M v2_ hv2_ v3_ hv3_ H locs ls hS hl hT; exact absurd hT (by simp [t_WF_beats_L17])
  | succ fu ih =>
    intro M v2_ hv2_ v3_ hv3_ H locs ls hS hl hT
    rw [t_WF_beats_L17] at hT
    refine lv_iload_n F.hx F.hb d_WF_beats_17 rfl (lv_at hl 3 rfl) ?_
    refine lv_iload_n F.hx F.hb d_WF_beats_18 rfl (lv_at hl 1 rfl) ?_
    refine r_icmp_ge (tgt := 43) F.hx F.hb hv3_ hx1 d_WF_beats_19 (by decide) (fun c3 => ?_) (fun c3 => ?_)
    · replace hT := (if_pos c3).symm.trans hT
      refine lv_iload_n F.hx F.hb d_WF_beats_43 rfl (lv_at hl 1 rfl) ?_
      refine r_if_le (tgt := 75) F.hx F.hb hx1 d_WF_beats_44 (by decide) (fun c4 => ?_) (fun c4 => ?_)
      · replace hT := (if_pos c4).symm.trans hT
        refine lv_iload_n F.hx F.hb d_WF_beats_75 rfl (lv_at hl 2 rfl) ?_
        cases hT
        exact r_iret F hlk hr rfl hS hv2_ d_WF_beats_76
      · replace hT := (if_neg c4).symm.trans hT
        refine lv_aload_n F.hx F.hb d_WF_beats_47 rfl (lv_at hl 0 rfl) ?_
        refine r_get (v := .ref (b + 62)) (N := 19) (T := T0) (j := 11) F hS (show 0 < 191 by decide) (show shK 0 = 4 from rfl) (show shN 0 = 19 from rfl) rfl (Nat.le_of_ble_eq_true rfl) ing0 mw_561 (fv_sg rfl rfl rfl) d_WF_beats_48 ?_
        refine lv_dup F.hx F.hb d_WF_beats_51 rfl ?_
        refine r_get (v := vI (M.1 62 4)) (N := 6) (T := T2) (j := 4) F hS (show 62 < 191 by decide) (show shK 62 = 6 from rfl) (show shN 62 = 6 from rfl) rfl (Nat.le_of_ble_eq_true rfl) ing2 mw_323 (fv_int rfl) d_WF_beats_52 ?_
        have i5 := hS.rng 62 4
        refine lv_iload_n F.hx F.hb d_WF_beats_55 rfl (lv_at hl 1 rfl) ?_
        refine r_iadd F.hx F.hb d_WF_beats_56 ?_
        refine r_putI (N := 6) (T := T2) (j := 4) F hS (show 62 < 191 by decide) (show shK 62 = 6 from rfl) (show shN 62 = 6 from rfl) rfl (Nat.le_of_ble_eq_true rfl) ing2 tyok2 nm2 rfl rfl rfl rfl rfl rfl mw_323 (inr_w32 _) d_WF_beats_57 (fun H locs hS => ?_)
        obtain ⟨M6, eM6⟩ : ∃ q, q = (setI M 62 4 (w32 ((M.1 62 4) + x1))) := ⟨_, rfl⟩
        replace hS : St b C n M6 s H locs := by rw [eM6]; exact hS
        replace hT := qlet_eq hT eM6
        refine lv_aload_n F.hx F.hb d_WF_beats_60 rfl (lv_at hl 0 rfl) ?_
        refine r_get (v := .ref (b + 70)) (N := 19) (T := T0) (j := 14) F hS (show 0 < 191 by decide) (show shK 0 = 4 from rfl) (show shN 0 = 19 from rfl) rfl (Nat.le_of_ble_eq_true rfl) ing0 mw_564 (fv_sg rfl rfl rfl) d_WF_beats_61 ?_
        obtain ⟨q7, hq7⟩ : ∃ q, q = (t_Past_clear M6) := ⟨_, rfl⟩
        replace hT := qlet_eq hT hq7
        refine r_backV F hS (r_runV (k := 70) (N := 3) (T := T6) (As := []) F hS (show 70 < 191 by decide) (show shK 70 = 10 from rfl) rfl (c_Past_clear l F.2.2.1 M6 _ hq7.symm) gs_WF_279 hd_Past_clear ⟨Nat.le_of_ble_eq_true rfl, Nat.le_of_ble_eq_true rfl⟩ rfl hl.1 (Nat.le_of_ble_eq_true rfl) ⟨Nat.zero_le _, Nat.zero_le _⟩ rfl d_WF_beats_64) (fun H locs hS => ?_)
        refine lv_aload_n F.hx F.hb d_WF_beats_67 rfl (lv_at hl 0 rfl) ?_
        refine r_get (v := .ref (b + 177)) (N := 19) (T := T0) (j := 16) F hS (show 0 < 191 by decide) (show shK 0 = 4 from rfl) (show shN 0 = 19 from rfl) rfl (Nat.le_of_ble_eq_true rfl) ing0 mw_566 (fv_sg rfl rfl rfl) d_WF_beats_68 ?_
        refine r_iconst F.hx F.hb d_WF_beats_71 ?_
        refine r_putI (N := 9) (T := T4) (j := 8) F hS (show 177 < 191 by decide) (show shK 177 = 8 from rfl) (show shN 177 = 9 from rfl) rfl (Nat.le_of_ble_eq_true rfl) ing4 tyok4 nm4 rfl rfl (nar_z (Or.inl rfl)) (fit_z (Or.inl rfl)) rfl rfl mw_448 (inr_c rfl) d_WF_beats_72 (fun H locs hS => ?_)
        obtain ⟨M9, eM9⟩ : ∃ q, q = (setI q7 177 8 0) := ⟨_, rfl⟩
        replace hS : St b C n M9 s H locs := by rw [eM9]; exact hS
        replace hT := qlet_eq hT eM9
        refine lv_iload_n F.hx F.hb d_WF_beats_75 rfl (lv_at hl 2 rfl) ?_
        cases hT
        exact r_iret F hlk hr rfl hS hv2_ d_WF_beats_76
    · replace hT := (if_neg c3).symm.trans hT
      refine lv_iload_n F.hx F.hb d_WF_beats_22 rfl (lv_at hl 2 rfl) ?_
      refine lv_aload_n F.hx F.hb d_WF_beats_23 rfl (lv_at hl 0 rfl) ?_
      refine r_get (v := .ref (b + 47)) (N := 19) (T := T0) (j := 8) F hS (show 0 < 191 by decide) (show shK 0 = 4 from rfl) (show shN 0 = 19 from rfl) rfl (Nat.le_of_ble_eq_true rfl) ing0 mw_558 (fv_sg rfl rfl rfl) d_WF_beats_24 ?_
      refine lv_aload_n F.hx F.hb d_WF_beats_27 rfl (lv_at hl 0 rfl) ?_
      have h10 := St_town hS
      refine r_get (v := .ref (b + ((M.1 0 4).toNat))) (N := 19) (T := T0) (j := 4) F hS (show 0 < 191 by decide) (show shK 0 = 4 from rfl) (show shN 0 = 19 from rfl) rfl (Nat.le_of_ble_eq_true rfl) ing0 mw_554 (fv_town hS) d_WF_beats_28 ?_
      refine r_iconst F.hx F.hb d_WF_beats_31 ?_
      obtain ⟨q11, hq11, hT⟩ := q_obind hT
      refine r_backI F hS (r_runV (k := 47) (N := 7) (T := T9) (As := [.ref (b + ((M.1 0 4).toNat)), vI 1]) F hS (show 47 < 191 by decide) (show shK 47 = 13 from rfl) rfl (c_Scene_beat l F.2.2.1 M 47 ((M.1 0 4).toNat) 1 (by decide : isScene 47) h10 (inr_c rfl) _ hq11) gs_WF_272 hd_Scene_beat ⟨Nat.le_of_ble_eq_true rfl, Nat.le_of_ble_eq_true rfl⟩ rfl hl.1 (Nat.le_of_ble_eq_true rfl) ⟨Nat.zero_le _, Nat.zero_le _⟩ rfl d_WF_beats_32) (fun H locs hS h12 => ?_)
      refine r_iadd F.hx F.hb d_WF_beats_35 ?_
      refine lv_istore_n (lv' := [(2, vI (w32 (v2_ + (q11.2)))), (0, .ref (b + 0)), (1, vI x1), (3, vI v3_)]) F.hx F.hb d_WF_beats_36 rfl hl (Nat.le_of_ble_eq_true rfl) rfl (fun ls hl => ?_)
      refine lv_iinc (v := Int32.ofInt (w32 (v3_ + 1))) (lv' := [(3, vI (w32 (v3_ + 1))), (2, vI (w32 (v2_ + (q11.2)))), (0, .ref (b + 0)), (1, vI x1)]) F.hx F.hb d_WF_beats_37 hl (k := 3) rfl (q_of_add _ _) (Nat.le_of_ble_eq_true rfl) rfl (fun ls hl => ?_)
      refine lv_goto (tgt := 17) F.hx F.hb d_WF_beats_40 (by decide) ?_
      exact ih (q11.1) (w32 (v2_ + (q11.2))) (inr_w32 _) (w32 (v3_ + 1)) (inr_w32 _) _ _ _ hS (lv_sub hl [2, 3, 1, 0] rfl) hT
set_option maxHeartbeats 4000000 in
set_option maxRecDepth 100000 in
theorem c_WF_beats (l : Launch) {b n : Nat} {C : CT} (hlo : 191 ≤ n) (M : Mem) (x1 : Int) (hx1 : InR x1) (res : Mem × Int) (hT : t_WF_beats M x1 = some res) : CM l b C n 4 y_WF_beats b_WF_beats 4 (some .int) [.ref (b + 0), vI x1] M (QI b C n res.1 res.2) := by
  refine CM.of (lo := 191) (ow := "WardFalls") (by decide) rfl (Nat.le_of_ble_eq_true rfl) hlo (fun p e s m below meth c F hlk hr hS ls hl => ?_)
  have hl : lv_has ls 4 [(0, .ref (b + 0)), (1, vI x1)] := hl
  unfold t_WF_beats at hT
  refine lv_iload_n F.hx F.hb d_WF_beats_0 rfl (lv_at hl 1 rfl) ?_
  refine r_if_lt (tgt := 11) F.hx F.hb hx1 d_WF_beats_1 (by decide) (fun c1 => ?_) (fun c1 => ?_)
  · replace hT := (if_pos c1).symm.trans hT
    refine r_iconst F.hx F.hb d_WF_beats_11 ?_
    cases hT
    exact r_iret F hlk hr rfl hS (inr_c rfl) d_WF_beats_12
  · replace hT := (if_neg c1).symm.trans hT
    refine lv_iload_n F.hx F.hb d_WF_beats_4 rfl (lv_at hl 1 rfl) ?_
    refine r_sipush F.hx F.hb d_WF_beats_5 rfl ?_
    refine r_icmp_le (tgt := 13) F.hx F.hb hx1 (inr_c rfl) d_WF_beats_8 (by decide) (fun c2 => ?_) (fun c2 => ?_)
    · replace hT := (if_pos c2).symm.trans hT
      refine r_iconst F.hx F.hb d_WF_beats_13 ?_
      refine lv_istore_n (lv' := [(2, vI 0), (0, .ref (b + 0)), (1, vI x1)]) F.hx F.hb d_WF_beats_14 rfl hl (Nat.le_of_ble_eq_true rfl) rfl (fun ls hl => ?_)
      refine r_iconst F.hx F.hb d_WF_beats_15 ?_
      refine lv_istore_n (lv' := [(3, vI 0), (2, vI 0), (0, .ref (b + 0)), (1, vI x1)]) F.hx F.hb d_WF_beats_16 rfl hl (Nat.le_of_ble_eq_true rfl) rfl (fun ls hl => ?_)
      exact k_WF_beats_L17 l hlo x1 hx1 F hlk hr FU M 0 (inr_c rfl) 0 (inr_c rfl) _ _ _ hS (lv_sub hl [2, 3, 1, 0] rfl) hT
    · replace hT := (if_neg c2).symm.trans hT
      refine r_iconst F.hx F.hb d_WF_beats_11 ?_
      cases hT
      exact r_iret F hlk hr rfl hS (inr_c rfl) d_WF_beats_12
end
