theorem d_Paths_leftBy_0 : decode b_Paths_leftBy 0 = .ok (.aload_n 0, 1) := dc_42 (by decide +kernel)
theorem d_Paths_leftBy_1 : decode b_Paths_leftBy 1 = .ok (.getfield 9, 3) := dc_180 (by decide +kernel)
theorem d_Paths_leftBy_4 : decode b_Paths_leftBy 4 = .ok (.iload_n 2, 1) := dc_28 (by decide +kernel)
theorem d_Paths_leftBy_5 : decode b_Paths_leftBy 5 = .ok (.iconst 4, 1) := dc_7 (by decide +kernel)
theorem d_Paths_leftBy_6 : decode b_Paths_leftBy 6 = .ok (.imul, 1) := dc_104 (by decide +kernel)
theorem d_Paths_leftBy_7 : decode b_Paths_leftBy 7 = .ok (.iload_n 3, 1) := dc_29 (by decide +kernel)
theorem d_Paths_leftBy_8 : decode b_Paths_leftBy 8 = .ok (.iadd, 1) := dc_96 (by decide +kernel)
theorem d_Paths_leftBy_9 : decode b_Paths_leftBy 9 = .ok (.invokestatic 45, 3) := dc_184 (by decide +kernel)
theorem d_Paths_leftBy_12 : decode b_Paths_leftBy 12 = .ok (.istore 4, 2) := dc_54 (by decide +kernel)
theorem d_Paths_leftBy_14 : decode b_Paths_leftBy 14 = .ok (.aload_n 0, 1) := dc_42 (by decide +kernel)
theorem d_Paths_leftBy_15 : decode b_Paths_leftBy 15 = .ok (.getfield 15, 3) := dc_180 (by decide +kernel)
theorem d_Paths_leftBy_18 : decode b_Paths_leftBy 18 = .ok (.aload_n 1, 1) := dc_43 (by decide +kernel)
theorem d_Paths_leftBy_19 : decode b_Paths_leftBy 19 = .ok (.iload_n 2, 1) := dc_28 (by decide +kernel)
theorem d_Paths_leftBy_20 : decode b_Paths_leftBy 20 = .ok (.iload_n 3, 1) := dc_29 (by decide +kernel)
theorem d_Paths_leftBy_21 : decode b_Paths_leftBy 21 = .ok (.invokevirtual 26, 3) := dc_182 (by decide +kernel)
theorem d_Paths_leftBy_24 : decode b_Paths_leftBy 24 = .ok (.invokestatic 45, 3) := dc_184 (by decide +kernel)
theorem d_Paths_leftBy_27 : decode b_Paths_leftBy 27 = .ok (.istore 5, 2) := dc_54 (by decide +kernel)
theorem d_Paths_leftBy_29 : decode b_Paths_leftBy 29 = .ok (.iload 4, 2) := dc_21 (by decide +kernel)
theorem d_Paths_leftBy_31 : decode b_Paths_leftBy 31 = .ok (.ifCond .lt 8, 3) := dc_155 (by decide +kernel)
theorem d_Paths_leftBy_34 : decode b_Paths_leftBy 34 = .ok (.iload 5, 2) := dc_21 (by decide +kernel)
theorem d_Paths_leftBy_36 : decode b_Paths_leftBy 36 = .ok (.ifCond .ge 7, 3) := dc_156 (by decide +kernel)
theorem d_Paths_leftBy_39 : decode b_Paths_leftBy 39 = .ok (.iconst (-1), 1) := dc_2 (by decide +kernel)
theorem d_Paths_leftBy_40 : decode b_Paths_leftBy 40 = .ok (.goto 13, 3) := dc_167 (by decide +kernel)
theorem d_Paths_leftBy_43 : decode b_Paths_leftBy 43 = .ok (.iload 5, 2) := dc_21 (by decide +kernel)
theorem d_Paths_leftBy_45 : decode b_Paths_leftBy 45 = .ok (.iload 4, 2) := dc_21 (by decide +kernel)
theorem d_Paths_leftBy_47 : decode b_Paths_leftBy 47 = .ok (.bipush 64, 2) := dc_16 (by decide +kernel)
theorem d_Paths_leftBy_49 : decode b_Paths_leftBy 49 = .ok (.imul, 1) := dc_104 (by decide +kernel)
theorem d_Paths_leftBy_50 : decode b_Paths_leftBy 50 = .ok (.iadd, 1) := dc_96 (by decide +kernel)
theorem d_Paths_leftBy_51 : decode b_Paths_leftBy 51 = .ok (.iconst 1, 1) := dc_4 (by decide +kernel)
theorem d_Paths_leftBy_52 : decode b_Paths_leftBy 52 = .ok (.iadd, 1) := dc_96 (by decide +kernel)
theorem d_Paths_leftBy_53 : decode b_Paths_leftBy 53 = .ok (.ireturn, 1) := dc_172 (by decide +kernel)
def t_Paths_leftBy (M : Mem) (k1 : Nat) (x2 : Int) (x3 : Int) : Int := (qlet (t_WF_look M 186 192 (w32 ((w32 (x2 * 4)) + x3))) fun q1 => (qlet (t_Town_beside M k1 x2 x3) fun q3 => (qlet (t_WF_look M 187 48 q3) fun q5 => (if q1 < 0 then (-1) else (if 0 ≤ q5 then (w32 ((w32 (q5 + (w32 (q1 * 64)))) + 1)) else (-1))))))
set_option maxHeartbeats 4000000 in
set_option maxRecDepth 100000 in
theorem c_Paths_leftBy (l : Launch) {b n : Nat} {C : CT} (hlo : 191 ≤ n) (M : Mem) (k1 : Nat) (x2 : Int) (x3 : Int) (hk1 : isTown k1) (hx2 : InR x2) (hx3 : InR x3) (res : Int) (hT : t_Paths_leftBy M k1 x2 x3 = res) : CM l b C n 2 y_Paths_leftBy b_Paths_leftBy 6 (some .int) [.ref (b + 185), .ref (b + k1), vI x2, vI x3] M (QI b C n M res) := by
  refine CM.of (lo := 191) (ow := "WardFalls$Paths") (by decide) rfl (Nat.le_of_ble_eq_true rfl) hlo (fun p e s m below meth c F hlk hr hS ls hl => ?_)
  have hl : lv_has ls 6 [(0, .ref (b + 185)), (1, .ref (b + k1)), (2, vI x2), (3, vI x3)] := hl
  unfold t_Paths_leftBy at hT
  refine lv_aload_n F.hx F.hb d_Paths_leftBy_0 rfl (lv_at hl 0 rfl) ?_
  refine r_get (v := .ref (b + 186)) (N := 5) (T := T7) (j := 0) F hS (show 185 < 191 by decide) (show shK 185 = 11 from rfl) (show shN 185 = 5 from rfl) rfl (Nat.le_of_ble_eq_true rfl) ing7 mw_474 (fv_sg rfl rfl rfl) d_Paths_leftBy_1 ?_
  refine lv_iload_n F.hx F.hb d_Paths_leftBy_4 rfl (lv_at hl 2 rfl) ?_
  refine r_iconst F.hx F.hb d_Paths_leftBy_5 ?_
  refine r_imul F.hx F.hb d_Paths_leftBy_6 ?_
  refine lv_iload_n F.hx F.hb d_Paths_leftBy_7 rfl (lv_at hl 3 rfl) ?_
  refine r_iadd F.hx F.hb d_Paths_leftBy_8 ?_
  obtain ⟨q1, hq1⟩ : ∃ q, q = (t_WF_look M 186 192 (w32 ((w32 (x2 * 4)) + x3))) := ⟨_, rfl⟩
  replace hT := qlet_eq hT hq1
  refine r_backI F hS (r_runSN (As := [.ref (b + 186), vI (w32 ((w32 (x2 * 4)) + x3))]) F hS (c_WF_look l F.2.2.1 M 186 192 (w32 ((w32 (x2 * 4)) + x3)) (show arrP 0 186 192 191 from ⟨rfl, rfl, by decide⟩) (inr_w32 _) _ hq1.symm) mw_519 mw_518 mw_1 gs_Paths_45 hd_WF_look ⟨Nat.le_of_ble_eq_true rfl, Nat.le_of_ble_eq_true rfl⟩ rfl hl.1 (Nat.le_of_ble_eq_true rfl) ⟨Nat.zero_le _, Nat.zero_le _⟩ rfl d_Paths_leftBy_9) (fun H locs hS h2 => ?_)
  refine lv_istore (lv' := [(4, vI q1), (0, .ref (b + 185)), (1, .ref (b + k1)), (2, vI x2), (3, vI x3)]) F.hx F.hb d_Paths_leftBy_12 hl (Nat.le_of_ble_eq_true rfl) rfl (fun ls hl => ?_)
  refine lv_aload_n F.hx F.hb d_Paths_leftBy_14 rfl (lv_at hl 1 rfl) ?_
  refine r_get (v := .ref (b + 187)) (N := 5) (T := T7) (j := 1) F hS (show 185 < 191 by decide) (show shK 185 = 11 from rfl) (show shN 185 = 5 from rfl) rfl (Nat.le_of_ble_eq_true rfl) ing7 mw_476 (fv_sg rfl rfl rfl) d_Paths_leftBy_15 ?_
  refine lv_aload_n F.hx F.hb d_Paths_leftBy_18 rfl (lv_at hl 2 rfl) ?_
  refine lv_iload_n F.hx F.hb d_Paths_leftBy_19 rfl (lv_at hl 3 rfl) ?_
  refine lv_iload_n F.hx F.hb d_Paths_leftBy_20 rfl (lv_at hl 4 rfl) ?_
  obtain ⟨q3, hq3⟩ : ∃ q, q = (t_Town_beside M k1 x2 x3) := ⟨_, rfl⟩
  replace hT := qlet_eq hT hq3
  refine r_backI F hS (r_runV (k := k1) (N := 20) (T := T11) (As := [vI x2, vI x3]) F hS (Town_lt hk1) (Town_sh hk1) rfl (c_Town_beside l F.2.2.1 M k1 x2 x3 hk1 hx2 hx3 _ hq3.symm) gs_Paths_26 hd_Town_beside ⟨Nat.le_of_ble_eq_true rfl, Nat.le_of_ble_eq_true rfl⟩ rfl hl.1 (Nat.le_of_ble_eq_true rfl) ⟨Nat.zero_le _, Nat.zero_le _⟩ rfl d_Paths_leftBy_21) (fun H locs hS h4 => ?_)
  obtain ⟨q5, hq5⟩ : ∃ q, q = (t_WF_look M 187 48 q3) := ⟨_, rfl⟩
  replace hT := qlet_eq hT hq5
  refine r_backI F hS (r_runSN (As := [.ref (b + 187), vI q3]) F hS (c_WF_look l F.2.2.1 M 187 48 q3 (show arrP 0 187 48 191 from ⟨rfl, rfl, by decide⟩) h4 _ hq5.symm) mw_519 mw_518 mw_1 gs_Paths_45 hd_WF_look ⟨Nat.le_of_ble_eq_true rfl, Nat.le_of_ble_eq_true rfl⟩ rfl hl.1 (Nat.le_of_ble_eq_true rfl) ⟨Nat.zero_le _, Nat.zero_le _⟩ rfl d_Paths_leftBy_24) (fun H locs hS h6 => ?_)
  refine lv_istore (lv' := [(5, vI q5), (4, vI q1), (0, .ref (b + 185)), (1, .ref (b + k1)), (2, vI x2), (3, vI x3)]) F.hx F.hb d_Paths_leftBy_27 hl (Nat.le_of_ble_eq_true rfl) rfl (fun ls hl => ?_)
  refine lv_iload F.hx F.hb d_Paths_leftBy_29 (lv_at hl 1 rfl) ?_
  refine r_if_lt (tgt := 39) F.hx F.hb h2 d_Paths_leftBy_31 (by decide) (fun c7 => ?_) (fun c7 => ?_)
  · replace hT := (if_pos c7).symm.trans hT
    refine r_iconst F.hx F.hb d_Paths_leftBy_39 ?_
    refine lv_goto (tgt := 53) F.hx F.hb d_Paths_leftBy_40 (by decide) ?_
    subst hT
    exact r_iret F hlk hr rfl hS (inr_c rfl) d_Paths_leftBy_53
  · replace hT := (if_neg c7).symm.trans hT
    refine lv_iload F.hx F.hb d_Paths_leftBy_34 (lv_at hl 0 rfl) ?_
    refine r_if_ge (tgt := 43) F.hx F.hb h6 d_Paths_leftBy_36 (by decide) (fun c8 => ?_) (fun c8 => ?_)
    · replace hT := (if_pos c8).symm.trans hT
      refine lv_iload F.hx F.hb d_Paths_leftBy_43 (lv_at hl 0 rfl) ?_
      refine lv_iload F.hx F.hb d_Paths_leftBy_45 (lv_at hl 1 rfl) ?_
      refine r_bipush F.hx F.hb d_Paths_leftBy_47 rfl ?_
      refine r_imul F.hx F.hb d_Paths_leftBy_49 ?_
      refine r_iadd F.hx F.hb d_Paths_leftBy_50 ?_
      refine r_iconst F.hx F.hb d_Paths_leftBy_51 ?_
      refine r_iadd F.hx F.hb d_Paths_leftBy_52 ?_
      subst hT
      exact r_iret F hlk hr rfl hS (inr_w32 _) d_Paths_leftBy_53
    · replace hT := (if_neg c8).symm.trans hT
      refine r_iconst F.hx F.hb d_Paths_leftBy_39 ?_
      refine lv_goto (tgt := 53) F.hx F.hb d_Paths_leftBy_40 (by decide) ?_
      subst hT
      exact r_iret F hlk hr rfl hS (inr_c rfl) d_Paths_leftBy_53
theorem d_Paths_spread_0 : decode b_Paths_spread 0 = .ok (.iconst 0, 1) := dc_3 (by decide +kernel)
theorem d_Paths_spread_1 : decode b_Paths_spread 1 = .ok (.istore_n 2, 1) := dc_61 (by decide +kernel)
theorem d_Paths_spread_2 : decode b_Paths_spread 2 = .ok (.iconst 0, 1) := dc_3 (by decide +kernel)
theorem d_Paths_spread_3 : decode b_Paths_spread 3 = .ok (.istore_n 3, 1) := dc_62 (by decide +kernel)
theorem d_Paths_spread_4 : decode b_Paths_spread 4 = .ok (.iload_n 3, 1) := dc_29 (by decide +kernel)
theorem d_Paths_spread_5 : decode b_Paths_spread 5 = .ok (.aload_n 1, 1) := dc_43 (by decide +kernel)
theorem d_Paths_spread_6 : decode b_Paths_spread 6 = .ok (.getfield 21, 3) := dc_180 (by decide +kernel)
theorem d_Paths_spread_9 : decode b_Paths_spread 9 = .ok (.if_icmp .ge 73, 3) := dc_162 (by decide +kernel)
theorem d_Paths_spread_12 : decode b_Paths_spread 12 = .ok (.iconst 0, 1) := dc_3 (by decide +kernel)
theorem d_Paths_spread_13 : decode b_Paths_spread 13 = .ok (.istore 4, 2) := dc_54 (by decide +kernel)
theorem d_Paths_spread_15 : decode b_Paths_spread 15 = .ok (.iload 4, 2) := dc_21 (by decide +kernel)
theorem d_Paths_spread_17 : decode b_Paths_spread 17 = .ok (.iconst 4, 1) := dc_7 (by decide +kernel)
theorem d_Paths_spread_18 : decode b_Paths_spread 18 = .ok (.if_icmp .ge 58, 3) := dc_162 (by decide +kernel)
theorem d_Paths_spread_21 : decode b_Paths_spread 21 = .ok (.aload_n 0, 1) := dc_42 (by decide +kernel)
theorem d_Paths_spread_22 : decode b_Paths_spread 22 = .ok (.aload_n 1, 1) := dc_43 (by decide +kernel)
theorem d_Paths_spread_23 : decode b_Paths_spread 23 = .ok (.iload_n 3, 1) := dc_29 (by decide +kernel)
theorem d_Paths_spread_24 : decode b_Paths_spread 24 = .ok (.iload 4, 2) := dc_21 (by decide +kernel)
theorem d_Paths_spread_26 : decode b_Paths_spread 26 = .ok (.invokevirtual 84, 3) := dc_182 (by decide +kernel)
theorem d_Paths_spread_29 : decode b_Paths_spread 29 = .ok (.istore 5, 2) := dc_54 (by decide +kernel)
theorem d_Paths_spread_31 : decode b_Paths_spread 31 = .ok (.aload_n 0, 1) := dc_42 (by decide +kernel)
theorem d_Paths_spread_32 : decode b_Paths_spread 32 = .ok (.getfield 15, 3) := dc_180 (by decide +kernel)
theorem d_Paths_spread_35 : decode b_Paths_spread 35 = .ok (.iload_n 3, 1) := dc_29 (by decide +kernel)
theorem d_Paths_spread_36 : decode b_Paths_spread 36 = .ok (.invokestatic 45, 3) := dc_184 (by decide +kernel)
theorem d_Paths_spread_39 : decode b_Paths_spread 39 = .ok (.istore 6, 2) := dc_54 (by decide +kernel)
theorem d_Paths_spread_41 : decode b_Paths_spread 41 = .ok (.iload 5, 2) := dc_21 (by decide +kernel)
theorem d_Paths_spread_43 : decode b_Paths_spread 43 = .ok (.ifCond .lt 27, 3) := dc_155 (by decide +kernel)
theorem d_Paths_spread_46 : decode b_Paths_spread 46 = .ok (.iload 6, 2) := dc_21 (by decide +kernel)
theorem d_Paths_spread_48 : decode b_Paths_spread 48 = .ok (.ifCond .lt 10, 3) := dc_155 (by decide +kernel)
theorem d_Paths_spread_51 : decode b_Paths_spread 51 = .ok (.iload 5, 2) := dc_21 (by decide +kernel)
theorem d_Paths_spread_53 : decode b_Paths_spread 53 = .ok (.iload 6, 2) := dc_21 (by decide +kernel)
theorem d_Paths_spread_55 : decode b_Paths_spread 55 = .ok (.if_icmp .ge 15, 3) := dc_162 (by decide +kernel)
theorem d_Paths_spread_58 : decode b_Paths_spread 58 = .ok (.aload_n 0, 1) := dc_42 (by decide +kernel)
theorem d_Paths_spread_59 : decode b_Paths_spread 59 = .ok (.getfield 15, 3) := dc_180 (by decide +kernel)
theorem d_Paths_spread_62 : decode b_Paths_spread 62 = .ok (.iload_n 3, 1) := dc_29 (by decide +kernel)
theorem d_Paths_spread_63 : decode b_Paths_spread 63 = .ok (.iload 5, 2) := dc_21 (by decide +kernel)
theorem d_Paths_spread_65 : decode b_Paths_spread 65 = .ok (.invokestatic 34, 3) := dc_184 (by decide +kernel)
theorem d_Paths_spread_68 : decode b_Paths_spread 68 = .ok (.iconst 1, 1) := dc_4 (by decide +kernel)
theorem d_Paths_spread_69 : decode b_Paths_spread 69 = .ok (.istore_n 2, 1) := dc_61 (by decide +kernel)
theorem d_Paths_spread_70 : decode b_Paths_spread 70 = .ok (.iinc 4 1, 3) := dc_132 (by decide +kernel)
theorem d_Paths_spread_73 : decode b_Paths_spread 73 = .ok (.goto (-58), 3) := dc_167 (by decide +kernel)
theorem d_Paths_spread_76 : decode b_Paths_spread 76 = .ok (.iinc 3 1, 3) := dc_132 (by decide +kernel)
theorem d_Paths_spread_79 : decode b_Paths_spread 79 = .ok (.goto (-75), 3) := dc_167 (by decide +kernel)
theorem d_Paths_spread_82 : decode b_Paths_spread 82 = .ok (.iload_n 2, 1) := dc_28 (by decide +kernel)
theorem d_Paths_spread_83 : decode b_Paths_spread 83 = .ok (.ireturn, 1) := dc_172 (by decide +kernel)
def t_Paths_spread_L70 (k1 : Nat) (bk4 : Mem → Int → Int → Option (Mem × Int)) (bk15 : Mem → Int → Int → Int → Option (Mem × Int)) (M : Mem) (v2_ : Int) (v3_ : Int) (v4_ : Int) : Option (Mem × Int) := (bk15 M v2_ v3_ (w32 (v4_ + 1)))
def t_Paths_spread_L58 (k1 : Nat) (bk4 : Mem → Int → Int → Option (Mem × Int)) (bk15 : Mem → Int → Int → Int → Option (Mem × Int)) (M : Mem) (v2_ : Int) (v3_ : Int) (v4_ : Int) : Option (Mem × Int) := (qlet (t_WF_put M 187 48 v2_ v4_) fun q11 => (t_Paths_spread_L70 k1 bk4 bk15 q11 1 v2_ v3_))
def t_Paths_spread_L15 (k1 : Nat) (bk4 : Mem → Int → Int → Option (Mem × Int)) : Nat → Mem → Int → Int → Int → Option (Mem × Int)
  | 0, _, _, _, _ => none
  | fu + 1, M, v2_, v3_, v4_ => (if 4 ≤ v4_ then (bk4 M v2_ (w32 (v3_ + 1))) else (qlet (t_Paths_leftBy M k1 v3_ v4_) fun q4 => (qlet (t_WF_look M 187 48 v3_) fun q6 => (if q4 < 0 then (t_Paths_spread_L70 k1 bk4 (fun a0_ a1_ a2_ a3_ => t_Paths_spread_L15 k1 bk4 fu a0_ a1_ a2_ a3_) M v2_ v3_ v4_) else (if q6 < 0 then (t_Paths_spread_L58 k1 bk4 (fun a0_ a1_ a2_ a3_ => t_Paths_spread_L15 k1 bk4 fu a0_ a1_ a2_ a3_) M v3_ v4_ q4) else (if q6 ≤ q4 then (t_Paths_spread_L70 k1 bk4 (fun a0_ a1_ a2_ a3_ => t_Paths_spread_L15 k1 bk4 fu a0_ a1_ a2_ a3_) M v2_ v3_ v4_) else (t_Paths_spread_L58 k1 bk4 (fun a0_ a1_ a2_ a3_ => t_Paths_spread_L15 k1 bk4 fu a0_ a1_ a2_ a3_) M v3_ v4_ q4)))))))
def t_Paths_spread_L4 (k1 : Nat)  : Nat → Mem → Int → Int → Option (Mem × Int)
  | 0, _, _, _ => none
  | fu + 1, M, v2_, v3_ => (if (M.1 k1 13) ≤ v3_ then (some (M, v2_)) else (t_Paths_spread_L15 k1 (fun a0_ a1_ a2_ => t_Paths_spread_L4 k1 fu a0_ a1_ a2_) FU M v2_ v3_ 0))
def t_Paths_spread (M : Mem) (k1 : Nat) : Option (Mem × Int) := (t_Paths_spread_L4 k1 FU M 0 0)
set_option maxHeartbeats 4000000 in
set_option maxRecDepth 100000 in
theorem k_Paths_spread_L70 (l : Launch) {p : Program} {e : Env} {s : State} {m : MethodId} {below : List Frame} {meth : Method} {c : Code} {b n : Nat} {C : CT} (hlo : 191 ≤ n) (k1 : Nat) (hk1 : isTown k1) (F : Cx b p m c b_Paths_spread 7 s ([.ref (b + 185), .ref (b + k1)] : List Value).toArray "WardFalls$Paths" C n 191) (hlk : meth.locks = false) (hr : meth.sig.returnType = some .boolean) {res : Mem × Int} (bk4 : Mem → Int → Int → Option (Mem × Int)) (hbk4 : ∀ (M : Mem) (v2_ : Int) (hv2_ : v2_ = 0 ∨ v2_ = 1) (v3_ : Int) (hv3_ : InR v3_) (H : Heap) (locs : List Loc) (ls : Array Slot), St b C n M s H locs → lv_has ls 7 [(0, .ref (b + 185)), (1, .ref (b + k1)), (2, vI v2_), (3, vI v3_)] → bk4 M v2_ v3_ = some res → W p l e (headSpec (wsM y_Paths_spread b_Paths_spread 7 (some .boolean)) (rmD 3)).room s m ([.ref (b + 185), .ref (b + k1)] : List Value).toArray below meth c H locs 0 0 (MQ below (QZ b C n res.1 res.2) ([.ref (b + 185), .ref (b + k1)] : List Value).toArray s 0 0 (frb b)) (F0 m 4 ls [])) (bk15 : Mem → Int → Int → Int → Option (Mem × Int)) (hbk15 : ∀ (M : Mem) (v2_ : Int) (hv2_ : v2_ = 0 ∨ v2_ = 1) (v3_ : Int) (hv3_ : InR v3_) (v4_ : Int) (hv4_ : InR v4_) (H : Heap) (locs : List Loc) (ls : Array Slot), St b C n M s H locs → lv_has ls 7 [(0, .ref (b + 185)), (1, .ref (b + k1)), (2, vI v2_), (3, vI v3_), (4, vI v4_)] → bk15 M v2_ v3_ v4_ = some res → W p l e (headSpec (wsM y_Paths_spread b_Paths_spread 7 (some .boolean)) (rmD 3)).room s m ([.ref (b + 185), .ref (b + k1)] : List Value).toArray below meth c H locs 0 0 (MQ below (QZ b C n res.1 res.2) ([.ref (b + 185), .ref (b + k1)] : List Value).toArray s 0 0 (frb b)) (F0 m 15 ls [])) (M : Mem) (v2_ : Int) (hv2_ : v2_ = 0 ∨ v2_ = 1) (v3_ : Int) (hv3_ : InR v3_) (v4_ : Int) (hv4_ : InR v4_) (H : Heap) (locs : List Loc) (ls : Array Slot) (hS : St b C n M s H locs) (hl : lv_has ls 7 [(0, .ref (b + 185)), (1, .ref (b + k1)), (2, vI v2_), (3, vI v3_), (4, vI v4_)]) (hT : t_Paths_spread_L70 k1 bk4 bk15 M v2_ v3_ v4_ = some res) : W p l e (headSpec (wsM y_Paths_spread b_Paths_spread 7 (some .boolean)) (rmD 3)).room s m ([.ref (b + 185), .ref (b + k1)] : List Value).toArray below meth c H locs 0 0 (MQ below (QZ b C n res.1 res.2) ([.ref (b + 185), .ref (b + k1)] : List Value).toArray s 0 0 (frb b)) (F0 m 70 ls []) := by
  unfold t_Paths_spread_L70 at hT
  refine lv_iinc (v := Int32.ofInt (w32 (v4_ + 1))) (lv' := [(4, vI (w32 (v4_ + 1))), (0, .ref (b + 185)), (1, .ref (b + k1)), (2, vI v2_), (3, vI v3_)]) F.hx F.hb d_Paths_spread_70 hl (k := 4) rfl (q_of_add _ _) (Nat.le_of_ble_eq_true rfl) rfl (fun ls hl => ?_)
  refine lv_goto (tgt := 15) F.hx F.hb d_Paths_spread_73 (by decide) ?_
  exact hbk15 M v2_ hv2_ v3_ hv3_ (w32 (v4_ + 1)) (inr_w32 _) _ _ _ hS (lv_sub hl [1, 2, 3, 4, 0] rfl) hT
set_option maxHeartbeats 4000000 in
set_option maxRecDepth 100000 in
theorem k_Paths_spread_L58 (l : Launch) {p : Program} {e : Env} {s : State} {m : MethodId} {below : List Frame} {meth : Method} {c : Code} {b n : Nat} {C : CT} (hlo : 191 ≤ n) (k1 : Nat) (hk1 : isTown k1) (F : Cx b p m c b_Paths_spread 7 s ([.ref (b + 185), .ref (b + k1)] : List Value).toArray "WardFalls$Paths" C n 191) (hlk : meth.locks = false) (hr : meth.sig.returnType = some .boolean) {res : Mem × Int} (bk4 : Mem → Int → Int → Option (Mem × Int)) (hbk4 : ∀ (M : Mem) (v2_ : Int) (hv2_ : v2_ = 0 ∨ v2_ = 1) (v3_ : Int) (hv3_ : InR v3_) (H : Heap) (locs : List Loc) (ls : Array Slot), St b C n M s H locs → lv_has ls 7 [(0, .ref (b + 185)), (1, .ref (b + k1)), (2, vI v2_), (3, vI v3_)] → bk4 M v2_ v3_ = some res → W p l e (headSpec (wsM y_Paths_spread b_Paths_spread 7 (some .boolean)) (rmD 3)).room s m ([.ref (b + 185), .ref (b + k1)] : List Value).toArray below meth c H locs 0 0 (MQ below (QZ b C n res.1 res.2) ([.ref (b + 185), .ref (b + k1)] : List Value).toArray s 0 0 (frb b)) (F0 m 4 ls [])) (bk15 : Mem → Int → Int → Int → Option (Mem × Int)) (hbk15 : ∀ (M : Mem) (v2_ : Int) (hv2_ : v2_ = 0 ∨ v2_ = 1) (v3_ : Int) (hv3_ : InR v3_) (v4_ : Int) (hv4_ : InR v4_) (H : Heap) (locs : List Loc) (ls : Array Slot), St b C n M s H locs → lv_has ls 7 [(0, .ref (b + 185)), (1, .ref (b + k1)), (2, vI v2_), (3, vI v3_), (4, vI v4_)] → bk15 M v2_ v3_ v4_ = some res → W p l e (headSpec (wsM y_Paths_spread b_Paths_spread 7 (some .boolean)) (rmD 3)).room s m ([.ref (b + 185), .ref (b + k1)] : List Value).toArray below meth c H locs 0 0 (MQ below (QZ b C n res.1 res.2) ([.ref (b + 185), .ref (b + k1)] : List Value).toArray s 0 0 (frb b)) (F0 m 15 ls [])) (M : Mem) (v2_ : Int) (hv2_ : InR v2_) (v3_ : Int) (hv3_ : InR v3_) (v4_ : Int) (hv4_ : InR v4_) (H : Heap) (locs : List Loc) (ls : Array Slot) (hS : St b C n M s H locs) (hl : lv_has ls 7 [(0, .ref (b + 185)), (1, .ref (b + k1)), (3, vI v2_), (4, vI v3_), (5, vI v4_)]) (hT : t_Paths_spread_L58 k1 bk4 bk15 M v2_ v3_ v4_ = some res) : W p l e (headSpec (wsM y_Paths_spread b_Paths_spread 7 (some .boolean)) (rmD 3)).room s m ([.ref (b + 185), .ref (b + k1)] : List Value).toArray below meth c H locs 0 0 (MQ below (QZ b C n res.1 res.2) ([.ref (b + 185), .ref (b + k1)] : List Value).toArray s 0 0 (frb b)) (F0 m 58 ls []) := by
  unfold t_Paths_spread_L58 at hT
  refine lv_aload_n F.hx F.hb d_Paths_spread_58 rfl (lv_at hl 0 rfl) ?_
  refine r_get (v := .ref (b + 187)) (N := 5) (T := T7) (j := 1) F hS (show 185 < 191 by decide) (show shK 185 = 11 from rfl) (show shN 185 = 5 from rfl) rfl (Nat.le_of_ble_eq_true rfl) ing7 mw_476 (fv_sg rfl rfl rfl) d_Paths_spread_59 ?_
  refine lv_iload_n F.hx F.hb d_Paths_spread_62 rfl (lv_at hl 2 rfl) ?_
  refine lv_iload F.hx F.hb d_Paths_spread_63 (lv_at hl 4 rfl) ?_
  obtain ⟨q11, hq11⟩ : ∃ q, q = (t_WF_put M 187 48 v2_ v4_) := ⟨_, rfl⟩
  replace hT := qlet_eq hT hq11
  refine r_backV F hS (r_runSN (As := [.ref (b + 187), vI v2_, vI v4_]) F hS (c_WF_put l F.2.2.1 M 187 48 v2_ v4_ (show arrP 0 187 48 191 from ⟨rfl, rfl, by decide⟩) hv2_ hv4_ _ hq11.symm) mw_512 mw_511 mw_1 gs_Paths_34 hd_WF_put ⟨Nat.le_of_ble_eq_true rfl, Nat.le_of_ble_eq_true rfl⟩ rfl hl.1 (Nat.le_of_ble_eq_true rfl) ⟨Nat.zero_le _, Nat.zero_le _⟩ rfl d_Paths_spread_65) (fun H locs hS => ?_)
  refine r_iconst F.hx F.hb d_Paths_spread_68 ?_
  refine lv_istore_n (lv' := [(2, vI 1), (0, .ref (b + 185)), (1, .ref (b + k1)), (3, vI v2_), (4, vI v3_), (5, vI v4_)]) F.hx F.hb d_Paths_spread_69 rfl hl (Nat.le_of_ble_eq_true rfl) rfl (fun ls hl => ?_)
  exact k_Paths_spread_L70 l hlo k1 hk1 F hlk hr bk4 hbk4 bk15 hbk15 q11 1 (Or.inr rfl) v2_ hv2_ v3_ hv3_ _ _ _ hS (lv_sub hl [1, 2, 0, 3, 4] rfl) hT
set_option maxHeartbeats 4000000 in
set_option maxRecDepth 100000 in
theorem k_Paths_spread_L15 (l : Launch) {p : Program} {e : Env} {s : State} {m : MethodId} {below : List Frame} {meth : Method} {c : Code} {b n : Nat} {C : CT} (hlo : 191 ≤ n) (k1 : Nat) (hk1 : isTown k1) (F : Cx b p m c b_Paths_spread 7 s ([.ref (b + 185), .ref (b + k1)] : List Value).toArray "WardFalls$Paths" C n 191) (hlk : meth.locks = false) (hr : meth.sig.returnType = some .boolean) {res : Mem × Int} (bk4 : Mem → Int → Int → Option (Mem × Int)) (hbk4 : ∀ (M : Mem) (v2_ : Int) (hv2_ : v2_ = 0 ∨ v2_ = 1) (v3_ : Int) (hv3_ : InR v3_) (H : Heap) (locs : List Loc) (ls : Array Slot), St b C n M s H locs → lv_has ls 7 [(0, .ref (b + 185)), (1, .ref (b + k1)), (2, vI v2_), (3, vI v3_)] → bk4 M v2_ v3_ = some res → W p l e (headSpec (wsM y_Paths_spread b_Paths_spread 7 (some .boolean)) (rmD 3)).room s m ([.ref (b + 185), .ref (b + k1)] : List Value).toArray below meth c H locs 0 0 (MQ below (QZ b C n res.1 res.2) ([.ref (b + 185), .ref (b + k1)] : List Value).toArray s 0 0 (frb b)) (F0 m 4 ls [])) : ∀ (fu : Nat) (M : Mem) (v2_ : Int) (hv2_ : v2_ = 0 ∨ v2_ = 1) (v3_ : Int) (hv3_ : InR v3_) (v4_ : Int) (hv4_ : InR v4_) (H : Heap) (locs : List Loc) (ls : Array Slot), St b C n M s H locs → lv_has ls 7 [(0, .ref (b + 185)), (1, .ref (b + k1)), (2, vI v2_), (3, vI v3_), (4, vI v4_)] → t_Paths_spread_L15 k1 bk4 fu M v2_ v3_ v4_ = some res → W p l e (headSpec (wsM y_Paths_spread b_Paths_spread 7 (some .boolean)) (rmD 3)).room s m ([.ref (b + 185), .ref (b + k1)] : List Value).toArray below meth c H locs 0 0 (MQ below (QZ b C n res.1 res.2) ([.ref (b + 185), .ref (b + k1)] : List Value).toArray s 0 0 (frb b)) (F0 m 15 ls []) := by
  intro fu
  induction fu with
  | zero => intro M v2_ hv2_ v3_ hv3_ v4_ hv4_ H locs ls hS hl hT; exact absurd hT (by simp [t_Paths_spread_L15])
  | succ fu ih =>
    intro M v2_ hv2_ v3_ hv3_ v4_ hv4_ H locs ls hS hl hT
    rw [t_Paths_spread_L15] at hT
    refine lv_iload F.hx F.hb d_Paths_spread_15 (lv_at hl 4 rfl) ?_
    refine r_iconst F.hx F.hb d_Paths_spread_17 ?_
    refine r_icmp_ge (tgt := 76) F.hx F.hb hv4_ (inr_c rfl) d_Paths_spread_18 (by decide) (fun c3 => ?_) (fun c3 => ?_)
    · replace hT := (if_pos c3).symm.trans hT
      refine lv_iinc (v := Int32.ofInt (w32 (v3_ + 1))) (lv' := [(3, vI (w32 (v3_ + 1))), (0, .ref (b + 185)), (1, .ref (b + k1)), (2, vI v2_), (4, vI v4_)]) F.hx F.hb d_Paths_spread_76 hl (k := 3) rfl (q_of_add _ _) (Nat.le_of_ble_eq_true rfl) rfl (fun ls hl => ?_)
      refine lv_goto (tgt := 4) F.hx F.hb d_Paths_spread_79 (by decide) ?_
      exact hbk4 M v2_ hv2_ (w32 (v3_ + 1)) (inr_w32 _) _ _ _ hS (lv_sub hl [1, 2, 3, 0] rfl) hT
    · replace hT := (if_neg c3).symm.trans hT
      refine lv_aload_n F.hx F.hb d_Paths_spread_21 rfl (lv_at hl 0 rfl) ?_
      refine lv_aload_n F.hx F.hb d_Paths_spread_22 rfl (lv_at hl 1 rfl) ?_
      refine lv_iload_n F.hx F.hb d_Paths_spread_23 rfl (lv_at hl 3 rfl) ?_
      refine lv_iload F.hx F.hb d_Paths_spread_24 (lv_at hl 4 rfl) ?_
      obtain ⟨q4, hq4⟩ : ∃ q, q = (t_Paths_leftBy M k1 v3_ v4_) := ⟨_, rfl⟩
      replace hT := qlet_eq hT hq4
      refine r_backI F hS (r_runV (k := 185) (N := 5) (T := T7) (As := [.ref (b + k1), vI v3_, vI v4_]) F hS (show 185 < 191 by decide) (show shK 185 = 11 from rfl) rfl (c_Paths_leftBy l F.2.2.1 M k1 v3_ v4_ hk1 hv3_ hv4_ _ hq4.symm) gs_Paths_84 hd_Paths_leftBy ⟨Nat.le_of_ble_eq_true rfl, Nat.le_of_ble_eq_true rfl⟩ rfl hl.1 (Nat.le_of_ble_eq_true rfl) ⟨Nat.zero_le _, Nat.zero_le _⟩ rfl d_Paths_spread_26) (fun H locs hS h5 => ?_)
      refine lv_istore (lv' := [(5, vI q4), (0, .ref (b + 185)), (1, .ref (b + k1)), (2, vI v2_), (3, vI v3_), (4, vI v4_)]) F.hx F.hb d_Paths_spread_29 hl (Nat.le_of_ble_eq_true rfl) rfl (fun ls hl => ?_)
      refine lv_aload_n F.hx F.hb d_Paths_spread_31 rfl (lv_at hl 1 rfl) ?_
      refine r_get (v := .ref (b + 187)) (N := 5) (T := T7) (j := 1) F hS (show 185 < 191 by decide) (show shK 185 = 11 from rfl) (show shN 185 = 5 from rfl) rfl (Nat.le_of_ble_eq_true rfl) ing7 mw_476 (fv_sg rfl rfl rfl) d_Paths_spread_32 ?_
      refine lv_iload_n F.hx F.hb d_Paths_spread_35 rfl (lv_at hl 4 rfl) ?_
      obtain ⟨q6, hq6⟩ : ∃ q, q = (t_WF_look M 187 48 v3_) := ⟨_, rfl⟩
      replace hT := qlet_eq hT hq6
      refine r_backI F hS (r_runSN (As := [.ref (b + 187), vI v3_]) F hS (c_WF_look l F.2.2.1 M 187 48 v3_ (show arrP 0 187 48 191 from ⟨rfl, rfl, by decide⟩) hv3_ _ hq6.symm) mw_519 mw_518 mw_1 gs_Paths_45 hd_WF_look ⟨Nat.le_of_ble_eq_true rfl, Nat.le_of_ble_eq_true rfl⟩ rfl hl.1 (Nat.le_of_ble_eq_true rfl) ⟨Nat.zero_le _, Nat.zero_le _⟩ rfl d_Paths_spread_36) (fun H locs hS h7 => ?_)
      refine lv_istore (lv' := [(6, vI q6), (5, vI q4), (0, .ref (b + 185)), (1, .ref (b + k1)), (2, vI v2_), (3, vI v3_), (4, vI v4_)]) F.hx F.hb d_Paths_spread_39 hl (Nat.le_of_ble_eq_true rfl) rfl (fun ls hl => ?_)
      refine lv_iload F.hx F.hb d_Paths_spread_41 (lv_at hl 1 rfl) ?_
      refine r_if_lt (tgt := 70) F.hx F.hb h5 d_Paths_spread_43 (by decide) (fun c8 => ?_) (fun c8 => ?_)
      · replace hT := (if_pos c8).symm.trans hT
        exact k_Paths_spread_L70 l hlo k1 hk1 F hlk hr bk4 hbk4 (fun a0_ a1_ a2_ a3_ => t_Paths_spread_L15 k1 bk4 fu a0_ a1_ a2_ a3_) ih M v2_ hv2_ v3_ hv3_ v4_ hv4_ _ _ _ hS (lv_sub hl [2, 3, 4, 5, 6] rfl) hT
      · replace hT := (if_neg c8).symm.trans hT
        refine lv_iload F.hx F.hb d_Paths_spread_46 (lv_at hl 0 rfl) ?_
        refine r_if_lt (tgt := 58) F.hx F.hb h7 d_Paths_spread_48 (by decide) (fun c9 => ?_) (fun c9 => ?_)
        · replace hT := (if_pos c9).symm.trans hT
          exact k_Paths_spread_L58 l hlo k1 hk1 F hlk hr bk4 hbk4 (fun a0_ a1_ a2_ a3_ => t_Paths_spread_L15 k1 bk4 fu a0_ a1_ a2_ a3_) ih M v3_ hv3_ v4_ hv4_ q4 h5 _ _ _ hS (lv_sub hl [2, 3, 5, 6, 1] rfl) hT
        · replace hT := (if_neg c9).symm.trans hT
          refine lv_iload F.hx F.hb d_Paths_spread_51 (lv_at hl 1 rfl) ?_
          refine lv_iload F.hx F.hb d_Paths_spread_53 (lv_at hl 0 rfl) ?_
          refine r_icmp_ge (tgt := 70) F.hx F.hb h5 h7 d_Paths_spread_55 (by decide) (fun c10 => ?_) (fun c10 => ?_)
          · replace hT := (if_pos c10).symm.trans hT
            exact k_Paths_spread_L70 l hlo k1 hk1 F hlk hr bk4 hbk4 (fun a0_ a1_ a2_ a3_ => t_Paths_spread_L15 k1 bk4 fu a0_ a1_ a2_ a3_) ih M v2_ hv2_ v3_ hv3_ v4_ hv4_ _ _ _ hS (lv_sub hl [2, 3, 4, 5, 6] rfl) hT
          · replace hT := (if_neg c10).symm.trans hT
            exact k_Paths_spread_L58 l hlo k1 hk1 F hlk hr bk4 hbk4 (fun a0_ a1_ a2_ a3_ => t_Paths_spread_L15 k1 bk4 fu a0_ a1_ a2_ a3_) ih M v3_ hv3_ v4_ hv4_ q4 h5 _ _ _ hS (lv_sub hl [2, 3, 5, 6, 1] rfl) hT
set_option maxHeartbeats 4000000 in
set_option maxRecDepth 100000 in
theorem k_Paths_spread_L4 (l : Launch) {p : Program} {e : Env} {s : State} {m : MethodId} {below : List Frame} {meth : Method} {c : Code} {b n : Nat} {C : CT} (hlo : 191 ≤ n) (k1 : Nat) (hk1 : isTown k1) (F : Cx b p m c b_Paths_spread 7 s ([.ref (b + 185), .ref (b + k1)] : List Value).toArray "WardFalls$Paths" C n 191) (hlk : meth.locks = false) (hr : meth.sig.returnType = some .boolean) {res : Mem × Int} : ∀ (fu : Nat) (M : Mem) (v2_ : Int) (hv2_ : v2_ = 0 ∨ v2_ = 1) (v3_ : Int) (hv3_ : InR v3_) (H : Heap) (locs : List Loc) (ls : Array Slot), St b C n M s H locs → lv_has ls 7 [(0, .ref (b + 185)), (1, .ref (b + k1)), (2, vI v2_), (3, vI v3_)] → t_Paths_spread_L4 k1 fu M v2_ v3_ = some res → W p l e (headSpec (wsM y_Paths_spread b_Paths_spread 7 (some .boolean)) (rmD 3)).room s m ([.ref (b + 185), .ref (b + k1)] : List Value).toArray below meth c H locs 0 0 (MQ below (QZ b C n res.1 res.2) ([.ref (b + 185), .ref (b + k1)] : List Value).toArray s 0 0 (frb b)) (F0 m 4 ls []) := by
  intro fu
  induction fu with
  | zero => intro M v2_ hv2_ v3_ hv3_ H locs ls hS hl hT; exact absurd hT (by simp [t_Paths_spread_L4])
  | succ fu ih =>
    intro M v2_ hv2_ v3_ hv3_ H locs ls hS hl hT
    rw [t_Paths_spread_L4] at hT
    refine lv_iload_n F.hx F.hb d_Paths_spread_4 rfl (lv_at hl 3 rfl) ?_
    refine lv_aload_n F.hx F.hb d_Paths_spread_5 rfl (lv_at hl 1 rfl) ?_
    refine r_get (v := vI (M.1 k1 13)) (N := 20) (T := T11) (j := 13) F hS (Town_lt hk1) (Town_sh hk1) (Town_N hk1) rfl (Nat.le_of_ble_eq_true rfl) ing11 mw_127 (fv_int rfl) d_Paths_spread_6 ?_
    have i1 := hS.rng k1 13
    refine r_icmp_ge (tgt := 82) F.hx F.hb hv3_ i1 d_Paths_spread_9 (by decide) (fun c2 => ?_) (fun c2 => ?_)
    · replace hT := (if_pos c2).symm.trans hT
      refine lv_iload_n F.hx F.hb d_Paths_spread_82 rfl (lv_at hl 2 rfl) ?_
      cases hT
      exact r_zret F hlk hr hS hv2_ d_Paths_spread_83
    · replace hT := (if_neg c2).symm.trans hT
      refine r_iconst F.hx F.hb d_Paths_spread_12 ?_
      refine lv_istore (lv' := [(4, vI 0), (0, .ref (b + 185)), (1, .ref (b + k1)), (2, vI v2_), (3, vI v3_)]) F.hx F.hb d_Paths_spread_13 hl (Nat.le_of_ble_eq_true rfl) rfl (fun ls hl => ?_)
      exact k_Paths_spread_L15 l hlo k1 hk1 F hlk hr (fun a0_ a1_ a2_ => t_Paths_spread_L4 k1 fu a0_ a1_ a2_) ih FU M v2_ hv2_ v3_ hv3_ 0 (inr_c rfl) _ _ _ hS (lv_sub hl [1, 2, 3, 4, 0] rfl) hT
set_option maxHeartbeats 4000000 in
set_option maxRecDepth 100000 in
theorem c_Paths_spread (l : Launch) {b n : Nat} {C : CT} (hlo : 191 ≤ n) (M : Mem) (k1 : Nat) (hk1 : isTown k1) (res : Mem × Int) (hT : t_Paths_spread M k1 = some res) : CM l b C n 3 y_Paths_spread b_Paths_spread 7 (some .boolean) [.ref (b + 185), .ref (b + k1)] M (QZ b C n res.1 res.2) := by
  refine CM.of (lo := 191) (ow := "WardFalls$Paths") (by decide) rfl (Nat.le_of_ble_eq_true rfl) hlo (fun p e s m below meth c F hlk hr hS ls hl => ?_)
  have hl : lv_has ls 7 [(0, .ref (b + 185)), (1, .ref (b + k1))] := hl
  unfold t_Paths_spread at hT
  refine r_iconst F.hx F.hb d_Paths_spread_0 ?_
  refine lv_istore_n (lv' := [(2, vI 0), (0, .ref (b + 185)), (1, .ref (b + k1))]) F.hx F.hb d_Paths_spread_1 rfl hl (Nat.le_of_ble_eq_true rfl) rfl (fun ls hl => ?_)
  refine r_iconst F.hx F.hb d_Paths_spread_2 ?_
  refine lv_istore_n (lv' := [(3, vI 0), (2, vI 0), (0, .ref (b + 185)), (1, .ref (b + k1))]) F.hx F.hb d_Paths_spread_3 rfl hl (Nat.le_of_ble_eq_true rfl) rfl (fun ls hl => ?_)
  exact k_Paths_spread_L4 l hlo k1 hk1 F hlk hr FU M 0 (Or.inl rfl) 0 (inr_c rfl) _ _ _ hS (lv_sub hl [2, 3, 1, 0] rfl) hT
theorem d_Paths_trace_0 : decode b_Paths_trace 0 = .ok (.iload_n 2, 1) := dc_28 (by decide +kernel)
theorem d_Paths_trace_1 : decode b_Paths_trace 1 = .ok (.istore_n 3, 1) := dc_62 (by decide +kernel)
theorem d_Paths_trace_2 : decode b_Paths_trace 2 = .ok (.iconst 0, 1) := dc_3 (by decide +kernel)
theorem d_Paths_trace_3 : decode b_Paths_trace 3 = .ok (.istore 4, 2) := dc_54 (by decide +kernel)
theorem d_Paths_trace_5 : decode b_Paths_trace 5 = .ok (.iload 4, 2) := dc_21 (by decide +kernel)
theorem d_Paths_trace_7 : decode b_Paths_trace 7 = .ok (.bipush 48, 2) := dc_16 (by decide +kernel)
theorem d_Paths_trace_9 : decode b_Paths_trace 9 = .ok (.if_icmp .ge 81, 3) := dc_162 (by decide +kernel)
theorem d_Paths_trace_12 : decode b_Paths_trace 12 = .ok (.aload_n 0, 1) := dc_42 (by decide +kernel)
theorem d_Paths_trace_13 : decode b_Paths_trace 13 = .ok (.getfield 18, 3) := dc_180 (by decide +kernel)
theorem d_Paths_trace_16 : decode b_Paths_trace 16 = .ok (.iload 4, 2) := dc_21 (by decide +kernel)
theorem d_Paths_trace_18 : decode b_Paths_trace 18 = .ok (.iload_n 3, 1) := dc_29 (by decide +kernel)
theorem d_Paths_trace_19 : decode b_Paths_trace 19 = .ok (.invokestatic 34, 3) := dc_184 (by decide +kernel)
theorem d_Paths_trace_22 : decode b_Paths_trace 22 = .ok (.aload_n 0, 1) := dc_42 (by decide +kernel)
theorem d_Paths_trace_23 : decode b_Paths_trace 23 = .ok (.iload 4, 2) := dc_21 (by decide +kernel)
theorem d_Paths_trace_25 : decode b_Paths_trace 25 = .ok (.iconst 1, 1) := dc_4 (by decide +kernel)
theorem d_Paths_trace_26 : decode b_Paths_trace 26 = .ok (.iadd, 1) := dc_96 (by decide +kernel)
theorem d_Paths_trace_27 : decode b_Paths_trace 27 = .ok (.putfield 42, 3) := dc_181 (by decide +kernel)
theorem d_Paths_trace_30 : decode b_Paths_trace 30 = .ok (.aload_n 0, 1) := dc_42 (by decide +kernel)
theorem d_Paths_trace_31 : decode b_Paths_trace 31 = .ok (.getfield 15, 3) := dc_180 (by decide +kernel)
theorem d_Paths_trace_34 : decode b_Paths_trace 34 = .ok (.iload_n 3, 1) := dc_29 (by decide +kernel)
theorem d_Paths_trace_35 : decode b_Paths_trace 35 = .ok (.invokestatic 45, 3) := dc_184 (by decide +kernel)
theorem d_Paths_trace_38 : decode b_Paths_trace 38 = .ok (.ifCond .ne 4, 3) := dc_154 (by decide +kernel)
theorem d_Paths_trace_41 : decode b_Paths_trace 41 = .ok (.return_, 1) := dc_177 (by decide +kernel)
theorem d_Paths_trace_42 : decode b_Paths_trace 42 = .ok (.iconst 0, 1) := dc_3 (by decide +kernel)
theorem d_Paths_trace_43 : decode b_Paths_trace 43 = .ok (.istore 5, 2) := dc_54 (by decide +kernel)
theorem d_Paths_trace_45 : decode b_Paths_trace 45 = .ok (.iload 5, 2) := dc_21 (by decide +kernel)
theorem d_Paths_trace_47 : decode b_Paths_trace 47 = .ok (.iconst 3, 1) := dc_6 (by decide +kernel)
theorem d_Paths_trace_48 : decode b_Paths_trace 48 = .ok (.if_icmp .ge 28, 3) := dc_162 (by decide +kernel)
theorem d_Paths_trace_51 : decode b_Paths_trace 51 = .ok (.aload_n 0, 1) := dc_42 (by decide +kernel)
theorem d_Paths_trace_52 : decode b_Paths_trace 52 = .ok (.aload_n 1, 1) := dc_43 (by decide +kernel)
theorem d_Paths_trace_53 : decode b_Paths_trace 53 = .ok (.iload_n 3, 1) := dc_29 (by decide +kernel)
theorem d_Paths_trace_54 : decode b_Paths_trace 54 = .ok (.iload 5, 2) := dc_21 (by decide +kernel)
theorem d_Paths_trace_56 : decode b_Paths_trace 56 = .ok (.invokevirtual 84, 3) := dc_182 (by decide +kernel)
theorem d_Paths_trace_59 : decode b_Paths_trace 59 = .ok (.aload_n 0, 1) := dc_42 (by decide +kernel)
theorem d_Paths_trace_60 : decode b_Paths_trace 60 = .ok (.getfield 15, 3) := dc_180 (by decide +kernel)
theorem d_Paths_trace_63 : decode b_Paths_trace 63 = .ok (.iload_n 3, 1) := dc_29 (by decide +kernel)
theorem d_Paths_trace_64 : decode b_Paths_trace 64 = .ok (.invokestatic 45, 3) := dc_184 (by decide +kernel)
theorem d_Paths_trace_67 : decode b_Paths_trace 67 = .ok (.if_icmp .eq 9, 3) := dc_159 (by decide +kernel)
theorem d_Paths_trace_70 : decode b_Paths_trace 70 = .ok (.iinc 5 1, 3) := dc_132 (by decide +kernel)
theorem d_Paths_trace_73 : decode b_Paths_trace 73 = .ok (.goto (-28), 3) := dc_167 (by decide +kernel)
theorem d_Paths_trace_76 : decode b_Paths_trace 76 = .ok (.aload_n 1, 1) := dc_43 (by decide +kernel)
theorem d_Paths_trace_77 : decode b_Paths_trace 77 = .ok (.iload_n 3, 1) := dc_29 (by decide +kernel)
theorem d_Paths_trace_78 : decode b_Paths_trace 78 = .ok (.iload 5, 2) := dc_21 (by decide +kernel)
theorem d_Paths_trace_80 : decode b_Paths_trace 80 = .ok (.invokevirtual 26, 3) := dc_182 (by decide +kernel)
theorem d_Paths_trace_83 : decode b_Paths_trace 83 = .ok (.istore_n 3, 1) := dc_62 (by decide +kernel)
theorem d_Paths_trace_84 : decode b_Paths_trace 84 = .ok (.iinc 4 1, 3) := dc_132 (by decide +kernel)
theorem d_Paths_trace_87 : decode b_Paths_trace 87 = .ok (.goto (-82), 3) := dc_167 (by decide +kernel)
theorem d_Paths_trace_90 : decode b_Paths_trace 90 = .ok (.return_, 1) := dc_177 (by decide +kernel)
def t_Paths_trace_L76 (k1 : Nat) (x2 : Int) (bk5 : Mem → Int → Int → Option (Mem)) (M : Mem) (v2_ : Int) (v3_ : Int) (v4_ : Int) : Option (Mem) := (qlet (t_Town_beside M k1 v2_ v4_) fun q14 => (bk5 M q14 (w32 (v3_ + 1))))
def t_Paths_trace_L45 (k1 : Nat) (x2 : Int) (bk5 : Mem → Int → Int → Option (Mem)) : Nat → Mem → Int → Int → Int → Option (Mem)
  | 0, _, _, _, _ => none
  | fu + 1, M, v2_, v3_, v4_ => (if 3 ≤ v4_ then (t_Paths_trace_L76 k1 x2 bk5 M v2_ v3_ v4_) else (qlet (t_Paths_leftBy M k1 v2_ v4_) fun q9 => (qlet (t_WF_look M 187 48 v2_) fun q11 => (if q9 = q11 then (t_Paths_trace_L76 k1 x2 bk5 M v2_ v3_ v4_) else (t_Paths_trace_L45 k1 x2 bk5 fu M v2_ v3_ (w32 (v4_ + 1)))))))
def t_Paths_trace_L5 (k1 : Nat) (x2 : Int)  : Nat → Mem → Int → Int → Option (Mem)
  | 0, _, _, _ => none
  | fu + 1, M, v2_, v3_ => (if 48 ≤ v3_ then (some M) else (qlet (t_WF_put M 188 48 v3_ v2_) fun q2 => (qlet (setI q2 185 3 (w32 (v3_ + 1))) fun M4 => (qlet (t_WF_look M4 187 48 v2_) fun q5 => (if q5 = 0 then (some M4) else (t_Paths_trace_L45 k1 x2 (fun a0_ a1_ a2_ => t_Paths_trace_L5 k1 x2 fu a0_ a1_ a2_) FU M4 v2_ v3_ 0))))))
def t_Paths_trace (M : Mem) (k1 : Nat) (x2 : Int) : Option (Mem) := (t_Paths_trace_L5 k1 x2 FU M x2 0)
set_option maxHeartbeats 4000000 in
set_option maxRecDepth 100000 in
theorem k_Paths_trace_L76 (l : Launch) {p : Program} {e : Env} {s : State} {m : MethodId} {below : List Frame} {meth : Method} {c : Code} {b n : Nat} {C : CT} (hlo : 191 ≤ n) (k1 : Nat) (x2 : Int) (hk1 : isTown k1) (hx2 : InR x2) (F : Cx b p m c b_Paths_trace 6 s ([.ref (b + 185), .ref (b + k1), vI x2] : List Value).toArray "WardFalls$Paths" C n 191) (hlk : meth.locks = false) (hr : meth.sig.returnType = none) {res : Mem} (bk5 : Mem → Int → Int → Option (Mem)) (hbk5 : ∀ (M : Mem) (v2_ : Int) (hv2_ : InR v2_) (v3_ : Int) (hv3_ : InR v3_) (H : Heap) (locs : List Loc) (ls : Array Slot), St b C n M s H locs → lv_has ls 6 [(0, .ref (b + 185)), (1, .ref (b + k1)), (3, vI v2_), (4, vI v3_)] → bk5 M v2_ v3_ = some res → W p l e (headSpec (wsM y_Paths_trace b_Paths_trace 6 (none)) (rmD 3)).room s m ([.ref (b + 185), .ref (b + k1), vI x2] : List Value).toArray below meth c H locs 0 0 (MQ below (QV b C n res) ([.ref (b + 185), .ref (b + k1), vI x2] : List Value).toArray s 0 0 (frb b)) (F0 m 5 ls [])) (M : Mem) (v2_ : Int) (hv2_ : InR v2_) (v3_ : Int) (hv3_ : InR v3_) (v4_ : Int) (hv4_ : InR v4_) (H : Heap) (locs : List Loc) (ls : Array Slot) (hS : St b C n M s H locs) (hl : lv_has ls 6 [(0, .ref (b + 185)), (1, .ref (b + k1)), (3, vI v2_), (4, vI v3_), (5, vI v4_)]) (hT : t_Paths_trace_L76 k1 x2 bk5 M v2_ v3_ v4_ = some res) : W p l e (headSpec (wsM y_Paths_trace b_Paths_trace 6 (none)) (rmD 3)).room s m ([.ref (b + 185), .ref (b + k1), vI x2] : List Value).toArray below meth c H locs 0 0 (MQ below (QV b C n res) ([.ref (b + 185), .ref (b + k1), vI x2] : List Value).toArray s 0 0 (frb b)) (F0 m 76 ls []) := by
  unfold t_Paths_trace_L76 at hT
  refine lv_aload_n F.hx F.hb d_Paths_trace_76 rfl (lv_at hl 1 rfl) ?_
  refine lv_iload_n F.hx F.hb d_Paths_trace_77 rfl (lv_at hl 2 rfl) ?_
  refine lv_iload F.hx F.hb d_Paths_trace_78 (lv_at hl 4 rfl) ?_
  obtain ⟨q14, hq14⟩ : ∃ q, q = (t_Town_beside M k1 v2_ v4_) := ⟨_, rfl⟩
  replace hT := qlet_eq hT hq14
  refine r_backI F hS (r_runV (k := k1) (N := 20) (T := T11) (As := [vI v2_, vI v4_]) F hS (Town_lt hk1) (Town_sh hk1) rfl (c_Town_beside l F.2.2.1 M k1 v2_ v4_ hk1 hv2_ hv4_ _ hq14.symm) gs_Paths_26 hd_Town_beside ⟨Nat.le_of_ble_eq_true rfl, Nat.le_of_ble_eq_true rfl⟩ rfl hl.1 (Nat.le_of_ble_eq_true rfl) ⟨Nat.zero_le _, Nat.zero_le _⟩ rfl d_Paths_trace_80) (fun H locs hS h15 => ?_)
  refine lv_istore_n (lv' := [(3, vI q14), (0, .ref (b + 185)), (1, .ref (b + k1)), (4, vI v3_), (5, vI v4_)]) F.hx F.hb d_Paths_trace_83 rfl hl (Nat.le_of_ble_eq_true rfl) rfl (fun ls hl => ?_)
  refine lv_iinc (v := Int32.ofInt (w32 (v3_ + 1))) (lv' := [(4, vI (w32 (v3_ + 1))), (3, vI q14), (0, .ref (b + 185)), (1, .ref (b + k1)), (5, vI v4_)]) F.hx F.hb d_Paths_trace_84 hl (k := 3) rfl (q_of_add _ _) (Nat.le_of_ble_eq_true rfl) rfl (fun ls hl => ?_)
  refine lv_goto (tgt := 5) F.hx F.hb d_Paths_trace_87 (by decide) ?_
  exact hbk5 M q14 h15 (w32 (v3_ + 1)) (inr_w32 _) _ _ _ hS (lv_sub hl [2, 3, 1, 0] rfl) hT
set_option maxHeartbeats 4000000 in
set_option maxRecDepth 100000 in
theorem k_Paths_trace_L45 (l : Launch) {p : Program} {e : Env} {s : State} {m : MethodId} {below : List Frame} {meth : Method} {c : Code} {b n : Nat} {C : CT} (hlo : 191 ≤ n) (k1 : Nat) (x2 : Int) (hk1 : isTown k1) (hx2 : InR x2) (F : Cx b p m c b_Paths_trace 6 s ([.ref (b + 185), .ref (b + k1), vI x2] : List Value).toArray "WardFalls$Paths" C n 191) (hlk : meth.locks = false) (hr : meth.sig.returnType = none) {res : Mem} (bk5 : Mem → Int → Int → Option (Mem)) (hbk5 : ∀ (M : Mem) (v2_ : Int) (hv2_ : InR v2_) (v3_ : Int) (hv3_ : InR v3_) (H : Heap) (locs : List Loc) (ls : Array Slot), St b C n M s H locs → lv_has ls 6 [(0, .ref (b + 185)), (1, .ref (b + k1)), (3, vI v2_), (4, vI v3_)] → bk5 M v2_ v3_ = some res → W p l e (headSpec (wsM y_Paths_trace b_Paths_trace 6 (none)) (rmD 3)).room s m ([.ref (b + 185), .ref (b + k1), vI x2] : List Value).toArray below meth c H locs 0 0 (MQ below (QV b C n res) ([.ref (b + 185), .ref (b + k1), vI x2] : List Value).toArray s 0 0 (frb b)) (F0 m 5 ls [])) : ∀ (fu : Nat) (M : Mem) (v2_ : Int) (hv2_ : InR v2_) (v3_ : Int) (hv3_ : InR v3_) (v4_ : Int) (hv4_ : InR v4_) (H : Heap) (locs : List Loc) (ls : Array Slot), St b C n M s H locs → lv_has ls 6 [(0, .ref (b + 185)), (1, .ref (b + k1)), (3, vI v2_), (4, vI v3_), (5, vI v4_)] → t_Paths_trace_L45 k1 x2 bk5 fu M v2_ v3_ v4_ = some res → W p l e (headSpec (wsM y_Paths_trace b_Paths_trace 6 (none)) (rmD 3)).room s m ([.ref (b + 185), .ref (b + k1), vI x2] : List Value).toArray below meth c H locs 0 0 (MQ below (QV b C n res) ([.ref (b + 185), .ref (b + k1), vI x2] : List Value).toArray s 0 0 (frb b)) (F0 m 45 ls []) := by
  intro fu
  induction fu with
  | zero => intro M v2_ hv2_ v3_ hv3_ v4_ hv4_ H locs ls hS hl hT; exact absurd hT (by simp [t_Paths_trace_L45])
  | succ fu ih =>
    intro M v2_ hv2_ v3_ hv3_ v4_ hv4_ H locs ls hS hl hT
    rw [t_Paths_trace_L45] at hT
    refine lv_iload F.hx F.hb d_Paths_trace_45 (lv_at hl 4 rfl) ?_
    refine r_iconst F.hx F.hb d_Paths_trace_47 ?_
    refine r_icmp_ge (tgt := 76) F.hx F.hb hv4_ (inr_c rfl) d_Paths_trace_48 (by decide) (fun c8 => ?_) (fun c8 => ?_)
    · replace hT := (if_pos c8).symm.trans hT
      exact k_Paths_trace_L76 l hlo k1 x2 hk1 hx2 F hlk hr bk5 hbk5 M v2_ hv2_ v3_ hv3_ v4_ hv4_ _ _ _ hS (lv_sub hl [0, 1, 2, 3, 4] rfl) hT
    · replace hT := (if_neg c8).symm.trans hT
      refine lv_aload_n F.hx F.hb d_Paths_trace_51 rfl (lv_at hl 0 rfl) ?_
      refine lv_aload_n F.hx F.hb d_Paths_trace_52 rfl (lv_at hl 1 rfl) ?_
      refine lv_iload_n F.hx F.hb d_Paths_trace_53 rfl (lv_at hl 2 rfl) ?_
      refine lv_iload F.hx F.hb d_Paths_trace_54 (lv_at hl 4 rfl) ?_
      obtain ⟨q9, hq9⟩ : ∃ q, q = (t_Paths_leftBy M k1 v2_ v4_) := ⟨_, rfl⟩
      replace hT := qlet_eq hT hq9
      refine r_backI F hS (r_runV (k := 185) (N := 5) (T := T7) (As := [.ref (b + k1), vI v2_, vI v4_]) F hS (show 185 < 191 by decide) (show shK 185 = 11 from rfl) rfl (c_Paths_leftBy l F.2.2.1 M k1 v2_ v4_ hk1 hv2_ hv4_ _ hq9.symm) gs_Paths_84 hd_Paths_leftBy ⟨Nat.le_of_ble_eq_true rfl, Nat.le_of_ble_eq_true rfl⟩ rfl hl.1 (Nat.le_of_ble_eq_true rfl) ⟨Nat.zero_le _, Nat.zero_le _⟩ rfl d_Paths_trace_56) (fun H locs hS h10 => ?_)
      refine lv_aload_n F.hx F.hb d_Paths_trace_59 rfl (lv_at hl 0 rfl) ?_
      refine r_get (v := .ref (b + 187)) (N := 5) (T := T7) (j := 1) F hS (show 185 < 191 by decide) (show shK 185 = 11 from rfl) (show shN 185 = 5 from rfl) rfl (Nat.le_of_ble_eq_true rfl) ing7 mw_476 (fv_sg rfl rfl rfl) d_Paths_trace_60 ?_
      refine lv_iload_n F.hx F.hb d_Paths_trace_63 rfl (lv_at hl 2 rfl) ?_
      obtain ⟨q11, hq11⟩ : ∃ q, q = (t_WF_look M 187 48 v2_) := ⟨_, rfl⟩
      replace hT := qlet_eq hT hq11
      refine r_backI F hS (r_runSN (As := [.ref (b + 187), vI v2_]) F hS (c_WF_look l F.2.2.1 M 187 48 v2_ (show arrP 0 187 48 191 from ⟨rfl, rfl, by decide⟩) hv2_ _ hq11.symm) mw_519 mw_518 mw_1 gs_Paths_45 hd_WF_look ⟨Nat.le_of_ble_eq_true rfl, Nat.le_of_ble_eq_true rfl⟩ rfl hl.1 (Nat.le_of_ble_eq_true rfl) ⟨Nat.zero_le _, Nat.zero_le _⟩ rfl d_Paths_trace_64) (fun H locs hS h12 => ?_)
      refine r_icmp_eq (tgt := 76) F.hx F.hb h10 h12 d_Paths_trace_67 (by decide) (fun c13 => ?_) (fun c13 => ?_)
      · replace hT := (if_pos c13).symm.trans hT
        exact k_Paths_trace_L76 l hlo k1 x2 hk1 hx2 F hlk hr bk5 hbk5 M v2_ hv2_ v3_ hv3_ v4_ hv4_ _ _ _ hS (lv_sub hl [0, 1, 2, 3, 4] rfl) hT
      · replace hT := (if_neg c13).symm.trans hT
        refine lv_iinc (v := Int32.ofInt (w32 (v4_ + 1))) (lv' := [(5, vI (w32 (v4_ + 1))), (0, .ref (b + 185)), (1, .ref (b + k1)), (3, vI v2_), (4, vI v3_)]) F.hx F.hb d_Paths_trace_70 hl (k := 4) rfl (q_of_add _ _) (Nat.le_of_ble_eq_true rfl) rfl (fun ls hl => ?_)
        refine lv_goto (tgt := 45) F.hx F.hb d_Paths_trace_73 (by decide) ?_
        exact ih M v2_ hv2_ v3_ hv3_ (w32 (v4_ + 1)) (inr_w32 _) _ _ _ hS (lv_sub hl [1, 2, 3, 4, 0] rfl) hT
set_option maxHeartbeats 4000000 in
set_option maxRecDepth 100000 in
theorem k_Paths_trace_L5 (l : Launch) {p : Program} {e : Env} {s : State} {m : MethodId} {below : List Frame} {meth : Method} {c : Code} {b n : Nat} {C : CT} (hlo : 191 ≤ n) (k1 : Nat) (x2 : Int) (hk1 : isTown k1) (hx2 : InR x2) (F : Cx b p m c b_Paths_trace 6 s ([.ref (b + 185), .ref (b + k1), vI x2] : List Value).toArray "WardFalls$Paths" C n 191) (hlk : meth.locks = false) (hr : meth.sig.returnType = none) {res : Mem} : ∀ (fu : Nat) (M : Mem) (v2_ : Int) (hv2_ : InR v2_) (v3_ : Int) (hv3_ : InR v3_) (H : Heap) (locs : List Loc) (ls : Array Slot), St b C n M s H locs → lv_has ls 6 [(0, .ref (b + 185)), (1, .ref (b + k1)), (3, vI v2_), (4, vI v3_)] → t_Paths_trace_L5 k1 x2 fu M v2_ v3_ = some res → W p l e (headSpec (wsM y_Paths_trace b_Paths_trace 6 (none)) (rmD 3)).room s m ([.ref (b + 185), .ref (b + k1), vI x2] : List Value).toArray below meth c H locs 0 0 (MQ below (QV b C n res) ([.ref (b + 185), .ref (b + k1), vI x2] : List Value).toArray s 0 0 (frb b)) (F0 m 5 ls []) := by
  intro fu
  induction fu with
  | zero => intro M v2_ hv2_ v3_ hv3_ H locs ls hS hl hT; exact absurd hT (by simp [t_Paths_trace_L5])
  | succ fu ih =>
    intro M v2_ hv2_ v3_ hv3_ H locs ls hS hl hT
    rw [t_Paths_trace_L5] at hT
    refine lv_iload F.hx F.hb d_Paths_trace_5 (lv_at hl 3 rfl) ?_
    refine r_bipush F.hx F.hb d_Paths_trace_7 rfl ?_
    refine r_icmp_ge (tgt := 90) F.hx F.hb hv3_ (inr_c rfl) d_Paths_trace_9 (by decide) (fun c1 => ?_) (fun c1 => ?_)
    · replace hT := (if_pos c1).symm.trans hT
      cases hT
      exact r_vret F hlk hr hS d_Paths_trace_90
    · replace hT := (if_neg c1).symm.trans hT
      refine lv_aload_n F.hx F.hb d_Paths_trace_12 rfl (lv_at hl 0 rfl) ?_
      refine r_get (v := .ref (b + 188)) (N := 5) (T := T7) (j := 2) F hS (show 185 < 191 by decide) (show shK 185 = 11 from rfl) (show shN 185 = 5 from rfl) rfl (Nat.le_of_ble_eq_true rfl) ing7 mw_477 (fv_sg rfl rfl rfl) d_Paths_trace_13 ?_
      refine lv_iload F.hx F.hb d_Paths_trace_16 (lv_at hl 3 rfl) ?_
      refine lv_iload_n F.hx F.hb d_Paths_trace_18 rfl (lv_at hl 2 rfl) ?_
      obtain ⟨q2, hq2⟩ : ∃ q, q = (t_WF_put M 188 48 v3_ v2_) := ⟨_, rfl⟩
      replace hT := qlet_eq hT hq2
      refine r_backV F hS (r_runSN (As := [.ref (b + 188), vI v3_, vI v2_]) F hS (c_WF_put l F.2.2.1 M 188 48 v3_ v2_ (show arrP 0 188 48 191 from ⟨rfl, rfl, by decide⟩) hv3_ hv2_ _ hq2.symm) mw_512 mw_511 mw_1 gs_Paths_34 hd_WF_put ⟨Nat.le_of_ble_eq_true rfl, Nat.le_of_ble_eq_true rfl⟩ rfl hl.1 (Nat.le_of_ble_eq_true rfl) ⟨Nat.zero_le _, Nat.zero_le _⟩ rfl d_Paths_trace_19) (fun H locs hS => ?_)
      refine lv_aload_n F.hx F.hb d_Paths_trace_22 rfl (lv_at hl 0 rfl) ?_
      refine lv_iload F.hx F.hb d_Paths_trace_23 (lv_at hl 3 rfl) ?_
      refine r_iconst F.hx F.hb d_Paths_trace_25 ?_
      refine r_iadd F.hx F.hb d_Paths_trace_26 ?_
      refine r_putI (N := 5) (T := T7) (j := 3) F hS (show 185 < 191 by decide) (show shK 185 = 11 from rfl) (show shN 185 = 5 from rfl) rfl (Nat.le_of_ble_eq_true rfl) ing7 tyok7 nm7 rfl rfl rfl rfl rfl rfl mw_478 (inr_w32 _) d_Paths_trace_27 (fun H locs hS => ?_)
      obtain ⟨M4, eM4⟩ : ∃ q, q = (setI q2 185 3 (w32 (v3_ + 1))) := ⟨_, rfl⟩
      replace hS : St b C n M4 s H locs := by rw [eM4]; exact hS
      replace hT := qlet_eq hT eM4
      refine lv_aload_n F.hx F.hb d_Paths_trace_30 rfl (lv_at hl 0 rfl) ?_
      refine r_get (v := .ref (b + 187)) (N := 5) (T := T7) (j := 1) F hS (show 185 < 191 by decide) (show shK 185 = 11 from rfl) (show shN 185 = 5 from rfl) rfl (Nat.le_of_ble_eq_true rfl) ing7 mw_476 (fv_sg rfl rfl rfl) d_Paths_trace_31 ?_
      refine lv_iload_n F.hx F.hb d_Paths_trace_34 rfl (lv_at hl 2 rfl) ?_
      obtain ⟨q5, hq5⟩ : ∃ q, q = (t_WF_look M4 187 48 v2_) := ⟨_, rfl⟩
      replace hT := qlet_eq hT hq5
      refine r_backI F hS (r_runSN (As := [.ref (b + 187), vI v2_]) F hS (c_WF_look l F.2.2.1 M4 187 48 v2_ (show arrP 0 187 48 191 from ⟨rfl, rfl, by decide⟩) hv2_ _ hq5.symm) mw_519 mw_518 mw_1 gs_Paths_45 hd_WF_look ⟨Nat.le_of_ble_eq_true rfl, Nat.le_of_ble_eq_true rfl⟩ rfl hl.1 (Nat.le_of_ble_eq_true rfl) ⟨Nat.zero_le _, Nat.zero_le _⟩ rfl d_Paths_trace_35) (fun H locs hS h6 => ?_)
      refine r_if_ne (tgt := 42) F.hx F.hb h6 d_Paths_trace_38 (by decide) (fun c7 => ?_) (fun c7 => ?_)
      · replace hT := (if_neg c7).symm.trans hT
        refine r_iconst F.hx F.hb d_Paths_trace_42 ?_
        refine lv_istore (lv' := [(5, vI 0), (0, .ref (b + 185)), (1, .ref (b + k1)), (3, vI v2_), (4, vI v3_)]) F.hx F.hb d_Paths_trace_43 hl (Nat.le_of_ble_eq_true rfl) rfl (fun ls hl => ?_)
        exact k_Paths_trace_L45 l hlo k1 x2 hk1 hx2 F hlk hr (fun a0_ a1_ a2_ => t_Paths_trace_L5 k1 x2 fu a0_ a1_ a2_) ih FU M4 v2_ hv2_ v3_ hv3_ 0 (inr_c rfl) _ _ _ hS (lv_sub hl [1, 2, 3, 4, 0] rfl) hT
      · replace hT := (if_pos c7).symm.trans hT
        cases hT
        exact r_vret F hlk hr hS d_Paths_trace_41
set_option maxHeartbeats 4000000 in
set_option maxRecDepth 100000 in
theorem c_Paths_trace (l : Launch) {b n : Nat} {C : CT} (hlo : 191 ≤ n) (M : Mem) (k1 : Nat) (x2 : Int) (hk1 : isTown k1) (hx2 : InR x2) (res : Mem) (hT : t_Paths_trace M k1 x2 = some res) : CM l b C n 3 y_Paths_trace b_Paths_trace 6 (none) [.ref (b + 185), .ref (b + k1), vI x2] M (QV b C n res) := by
  refine CM.of (lo := 191) (ow := "WardFalls$Paths") (by decide) rfl (Nat.le_of_ble_eq_true rfl) hlo (fun p e s m below meth c F hlk hr hS ls hl => ?_)
  have hl : lv_has ls 6 [(0, .ref (b + 185)), (1, .ref (b + k1)), (2, vI x2)] := hl
  unfold t_Paths_trace at hT
  refine lv_iload_n F.hx F.hb d_Paths_trace_0 rfl (lv_at hl 2 rfl) ?_
  refine lv_istore_n (lv' := [(3, vI x2), (0, .ref (b + 185)), (1, .ref (b + k1)), (2, vI x2)]) F.hx F.hb d_Paths_trace_1 rfl hl (Nat.le_of_ble_eq_true rfl) rfl (fun ls hl => ?_)
  refine r_iconst F.hx F.hb d_Paths_trace_2 ?_
  refine lv_istore (lv' := [(4, vI 0), (3, vI x2), (0, .ref (b + 185)), (1, .ref (b + k1)), (2, vI x2)]) F.hx F.hb d_Paths_trace_3 hl (Nat.le_of_ble_eq_true rfl) rfl (fun ls hl => ?_)
  exact k_Paths_trace_L5 l hlo k1 x2 hk1 hx2 F hlk hr FU M x2 hx2 0 (inr_c rfl) _ _ _ hS (lv_sub hl [2, 3, 1, 0] rfl) hT
theorem d_Paths_find_0 : decode b_Paths_find 0 = .ok (.aload_n 0, 1) := dc_42 (by decide +kernel)
theorem d_Paths_find_1 : decode b_Paths_find 1 = .ok (.getfield 15, 3) := dc_180 (by decide +kernel)
theorem d_Paths_find_4 : decode b_Paths_find 4 = .ok (.iconst (-1), 1) := dc_2 (by decide +kernel)
theorem d_Paths_find_5 : decode b_Paths_find 5 = .ok (.invokestatic 49, 3) := dc_184 (by decide +kernel)
theorem d_Paths_find_8 : decode b_Paths_find 8 = .ok (.aload_n 0, 1) := dc_42 (by decide +kernel)
theorem d_Paths_find_9 : decode b_Paths_find 9 = .ok (.getfield 15, 3) := dc_180 (by decide +kernel)
theorem d_Paths_find_12 : decode b_Paths_find 12 = .ok (.iload_n 3, 1) := dc_29 (by decide +kernel)
theorem d_Paths_find_13 : decode b_Paths_find 13 = .ok (.iconst 0, 1) := dc_3 (by decide +kernel)
theorem d_Paths_find_14 : decode b_Paths_find 14 = .ok (.invokestatic 34, 3) := dc_184 (by decide +kernel)
theorem d_Paths_find_17 : decode b_Paths_find 17 = .ok (.iconst 1, 1) := dc_4 (by decide +kernel)
theorem d_Paths_find_18 : decode b_Paths_find 18 = .ok (.istore 4, 2) := dc_54 (by decide +kernel)
theorem d_Paths_find_20 : decode b_Paths_find 20 = .ok (.iconst 0, 1) := dc_3 (by decide +kernel)
theorem d_Paths_find_21 : decode b_Paths_find 21 = .ok (.istore 5, 2) := dc_54 (by decide +kernel)
theorem d_Paths_find_23 : decode b_Paths_find 23 = .ok (.iload 5, 2) := dc_21 (by decide +kernel)
theorem d_Paths_find_25 : decode b_Paths_find 25 = .ok (.bipush 48, 2) := dc_16 (by decide +kernel)
theorem d_Paths_find_27 : decode b_Paths_find 27 = .ok (.if_icmp .ge 21, 3) := dc_162 (by decide +kernel)
theorem d_Paths_find_30 : decode b_Paths_find 30 = .ok (.iload 4, 2) := dc_21 (by decide +kernel)
theorem d_Paths_find_32 : decode b_Paths_find 32 = .ok (.ifCond .eq 16, 3) := dc_153 (by decide +kernel)
theorem d_Paths_find_35 : decode b_Paths_find 35 = .ok (.aload_n 0, 1) := dc_42 (by decide +kernel)
theorem d_Paths_find_36 : decode b_Paths_find 36 = .ok (.aload_n 1, 1) := dc_43 (by decide +kernel)
theorem d_Paths_find_37 : decode b_Paths_find 37 = .ok (.invokevirtual 55, 3) := dc_182 (by decide +kernel)
theorem d_Paths_find_40 : decode b_Paths_find 40 = .ok (.istore 4, 2) := dc_54 (by decide +kernel)
theorem d_Paths_find_42 : decode b_Paths_find 42 = .ok (.iinc 5 1, 3) := dc_132 (by decide +kernel)
theorem d_Paths_find_45 : decode b_Paths_find 45 = .ok (.goto (-22), 3) := dc_167 (by decide +kernel)
theorem d_Paths_find_48 : decode b_Paths_find 48 = .ok (.aload_n 0, 1) := dc_42 (by decide +kernel)
theorem d_Paths_find_49 : decode b_Paths_find 49 = .ok (.iconst 0, 1) := dc_3 (by decide +kernel)
theorem d_Paths_find_50 : decode b_Paths_find 50 = .ok (.putfield 42, 3) := dc_181 (by decide +kernel)
theorem d_Paths_find_53 : decode b_Paths_find 53 = .ok (.aload_n 0, 1) := dc_42 (by decide +kernel)
theorem d_Paths_find_54 : decode b_Paths_find 54 = .ok (.aload_n 0, 1) := dc_42 (by decide +kernel)
theorem d_Paths_find_55 : decode b_Paths_find 55 = .ok (.getfield 15, 3) := dc_180 (by decide +kernel)
theorem d_Paths_find_58 : decode b_Paths_find 58 = .ok (.iload_n 2, 1) := dc_28 (by decide +kernel)
theorem d_Paths_find_59 : decode b_Paths_find 59 = .ok (.invokestatic 45, 3) := dc_184 (by decide +kernel)
theorem d_Paths_find_62 : decode b_Paths_find 62 = .ok (.bipush 64, 2) := dc_16 (by decide +kernel)
theorem d_Paths_find_64 : decode b_Paths_find 64 = .ok (.idiv, 1) := dc_108 (by decide +kernel)
theorem d_Paths_find_65 : decode b_Paths_find 65 = .ok (.putfield 59, 3) := dc_181 (by decide +kernel)
theorem d_Paths_find_68 : decode b_Paths_find 68 = .ok (.aload_n 0, 1) := dc_42 (by decide +kernel)
theorem d_Paths_find_69 : decode b_Paths_find 69 = .ok (.getfield 15, 3) := dc_180 (by decide +kernel)
theorem d_Paths_find_72 : decode b_Paths_find 72 = .ok (.iload_n 2, 1) := dc_28 (by decide +kernel)
theorem d_Paths_find_73 : decode b_Paths_find 73 = .ok (.invokestatic 45, 3) := dc_184 (by decide +kernel)
theorem d_Paths_find_76 : decode b_Paths_find 76 = .ok (.ifCond .lt 9, 3) := dc_155 (by decide +kernel)
theorem d_Paths_find_79 : decode b_Paths_find 79 = .ok (.aload_n 0, 1) := dc_42 (by decide +kernel)
theorem d_Paths_find_80 : decode b_Paths_find 80 = .ok (.aload_n 1, 1) := dc_43 (by decide +kernel)
theorem d_Paths_find_81 : decode b_Paths_find 81 = .ok (.iload_n 2, 1) := dc_28 (by decide +kernel)
theorem d_Paths_find_82 : decode b_Paths_find 82 = .ok (.invokevirtual 62, 3) := dc_182 (by decide +kernel)
theorem d_Paths_find_85 : decode b_Paths_find 85 = .ok (.return_, 1) := dc_177 (by decide +kernel)
def t_Paths_find_L48 (k1 : Nat) (x2 : Int) (x3 : Int)  (M : Mem)  : Option (Mem) := (qlet (setI M 185 3 0) fun M9 => (qlet (t_WF_look M9 187 48 x2) fun q10 => (qlet (setI M9 185 4 (q_div q10 64)) fun M12 => (qlet (t_WF_look M12 187 48 x2) fun q13 => (if q13 < 0 then (some M12) else (obind (t_Paths_trace M12 k1 x2) fun q16 => (some q16)))))))
def t_Paths_find_L23 (k1 : Nat) (x2 : Int) (x3 : Int)  : Nat → Mem → Int → Int → Option (Mem)
  | 0, _, _, _ => none
  | fu + 1, M, v3_, v4_ => (if 48 ≤ v4_ then (t_Paths_find_L48 k1 x2 x3 M) else (if v3_ = 0 then (t_Paths_find_L48 k1 x2 x3 M) else (obind (t_Paths_spread M k1) fun q7 => (t_Paths_find_L23 k1 x2 x3 fu (q7.1) (q7.2) (w32 (v4_ + 1))))))
def t_Paths_find (M : Mem) (k1 : Nat) (x2 : Int) (x3 : Int) : Option (Mem) := (obind (t_Arrays_fill M 187 48 (-1)) fun q1 => (qlet (t_WF_put q1 187 48 x3 0) fun q3 => (t_Paths_find_L23 k1 x2 x3 FU q3 1 0)))
set_option maxHeartbeats 4000000 in
set_option maxRecDepth 100000 in
theorem k_Paths_find_L48 (l : Launch) {p : Program} {e : Env} {s : State} {m : MethodId} {below : List Frame} {meth : Method} {c : Code} {b n : Nat} {C : CT} (hlo : 191 ≤ n) (k1 : Nat) (x2 : Int) (x3 : Int) (hk1 : isTown k1) (hx2 : InR x2) (hx3 : InR x3) (F : Cx b p m c b_Paths_find 6 s ([.ref (b + 185), .ref (b + k1), vI x2, vI x3] : List Value).toArray "WardFalls$Paths" C n 191) (hlk : meth.locks = false) (hr : meth.sig.returnType = none) {res : Mem} (M : Mem)  (H : Heap) (locs : List Loc) (ls : Array Slot) (hS : St b C n M s H locs) (hl : lv_has ls 6 [(0, .ref (b + 185)), (1, .ref (b + k1)), (2, vI x2)]) (hT : t_Paths_find_L48 k1 x2 x3 M = some res) : W p l e (headSpec (wsM y_Paths_find b_Paths_find 6 (none)) (rmD 4)).room s m ([.ref (b + 185), .ref (b + k1), vI x2, vI x3] : List Value).toArray below meth c H locs 0 0 (MQ below (QV b C n res) ([.ref (b + 185), .ref (b + k1), vI x2, vI x3] : List Value).toArray s 0 0 (frb b)) (F0 m 48 ls []) := by
  unfold t_Paths_find_L48 at hT
  refine lv_aload_n F.hx F.hb d_Paths_find_48 rfl (lv_at hl 0 rfl) ?_
  refine r_iconst F.hx F.hb d_Paths_find_49 ?_
  refine r_putI (N := 5) (T := T7) (j := 3) F hS (show 185 < 191 by decide) (show shK 185 = 11 from rfl) (show shN 185 = 5 from rfl) rfl (Nat.le_of_ble_eq_true rfl) ing7 tyok7 nm7 rfl rfl rfl rfl rfl rfl mw_478 (inr_c rfl) d_Paths_find_50 (fun H locs hS => ?_)
  obtain ⟨M9, eM9⟩ : ∃ q, q = (setI M 185 3 0) := ⟨_, rfl⟩
  replace hS : St b C n M9 s H locs := by rw [eM9]; exact hS
  replace hT := qlet_eq hT eM9
  refine lv_aload_n F.hx F.hb d_Paths_find_53 rfl (lv_at hl 0 rfl) ?_
  refine lv_aload_n F.hx F.hb d_Paths_find_54 rfl (lv_at hl 0 rfl) ?_
  refine r_get (v := .ref (b + 187)) (N := 5) (T := T7) (j := 1) F hS (show 185 < 191 by decide) (show shK 185 = 11 from rfl) (show shN 185 = 5 from rfl) rfl (Nat.le_of_ble_eq_true rfl) ing7 mw_476 (fv_sg rfl rfl rfl) d_Paths_find_55 ?_
  refine lv_iload_n F.hx F.hb d_Paths_find_58 rfl (lv_at hl 2 rfl) ?_
  obtain ⟨q10, hq10⟩ : ∃ q, q = (t_WF_look M9 187 48 x2) := ⟨_, rfl⟩
  replace hT := qlet_eq hT hq10
  refine r_backI F hS (r_runSN (As := [.ref (b + 187), vI x2]) F hS (c_WF_look l F.2.2.1 M9 187 48 x2 (show arrP 0 187 48 191 from ⟨rfl, rfl, by decide⟩) hx2 _ hq10.symm) mw_519 mw_518 mw_1 gs_Paths_45 hd_WF_look ⟨Nat.le_of_ble_eq_true rfl, Nat.le_of_ble_eq_true rfl⟩ rfl hl.1 (Nat.le_of_ble_eq_true rfl) ⟨Nat.zero_le _, Nat.zero_le _⟩ rfl d_Paths_find_59) (fun H locs hS h11 => ?_)
  refine r_bipush F.hx F.hb d_Paths_find_62 rfl ?_
  refine r_idiv F.hx F.hb (inr_c rfl) (by decide) d_Paths_find_64 ?_
  refine r_putI (N := 5) (T := T7) (j := 4) F hS (show 185 < 191 by decide) (show shK 185 = 11 from rfl) (show shN 185 = 5 from rfl) rfl (Nat.le_of_ble_eq_true rfl) ing7 tyok7 nm7 rfl rfl rfl rfl rfl rfl mw_480 (q_inr_toInt _) d_Paths_find_65 (fun H locs hS => ?_)
  obtain ⟨M12, eM12⟩ : ∃ q, q = (setI M9 185 4 (q_div q10 64)) := ⟨_, rfl⟩
  replace hS : St b C n M12 s H locs := by rw [eM12]; exact hS
  replace hT := qlet_eq hT eM12
  refine lv_aload_n F.hx F.hb d_Paths_find_68 rfl (lv_at hl 0 rfl) ?_
  refine r_get (v := .ref (b + 187)) (N := 5) (T := T7) (j := 1) F hS (show 185 < 191 by decide) (show shK 185 = 11 from rfl) (show shN 185 = 5 from rfl) rfl (Nat.le_of_ble_eq_true rfl) ing7 mw_476 (fv_sg rfl rfl rfl) d_Paths_find_69 ?_
  refine lv_iload_n F.hx F.hb d_Paths_find_72 rfl (lv_at hl 2 rfl) ?_
  obtain ⟨q13, hq13⟩ : ∃ q, q = (t_WF_look M12 187 48 x2) := ⟨_, rfl⟩
  replace hT := qlet_eq hT hq13
  refine r_backI F hS (r_runSN (As := [.ref (b + 187), vI x2]) F hS (c_WF_look l F.2.2.1 M12 187 48 x2 (show arrP 0 187 48 191 from ⟨rfl, rfl, by decide⟩) hx2 _ hq13.symm) mw_519 mw_518 mw_1 gs_Paths_45 hd_WF_look ⟨Nat.le_of_ble_eq_true rfl, Nat.le_of_ble_eq_true rfl⟩ rfl hl.1 (Nat.le_of_ble_eq_true rfl) ⟨Nat.zero_le _, Nat.zero_le _⟩ rfl d_Paths_find_73) (fun H locs hS h14 => ?_)
  refine r_if_lt (tgt := 85) F.hx F.hb h14 d_Paths_find_76 (by decide) (fun c15 => ?_) (fun c15 => ?_)
  · replace hT := (if_pos c15).symm.trans hT
    cases hT
    exact r_vret F hlk hr hS d_Paths_find_85
  · replace hT := (if_neg c15).symm.trans hT
    refine lv_aload_n F.hx F.hb d_Paths_find_79 rfl (lv_at hl 0 rfl) ?_
    refine lv_aload_n F.hx F.hb d_Paths_find_80 rfl (lv_at hl 1 rfl) ?_
    refine lv_iload_n F.hx F.hb d_Paths_find_81 rfl (lv_at hl 2 rfl) ?_
    obtain ⟨q16, hq16, hT⟩ := q_obind hT
    refine r_backV F hS (r_runV (k := 185) (N := 5) (T := T7) (As := [.ref (b + k1), vI x2]) F hS (show 185 < 191 by decide) (show shK 185 = 11 from rfl) rfl (c_Paths_trace l F.2.2.1 M12 k1 x2 hk1 hx2 _ hq16) gs_Paths_62 hd_Paths_trace ⟨Nat.le_of_ble_eq_true rfl, Nat.le_of_ble_eq_true rfl⟩ rfl hl.1 (Nat.le_of_ble_eq_true rfl) ⟨Nat.zero_le _, Nat.zero_le _⟩ rfl d_Paths_find_82) (fun H locs hS => ?_)
    cases hT
    exact r_vret F hlk hr hS d_Paths_find_85
set_option maxHeartbeats 4000000 in
set_option maxRecDepth 100000 in
theorem k_Paths_find_L23 (l : Launch) {p : Program} {e : Env} {s : State} {m : MethodId} {below : List Frame} {meth : Method} {c : Code} {b n : Nat} {C : CT} (hlo : 191 ≤ n) (k1 : Nat) (x2 : Int) (x3 : Int) (hk1 : isTown k1) (hx2 : InR x2) (hx3 : InR x3) (F : Cx b p m c b_Paths_find 6 s ([.ref (b + 185), .ref (b + k1), vI x2, vI x3] : List Value).toArray "WardFalls$Paths" C n 191) (hlk : meth.locks = false) (hr : meth.sig.returnType = none) {res : Mem} : ∀ (fu : Nat) (M : Mem) (v3_ : Int) (hv3_ : v3_ = 0 ∨ v3_ = 1) (v4_ : Int) (hv4_ : InR v4_) (H : Heap) (locs : List Loc) (ls : Array Slot), St b C n M s H locs → lv_has ls 6 [(0, .ref (b + 185)), (1, .ref (b + k1)), (2, vI x2), (4, vI v3_), (5, vI v4_)] → t_Paths_find_L23 k1 x2 x3 fu M v3_ v4_ = some res → W p l e (headSpec (wsM y_Paths_find b_Paths_find 6 (none)) (rmD 4)).room s m ([.ref (b + 185), .ref (b + k1), vI x2, vI x3] : List Value).toArray below meth c H locs 0 0 (MQ below (QV b C n res) ([.ref (b + 185), .ref (b + k1), vI x2, vI x3] : List Value).toArray s 0 0 (frb b)) (F0 m 23 ls []) := by
  intro fu
  induction fu with
  | zero => intro M v3_ hv3_ v4_ hv4_ H locs ls hS hl hT; exact absurd hT (by simp [t_Paths_find_L23])
  | succ fu ih =>
    intro M v3_ hv3_ v4_ hv4_ H locs ls hS hl hT
    rw [t_Paths_find_L23] at hT
    refine lv_iload F.hx F.hb d_Paths_find_23 (lv_at hl 4 rfl) ?_
    refine r_bipush F.hx F.hb d_Paths_find_25 rfl ?_
    refine r_icmp_ge (tgt := 48) F.hx F.hb hv4_ (inr_c rfl) d_Paths_find_27 (by decide) (fun c5 => ?_) (fun c5 => ?_)
    · replace hT := (if_pos c5).symm.trans hT
      exact k_Paths_find_L48 l hlo k1 x2 x3 hk1 hx2 hx3 F hlk hr M _ _ _ hS (lv_sub hl [0, 1, 2] rfl) hT
    · replace hT := (if_neg c5).symm.trans hT
      refine lv_iload F.hx F.hb d_Paths_find_30 (lv_at hl 3 rfl) ?_
      refine r_if_eq (tgt := 48) F.hx F.hb (inr_z hv3_) d_Paths_find_32 (by decide) (fun c6 => ?_) (fun c6 => ?_)
      · replace hT := (if_pos c6).symm.trans hT
        exact k_Paths_find_L48 l hlo k1 x2 x3 hk1 hx2 hx3 F hlk hr M _ _ _ hS (lv_sub hl [0, 1, 2] rfl) hT
      · replace hT := (if_neg c6).symm.trans hT
        refine lv_aload_n F.hx F.hb d_Paths_find_35 rfl (lv_at hl 0 rfl) ?_
        refine lv_aload_n F.hx F.hb d_Paths_find_36 rfl (lv_at hl 1 rfl) ?_
        obtain ⟨q7, hq7, hT⟩ := q_obind hT
        refine r_backZ F hS (r_runV (k := 185) (N := 5) (T := T7) (As := [.ref (b + k1)]) F hS (show 185 < 191 by decide) (show shK 185 = 11 from rfl) rfl (c_Paths_spread l F.2.2.1 M k1 hk1 _ hq7) gs_Paths_55 hd_Paths_spread ⟨Nat.le_of_ble_eq_true rfl, Nat.le_of_ble_eq_true rfl⟩ rfl hl.1 (Nat.le_of_ble_eq_true rfl) ⟨Nat.zero_le _, Nat.zero_le _⟩ rfl d_Paths_find_37) (fun H locs hS h8 => ?_)
        refine lv_istore (lv' := [(4, vI (q7.2)), (0, .ref (b + 185)), (1, .ref (b + k1)), (2, vI x2), (5, vI v4_)]) F.hx F.hb d_Paths_find_40 hl (Nat.le_of_ble_eq_true rfl) rfl (fun ls hl => ?_)
        refine lv_iinc (v := Int32.ofInt (w32 (v4_ + 1))) (lv' := [(5, vI (w32 (v4_ + 1))), (4, vI (q7.2)), (0, .ref (b + 185)), (1, .ref (b + k1)), (2, vI x2)]) F.hx F.hb d_Paths_find_42 hl (k := 4) rfl (q_of_add _ _) (Nat.le_of_ble_eq_true rfl) rfl (fun ls hl => ?_)
        refine lv_goto (tgt := 23) F.hx F.hb d_Paths_find_45 (by decide) ?_
        exact ih (q7.1) (q7.2) h8 (w32 (v4_ + 1)) (inr_w32 _) _ _ _ hS (lv_sub hl [2, 3, 4, 1, 0] rfl) hT
set_option maxHeartbeats 4000000 in
set_option maxRecDepth 100000 in
theorem c_Paths_find (l : Launch) {b n : Nat} {C : CT} (hlo : 191 ≤ n) (M : Mem) (k1 : Nat) (x2 : Int) (x3 : Int) (hk1 : isTown k1) (hx2 : InR x2) (hx3 : InR x3) (res : Mem) (hT : t_Paths_find M k1 x2 x3 = some res) : CM l b C n 4 y_Paths_find b_Paths_find 6 (none) [.ref (b + 185), .ref (b + k1), vI x2, vI x3] M (QV b C n res) := by
  refine CM.of (lo := 191) (ow := "WardFalls$Paths") (by decide) rfl (Nat.le_of_ble_eq_true rfl) hlo (fun p e s m below meth c F hlk hr hS ls hl => ?_)
  have hl : lv_has ls 6 [(0, .ref (b + 185)), (1, .ref (b + k1)), (2, vI x2), (3, vI x3)] := hl
  unfold t_Paths_find at hT
  refine lv_aload_n F.hx F.hb d_Paths_find_0 rfl (lv_at hl 0 rfl) ?_
  refine r_get (v := .ref (b + 187)) (N := 5) (T := T7) (j := 1) F hS (show 185 < 191 by decide) (show shK 185 = 11 from rfl) (show shN 185 = 5 from rfl) rfl (Nat.le_of_ble_eq_true rfl) ing7 mw_476 (fv_sg rfl rfl rfl) d_Paths_find_1 ?_
  refine r_iconst F.hx F.hb d_Paths_find_4 ?_
  obtain ⟨q1, hq1, hT⟩ := q_obind hT
  refine r_backV F hS (r_runS (As := [.ref (b + 187), vI (-1)]) F hS (c_Arrays_fill l F.2.2.1 M 187 48 (-1) (show arrP 0 187 48 191 from ⟨rfl, rfl, by decide⟩) (inr_c rfl) _ hq1) gs_Paths_49 hd_Arrays_fill ⟨Nat.le_of_ble_eq_true rfl, Nat.le_of_ble_eq_true rfl⟩ rfl hl.1 (Nat.le_of_ble_eq_true rfl) ⟨Nat.zero_le _, Nat.zero_le _⟩ rfl d_Paths_find_5) (fun H locs hS => ?_)
  refine lv_aload_n F.hx F.hb d_Paths_find_8 rfl (lv_at hl 0 rfl) ?_
  refine r_get (v := .ref (b + 187)) (N := 5) (T := T7) (j := 1) F hS (show 185 < 191 by decide) (show shK 185 = 11 from rfl) (show shN 185 = 5 from rfl) rfl (Nat.le_of_ble_eq_true rfl) ing7 mw_476 (fv_sg rfl rfl rfl) d_Paths_find_9 ?_
  refine lv_iload_n F.hx F.hb d_Paths_find_12 rfl (lv_at hl 3 rfl) ?_
  refine r_iconst F.hx F.hb d_Paths_find_13 ?_
  obtain ⟨q3, hq3⟩ : ∃ q, q = (t_WF_put q1 187 48 x3 0) := ⟨_, rfl⟩
  replace hT := qlet_eq hT hq3
  refine r_backV F hS (r_runSN (As := [.ref (b + 187), vI x3, vI 0]) F hS (c_WF_put l F.2.2.1 q1 187 48 x3 0 (show arrP 0 187 48 191 from ⟨rfl, rfl, by decide⟩) hx3 (inr_c rfl) _ hq3.symm) mw_512 mw_511 mw_1 gs_Paths_34 hd_WF_put ⟨Nat.le_of_ble_eq_true rfl, Nat.le_of_ble_eq_true rfl⟩ rfl hl.1 (Nat.le_of_ble_eq_true rfl) ⟨Nat.zero_le _, Nat.zero_le _⟩ rfl d_Paths_find_14) (fun H locs hS => ?_)
  refine r_iconst F.hx F.hb d_Paths_find_17 ?_
  refine lv_istore (lv' := [(4, vI 1), (0, .ref (b + 185)), (1, .ref (b + k1)), (2, vI x2), (3, vI x3)]) F.hx F.hb d_Paths_find_18 hl (Nat.le_of_ble_eq_true rfl) rfl (fun ls hl => ?_)
  refine r_iconst F.hx F.hb d_Paths_find_20 ?_
  refine lv_istore (lv' := [(5, vI 0), (4, vI 1), (0, .ref (b + 185)), (1, .ref (b + k1)), (2, vI x2), (3, vI x3)]) F.hx F.hb d_Paths_find_21 hl (Nat.le_of_ble_eq_true rfl) rfl (fun ls hl => ?_)
  exact k_Paths_find_L23 l hlo k1 x2 x3 hk1 hx2 hx3 F hlk hr FU q3 1 (Or.inr rfl) 0 (inr_c rfl) _ _ _ hS (lv_sub hl [2, 3, 4, 1, 0] rfl) hT
theorem d_Paths_walkTo_0 : decode b_Paths_walkTo 0 = .ok (.iconst 0, 1) := dc_3 (by decide +kernel)
theorem d_Paths_walkTo_1 : decode b_Paths_walkTo 1 = .ok (.istore 5, 2) := dc_54 (by decide +kernel)
theorem d_Paths_walkTo_3 : decode b_Paths_walkTo 3 = .ok (.iload 5, 2) := dc_21 (by decide +kernel)
theorem d_Paths_walkTo_5 : decode b_Paths_walkTo 5 = .ok (.aload_n 1, 1) := dc_43 (by decide +kernel)
theorem d_Paths_walkTo_6 : decode b_Paths_walkTo 6 = .ok (.getfield 21, 3) := dc_180 (by decide +kernel)
theorem d_Paths_walkTo_9 : decode b_Paths_walkTo 9 = .ok (.if_icmp .ge 65, 3) := dc_162 (by decide +kernel)
theorem d_Paths_walkTo_12 : decode b_Paths_walkTo 12 = .ok (.iconst 0, 1) := dc_3 (by decide +kernel)
theorem d_Paths_walkTo_13 : decode b_Paths_walkTo 13 = .ok (.istore 6, 2) := dc_54 (by decide +kernel)
theorem d_Paths_walkTo_15 : decode b_Paths_walkTo 15 = .ok (.iload 6, 2) := dc_21 (by decide +kernel)
theorem d_Paths_walkTo_17 : decode b_Paths_walkTo 17 = .ok (.iconst 4, 1) := dc_7 (by decide +kernel)
theorem d_Paths_walkTo_18 : decode b_Paths_walkTo 18 = .ok (.if_icmp .ge 50, 3) := dc_162 (by decide +kernel)
theorem d_Paths_walkTo_21 : decode b_Paths_walkTo 21 = .ok (.aload_n 1, 1) := dc_43 (by decide +kernel)
theorem d_Paths_walkTo_22 : decode b_Paths_walkTo 22 = .ok (.aload_n 2, 1) := dc_44 (by decide +kernel)
theorem d_Paths_walkTo_23 : decode b_Paths_walkTo 23 = .ok (.iload 5, 2) := dc_21 (by decide +kernel)
theorem d_Paths_walkTo_25 : decode b_Paths_walkTo 25 = .ok (.aload_n 1, 1) := dc_43 (by decide +kernel)
theorem d_Paths_walkTo_26 : decode b_Paths_walkTo 26 = .ok (.iload 5, 2) := dc_21 (by decide +kernel)
theorem d_Paths_walkTo_28 : decode b_Paths_walkTo 28 = .ok (.iload 6, 2) := dc_21 (by decide +kernel)
theorem d_Paths_walkTo_30 : decode b_Paths_walkTo 30 = .ok (.invokevirtual 26, 3) := dc_182 (by decide +kernel)
theorem d_Paths_walkTo_33 : decode b_Paths_walkTo 33 = .ok (.invokestatic 30, 3) := dc_184 (by decide +kernel)
theorem d_Paths_walkTo_36 : decode b_Paths_walkTo 36 = .ok (.istore 7, 2) := dc_54 (by decide +kernel)
theorem d_Paths_walkTo_38 : decode b_Paths_walkTo 38 = .ok (.aload_n 0, 1) := dc_42 (by decide +kernel)
theorem d_Paths_walkTo_39 : decode b_Paths_walkTo 39 = .ok (.getfield 9, 3) := dc_180 (by decide +kernel)
theorem d_Paths_walkTo_42 : decode b_Paths_walkTo 42 = .ok (.iload 5, 2) := dc_21 (by decide +kernel)
theorem d_Paths_walkTo_44 : decode b_Paths_walkTo 44 = .ok (.iconst 4, 1) := dc_7 (by decide +kernel)
theorem d_Paths_walkTo_45 : decode b_Paths_walkTo 45 = .ok (.imul, 1) := dc_104 (by decide +kernel)
theorem d_Paths_walkTo_46 : decode b_Paths_walkTo 46 = .ok (.iload 6, 2) := dc_21 (by decide +kernel)
theorem d_Paths_walkTo_48 : decode b_Paths_walkTo 48 = .ok (.iadd, 1) := dc_96 (by decide +kernel)
theorem d_Paths_walkTo_49 : decode b_Paths_walkTo 49 = .ok (.iload 7, 2) := dc_21 (by decide +kernel)
theorem d_Paths_walkTo_51 : decode b_Paths_walkTo 51 = .ok (.ifCond .eq 7, 3) := dc_153 (by decide +kernel)
theorem d_Paths_walkTo_54 : decode b_Paths_walkTo 54 = .ok (.iconst 0, 1) := dc_3 (by decide +kernel)
theorem d_Paths_walkTo_55 : decode b_Paths_walkTo 55 = .ok (.goto 4, 3) := dc_167 (by decide +kernel)
theorem d_Paths_walkTo_58 : decode b_Paths_walkTo 58 = .ok (.iconst (-1), 1) := dc_2 (by decide +kernel)
theorem d_Paths_walkTo_59 : decode b_Paths_walkTo 59 = .ok (.invokestatic 34, 3) := dc_184 (by decide +kernel)
theorem d_Paths_walkTo_62 : decode b_Paths_walkTo 62 = .ok (.iinc 6 1, 3) := dc_132 (by decide +kernel)
theorem d_Paths_walkTo_65 : decode b_Paths_walkTo 65 = .ok (.goto (-50), 3) := dc_167 (by decide +kernel)
theorem d_Paths_walkTo_68 : decode b_Paths_walkTo 68 = .ok (.iinc 5 1, 3) := dc_132 (by decide +kernel)
theorem d_Paths_walkTo_71 : decode b_Paths_walkTo 71 = .ok (.goto (-68), 3) := dc_167 (by decide +kernel)
theorem d_Paths_walkTo_74 : decode b_Paths_walkTo 74 = .ok (.aload_n 0, 1) := dc_42 (by decide +kernel)
theorem d_Paths_walkTo_75 : decode b_Paths_walkTo 75 = .ok (.aload_n 1, 1) := dc_43 (by decide +kernel)
theorem d_Paths_walkTo_76 : decode b_Paths_walkTo 76 = .ok (.iload_n 3, 1) := dc_29 (by decide +kernel)
theorem d_Paths_walkTo_77 : decode b_Paths_walkTo 77 = .ok (.iload 4, 2) := dc_21 (by decide +kernel)
theorem d_Paths_walkTo_79 : decode b_Paths_walkTo 79 = .ok (.invokevirtual 38, 3) := dc_182 (by decide +kernel)
theorem d_Paths_walkTo_82 : decode b_Paths_walkTo 82 = .ok (.return_, 1) := dc_177 (by decide +kernel)
def t_Paths_walkTo_L59 (k1 : Nat) (k2 : Nat) (x3 : Int) (x4 : Int) (bk3 : Mem → Int → Option (Mem)) (bk15 : Mem → Int → Int → Option (Mem)) (M : Mem) (v5_ : Int) (v6_ : Int) (v8_ : Int) (v9_ : Int) : Option (Mem) := (qlet (t_WF_put M 186 192 v8_ v9_) fun q11 => (bk15 q11 v5_ (w32 (v6_ + 1))))
def t_Paths_walkTo_L15 (k1 : Nat) (k2 : Nat) (x3 : Int) (x4 : Int) (bk3 : Mem → Int → Option (Mem)) : Nat → Mem → Int → Int → Option (Mem)
  | 0, _, _, _ => none
  | fu + 1, M, v5_, v6_ => (if 4 ≤ v6_ then (bk3 M (w32 (v5_ + 1))) else (qlet (t_Town_beside M k1 v5_ v6_) fun q6 => (qlet (t_Paths_canStep M k1 k2 v5_ q6) fun q8 => (if q8 = 0 then (t_Paths_walkTo_L59 k1 k2 x3 x4 bk3 (fun a0_ a1_ a2_ => t_Paths_walkTo_L15 k1 k2 x3 x4 bk3 fu a0_ a1_ a2_) M v5_ v6_ (w32 ((w32 (v5_ * 4)) + v6_)) (-1)) else (t_Paths_walkTo_L59 k1 k2 x3 x4 bk3 (fun a0_ a1_ a2_ => t_Paths_walkTo_L15 k1 k2 x3 x4 bk3 fu a0_ a1_ a2_) M v5_ v6_ (w32 ((w32 (v5_ * 4)) + v6_)) 0)))))
def t_Paths_walkTo_L3 (k1 : Nat) (k2 : Nat) (x3 : Int) (x4 : Int)  : Nat → Mem → Int → Option (Mem)
  | 0, _, _ => none
  | fu + 1, M, v5_ => (if (M.1 k1 13) ≤ v5_ then (obind (t_Paths_find M k1 x3 x4) fun q3 => (some q3)) else (t_Paths_walkTo_L15 k1 k2 x3 x4 (fun a0_ a1_ => t_Paths_walkTo_L3 k1 k2 x3 x4 fu a0_ a1_) FU M v5_ 0))
def t_Paths_walkTo (M : Mem) (k1 : Nat) (k2 : Nat) (x3 : Int) (x4 : Int) : Option (Mem) := (t_Paths_walkTo_L3 k1 k2 x3 x4 FU M 0)
set_option maxHeartbeats 4000000 in
set_option maxRecDepth 100000 in
theorem k_Paths_walkTo_L59 (l : Launch) {p : Program} {e : Env} {s : State} {m : MethodId} {below : List Frame} {meth : Method} {c : Code} {b n : Nat} {C : CT} (hlo : 191 ≤ n) (k1 : Nat) (k2 : Nat) (x3 : Int) (x4 : Int) (hk1 : isTown k1) (hk2 : isScene k2) (hx3 : InR x3) (hx4 : InR x4) (F : Cx b p m c b_Paths_walkTo 8 s ([.ref (b + 185), .ref (b + k1), .ref (b + k2), vI x3, vI x4] : List Value).toArray "WardFalls$Paths" C n 191) (hlk : meth.locks = false) (hr : meth.sig.returnType = none) {res : Mem} (bk3 : Mem → Int → Option (Mem)) (hbk3 : ∀ (M : Mem) (v5_ : Int) (hv5_ : InR v5_) (H : Heap) (locs : List Loc) (ls : Array Slot), St b C n M s H locs → lv_has ls 8 [(0, .ref (b + 185)), (1, .ref (b + k1)), (2, .ref (b + k2)), (3, vI x3), (4, vI x4), (5, vI v5_)] → bk3 M v5_ = some res → W p l e (headSpec (wsM y_Paths_walkTo b_Paths_walkTo 8 (none)) (rmD 5)).room s m ([.ref (b + 185), .ref (b + k1), .ref (b + k2), vI x3, vI x4] : List Value).toArray below meth c H locs 0 0 (MQ below (QV b C n res) ([.ref (b + 185), .ref (b + k1), .ref (b + k2), vI x3, vI x4] : List Value).toArray s 0 0 (frb b)) (F0 m 3 ls [])) (bk15 : Mem → Int → Int → Option (Mem)) (hbk15 : ∀ (M : Mem) (v5_ : Int) (hv5_ : InR v5_) (v6_ : Int) (hv6_ : InR v6_) (H : Heap) (locs : List Loc) (ls : Array Slot), St b C n M s H locs → lv_has ls 8 [(0, .ref (b + 185)), (1, .ref (b + k1)), (2, .ref (b + k2)), (3, vI x3), (4, vI x4), (5, vI v5_), (6, vI v6_)] → bk15 M v5_ v6_ = some res → W p l e (headSpec (wsM y_Paths_walkTo b_Paths_walkTo 8 (none)) (rmD 5)).room s m ([.ref (b + 185), .ref (b + k1), .ref (b + k2), vI x3, vI x4] : List Value).toArray below meth c H locs 0 0 (MQ below (QV b C n res) ([.ref (b + 185), .ref (b + k1), .ref (b + k2), vI x3, vI x4] : List Value).toArray s 0 0 (frb b)) (F0 m 15 ls [])) (M : Mem) (v5_ : Int) (hv5_ : InR v5_) (v6_ : Int) (hv6_ : InR v6_) (v8_ : Int) (hv8_ : InR v8_) (v9_ : Int) (hv9_ : InR v9_) (H : Heap) (locs : List Loc) (ls : Array Slot) (hS : St b C n M s H locs) (hl : lv_has ls 8 [(0, .ref (b + 185)), (1, .ref (b + k1)), (2, .ref (b + k2)), (3, vI x3), (4, vI x4), (5, vI v5_), (6, vI v6_)]) (hT : t_Paths_walkTo_L59 k1 k2 x3 x4 bk3 bk15 M v5_ v6_ v8_ v9_ = some res) : W p l e (headSpec (wsM y_Paths_walkTo b_Paths_walkTo 8 (none)) (rmD 5)).room s m ([.ref (b + 185), .ref (b + k1), .ref (b + k2), vI x3, vI x4] : List Value).toArray below meth c H locs 0 0 (MQ below (QV b C n res) ([.ref (b + 185), .ref (b + k1), .ref (b + k2), vI x3, vI x4] : List Value).toArray s 0 0 (frb b)) (F0 m 59 ls [vI v9_, vI v8_, .ref (b + 186)]) := by
  unfold t_Paths_walkTo_L59 at hT
  obtain ⟨q11, hq11⟩ : ∃ q, q = (t_WF_put M 186 192 v8_ v9_) := ⟨_, rfl⟩
  replace hT := qlet_eq hT hq11
  refine r_backV F hS (r_runSN (As := [.ref (b + 186), vI v8_, vI v9_]) F hS (c_WF_put l F.2.2.1 M 186 192 v8_ v9_ (show arrP 0 186 192 191 from ⟨rfl, rfl, by decide⟩) hv8_ hv9_ _ hq11.symm) mw_512 mw_511 mw_1 gs_Paths_34 hd_WF_put ⟨Nat.le_of_ble_eq_true rfl, Nat.le_of_ble_eq_true rfl⟩ rfl hl.1 (Nat.le_of_ble_eq_true rfl) ⟨Nat.zero_le _, Nat.zero_le _⟩ rfl d_Paths_walkTo_59) (fun H locs hS => ?_)
  refine lv_iinc (v := Int32.ofInt (w32 (v6_ + 1))) (lv' := [(6, vI (w32 (v6_ + 1))), (0, .ref (b + 185)), (1, .ref (b + k1)), (2, .ref (b + k2)), (3, vI x3), (4, vI x4), (5, vI v5_)]) F.hx F.hb d_Paths_walkTo_62 hl (k := 6) rfl (q_of_add _ _) (Nat.le_of_ble_eq_true rfl) rfl (fun ls hl => ?_)
  refine lv_goto (tgt := 15) F.hx F.hb d_Paths_walkTo_65 (by decide) ?_
  exact hbk15 q11 v5_ hv5_ (w32 (v6_ + 1)) (inr_w32 _) _ _ _ hS (lv_sub hl [1, 2, 3, 4, 5, 6, 0] rfl) hT
set_option maxHeartbeats 4000000 in
set_option maxRecDepth 100000 in
theorem k_Paths_walkTo_L15 (l : Launch) {p : Program} {e : Env} {s : State} {m : MethodId} {below : List Frame} {meth : Method} {c : Code} {b n : Nat} {C : CT} (hlo : 191 ≤ n) (k1 : Nat) (k2 : Nat) (x3 : Int) (x4 : Int) (hk1 : isTown k1) (hk2 : isScene k2) (hx3 : InR x3) (hx4 : InR x4) (F : Cx b p m c b_Paths_walkTo 8 s ([.ref (b + 185), .ref (b + k1), .ref (b + k2), vI x3, vI x4] : List Value).toArray "WardFalls$Paths" C n 191) (hlk : meth.locks = false) (hr : meth.sig.returnType = none) {res : Mem} (bk3 : Mem → Int → Option (Mem)) (hbk3 : ∀ (M : Mem) (v5_ : Int) (hv5_ : InR v5_) (H : Heap) (locs : List Loc) (ls : Array Slot), St b C n M s H locs → lv_has ls 8 [(0, .ref (b + 185)), (1, .ref (b + k1)), (2, .ref (b + k2)), (3, vI x3), (4, vI x4), (5, vI v5_)] → bk3 M v5_ = some res → W p l e (headSpec (wsM y_Paths_walkTo b_Paths_walkTo 8 (none)) (rmD 5)).room s m ([.ref (b + 185), .ref (b + k1), .ref (b + k2), vI x3, vI x4] : List Value).toArray below meth c H locs 0 0 (MQ below (QV b C n res) ([.ref (b + 185), .ref (b + k1), .ref (b + k2), vI x3, vI x4] : List Value).toArray s 0 0 (frb b)) (F0 m 3 ls [])) : ∀ (fu : Nat) (M : Mem) (v5_ : Int) (hv5_ : InR v5_) (v6_ : Int) (hv6_ : InR v6_) (H : Heap) (locs : List Loc) (ls : Array Slot), St b C n M s H locs → lv_has ls 8 [(0, .ref (b + 185)), (1, .ref (b + k1)), (2, .ref (b + k2)), (3, vI x3), (4, vI x4), (5, vI v5_), (6, vI v6_)] → t_Paths_walkTo_L15 k1 k2 x3 x4 bk3 fu M v5_ v6_ = some res → W p l e (headSpec (wsM y_Paths_walkTo b_Paths_walkTo 8 (none)) (rmD 5)).room s m ([.ref (b + 185), .ref (b + k1), .ref (b + k2), vI x3, vI x4] : List Value).toArray below meth c H locs 0 0 (MQ below (QV b C n res) ([.ref (b + 185), .ref (b + k1), .ref (b + k2), vI x3, vI x4] : List Value).toArray s 0 0 (frb b)) (F0 m 15 ls []) := by
  intro fu
  induction fu with
  | zero => intro M v5_ hv5_ v6_ hv6_ H locs ls hS hl hT; exact absurd hT (by simp [t_Paths_walkTo_L15])
  | succ fu ih =>
    intro M v5_ hv5_ v6_ hv6_ H locs ls hS hl hT
    rw [t_Paths_walkTo_L15] at hT
    refine lv_iload F.hx F.hb d_Paths_walkTo_15 (lv_at hl 6 rfl) ?_
    refine r_iconst F.hx F.hb d_Paths_walkTo_17 ?_
    refine r_icmp_ge (tgt := 68) F.hx F.hb hv6_ (inr_c rfl) d_Paths_walkTo_18 (by decide) (fun c5 => ?_) (fun c5 => ?_)
    · replace hT := (if_pos c5).symm.trans hT
      refine lv_iinc (v := Int32.ofInt (w32 (v5_ + 1))) (lv' := [(5, vI (w32 (v5_ + 1))), (0, .ref (b + 185)), (1, .ref (b + k1)), (2, .ref (b + k2)), (3, vI x3), (4, vI x4), (6, vI v6_)]) F.hx F.hb d_Paths_walkTo_68 hl (k := 5) rfl (q_of_add _ _) (Nat.le_of_ble_eq_true rfl) rfl (fun ls hl => ?_)
      refine lv_goto (tgt := 3) F.hx F.hb d_Paths_walkTo_71 (by decide) ?_
      exact hbk3 M (w32 (v5_ + 1)) (inr_w32 _) _ _ _ hS (lv_sub hl [1, 2, 3, 4, 5, 0] rfl) hT
    · replace hT := (if_neg c5).symm.trans hT
      refine lv_aload_n F.hx F.hb d_Paths_walkTo_21 rfl (lv_at hl 1 rfl) ?_
      refine lv_aload_n F.hx F.hb d_Paths_walkTo_22 rfl (lv_at hl 2 rfl) ?_
      refine lv_iload F.hx F.hb d_Paths_walkTo_23 (lv_at hl 5 rfl) ?_
      refine lv_aload_n F.hx F.hb d_Paths_walkTo_25 rfl (lv_at hl 1 rfl) ?_
      refine lv_iload F.hx F.hb d_Paths_walkTo_26 (lv_at hl 5 rfl) ?_
      refine lv_iload F.hx F.hb d_Paths_walkTo_28 (lv_at hl 6 rfl) ?_
      obtain ⟨q6, hq6⟩ : ∃ q, q = (t_Town_beside M k1 v5_ v6_) := ⟨_, rfl⟩
      replace hT := qlet_eq hT hq6
      refine r_backI F hS (r_runV (k := k1) (N := 20) (T := T11) (As := [vI v5_, vI v6_]) F hS (Town_lt hk1) (Town_sh hk1) rfl (c_Town_beside l F.2.2.1 M k1 v5_ v6_ hk1 hv5_ hv6_ _ hq6.symm) gs_Paths_26 hd_Town_beside ⟨Nat.le_of_ble_eq_true rfl, Nat.le_of_ble_eq_true rfl⟩ rfl hl.1 (Nat.le_of_ble_eq_true rfl) ⟨Nat.zero_le _, Nat.zero_le _⟩ rfl d_Paths_walkTo_30) (fun H locs hS h7 => ?_)
      obtain ⟨q8, hq8⟩ : ∃ q, q = (t_Paths_canStep M k1 k2 v5_ q6) := ⟨_, rfl⟩
      replace hT := qlet_eq hT hq8
      refine r_backZ F hS (r_runS (As := [.ref (b + k1), .ref (b + k2), vI v5_, vI q6]) F hS (c_Paths_canStep l F.2.2.1 M k1 k2 v5_ q6 hk1 hk2 hv5_ h7 _ hq8.symm) gs_Paths_30 hd_Paths_canStep ⟨Nat.le_of_ble_eq_true rfl, Nat.le_of_ble_eq_true rfl⟩ rfl hl.1 (Nat.le_of_ble_eq_true rfl) ⟨Nat.zero_le _, Nat.zero_le _⟩ rfl d_Paths_walkTo_33) (fun H locs hS h9 => ?_)
      refine lv_istore (lv' := [(7, vI q8), (0, .ref (b + 185)), (1, .ref (b + k1)), (2, .ref (b + k2)), (3, vI x3), (4, vI x4), (5, vI v5_), (6, vI v6_)]) F.hx F.hb d_Paths_walkTo_36 hl (Nat.le_of_ble_eq_true rfl) rfl (fun ls hl => ?_)
      refine lv_aload_n F.hx F.hb d_Paths_walkTo_38 rfl (lv_at hl 1 rfl) ?_
      refine r_get (v := .ref (b + 186)) (N := 5) (T := T7) (j := 0) F hS (show 185 < 191 by decide) (show shK 185 = 11 from rfl) (show shN 185 = 5 from rfl) rfl (Nat.le_of_ble_eq_true rfl) ing7 mw_474 (fv_sg rfl rfl rfl) d_Paths_walkTo_39 ?_
      refine lv_iload F.hx F.hb d_Paths_walkTo_42 (lv_at hl 6 rfl) ?_
      refine r_iconst F.hx F.hb d_Paths_walkTo_44 ?_
      refine r_imul F.hx F.hb d_Paths_walkTo_45 ?_
      refine lv_iload F.hx F.hb d_Paths_walkTo_46 (lv_at hl 7 rfl) ?_
      refine r_iadd F.hx F.hb d_Paths_walkTo_48 ?_
      refine lv_iload F.hx F.hb d_Paths_walkTo_49 (lv_at hl 0 rfl) ?_
      refine r_if_eq (tgt := 58) F.hx F.hb (inr_z h9) d_Paths_walkTo_51 (by decide) (fun c10 => ?_) (fun c10 => ?_)
      · replace hT := (if_pos c10).symm.trans hT
        refine r_iconst F.hx F.hb d_Paths_walkTo_58 ?_
        exact k_Paths_walkTo_L59 l hlo k1 k2 x3 x4 hk1 hk2 hx3 hx4 F hlk hr bk3 hbk3 (fun a0_ a1_ a2_ => t_Paths_walkTo_L15 k1 k2 x3 x4 bk3 fu a0_ a1_ a2_) ih M v5_ hv5_ v6_ hv6_ (w32 ((w32 (v5_ * 4)) + v6_)) (inr_w32 _) (-1) (inr_c rfl) _ _ _ hS (lv_sub hl [1, 2, 3, 4, 5, 6, 7] rfl) hT
      · replace hT := (if_neg c10).symm.trans hT
        refine r_iconst F.hx F.hb d_Paths_walkTo_54 ?_
        refine lv_goto (tgt := 59) F.hx F.hb d_Paths_walkTo_55 (by decide) ?_
        exact k_Paths_walkTo_L59 l hlo k1 k2 x3 x4 hk1 hk2 hx3 hx4 F hlk hr bk3 hbk3 (fun a0_ a1_ a2_ => t_Paths_walkTo_L15 k1 k2 x3 x4 bk3 fu a0_ a1_ a2_) ih M v5_ hv5_ v6_ hv6_ (w32 ((w32 (v5_ * 4)) + v6_)) (inr_w32 _) 0 (inr_c rfl) _ _ _ hS (lv_sub hl [1, 2, 3, 4, 5, 6, 7] rfl) hT
set_option maxHeartbeats 4000000 in
set_option maxRecDepth 100000 in
theorem k_Paths_walkTo_L3 (l : Launch) {p : Program} {e : Env} {s : State} {m : MethodId} {below : List Frame} {meth : Method} {c : Code} {b n : Nat} {C : CT} (hlo : 191 ≤ n) (k1 : Nat) (k2 : Nat) (x3 : Int) (x4 : Int) (hk1 : isTown k1) (hk2 : isScene k2) (hx3 : InR x3) (hx4 : InR x4) (F : Cx b p m c b_Paths_walkTo 8 s ([.ref (b + 185), .ref (b + k1), .ref (b + k2), vI x3, vI x4] : List Value).toArray "WardFalls$Paths" C n 191) (hlk : meth.locks = false) (hr : meth.sig.returnType = none) {res : Mem} : ∀ (fu : Nat) (M : Mem) (v5_ : Int) (hv5_ : InR v5_) (H : Heap) (locs : List Loc) (ls : Array Slot), St b C n M s H locs → lv_has ls 8 [(0, .ref (b + 185)), (1, .ref (b + k1)), (2, .ref (b + k2)), (3, vI x3), (4, vI x4), (5, vI v5_)] → t_Paths_walkTo_L3 k1 k2 x3 x4 fu M v5_ = some res → W p l e (headSpec (wsM y_Paths_walkTo b_Paths_walkTo 8 (none)) (rmD 5)).room s m ([.ref (b + 185), .ref (b + k1), .ref (b + k2), vI x3, vI x4] : List Value).toArray below meth c H locs 0 0 (MQ below (QV b C n res) ([.ref (b + 185), .ref (b + k1), .ref (b + k2), vI x3, vI x4] : List Value).toArray s 0 0 (frb b)) (F0 m 3 ls []) := by
  intro fu
  induction fu with
  | zero => intro M v5_ hv5_ H locs ls hS hl hT; exact absurd hT (by simp [t_Paths_walkTo_L3])
  | succ fu ih =>
    intro M v5_ hv5_ H locs ls hS hl hT
    rw [t_Paths_walkTo_L3] at hT
    refine lv_iload F.hx F.hb d_Paths_walkTo_3 (lv_at hl 5 rfl) ?_
    refine lv_aload_n F.hx F.hb d_Paths_walkTo_5 rfl (lv_at hl 1 rfl) ?_
    refine r_get (v := vI (M.1 k1 13)) (N := 20) (T := T11) (j := 13) F hS (Town_lt hk1) (Town_sh hk1) (Town_N hk1) rfl (Nat.le_of_ble_eq_true rfl) ing11 mw_127 (fv_int rfl) d_Paths_walkTo_6 ?_
    have i1 := hS.rng k1 13
    refine r_icmp_ge (tgt := 74) F.hx F.hb hv5_ i1 d_Paths_walkTo_9 (by decide) (fun c2 => ?_) (fun c2 => ?_)
    · replace hT := (if_pos c2).symm.trans hT
      refine lv_aload_n F.hx F.hb d_Paths_walkTo_74 rfl (lv_at hl 0 rfl) ?_
      refine lv_aload_n F.hx F.hb d_Paths_walkTo_75 rfl (lv_at hl 1 rfl) ?_
      refine lv_iload_n F.hx F.hb d_Paths_walkTo_76 rfl (lv_at hl 3 rfl) ?_
      refine lv_iload F.hx F.hb d_Paths_walkTo_77 (lv_at hl 4 rfl) ?_
      obtain ⟨q3, hq3, hT⟩ := q_obind hT
      refine r_backV F hS (r_runV (k := 185) (N := 5) (T := T7) (As := [.ref (b + k1), vI x3, vI x4]) F hS (show 185 < 191 by decide) (show shK 185 = 11 from rfl) rfl (c_Paths_find l F.2.2.1 M k1 x3 x4 hk1 hx3 hx4 _ hq3) gs_Paths_38 hd_Paths_find ⟨Nat.le_of_ble_eq_true rfl, Nat.le_of_ble_eq_true rfl⟩ rfl hl.1 (Nat.le_of_ble_eq_true rfl) ⟨Nat.zero_le _, Nat.zero_le _⟩ rfl d_Paths_walkTo_79) (fun H locs hS => ?_)
      cases hT
      exact r_vret F hlk hr hS d_Paths_walkTo_82
    · replace hT := (if_neg c2).symm.trans hT
      refine r_iconst F.hx F.hb d_Paths_walkTo_12 ?_
      refine lv_istore (lv' := [(6, vI 0), (0, .ref (b + 185)), (1, .ref (b + k1)), (2, .ref (b + k2)), (3, vI x3), (4, vI x4), (5, vI v5_)]) F.hx F.hb d_Paths_walkTo_13 hl (Nat.le_of_ble_eq_true rfl) rfl (fun ls hl => ?_)
      exact k_Paths_walkTo_L15 l hlo k1 k2 x3 x4 hk1 hk2 hx3 hx4 F hlk hr (fun a0_ a1_ => t_Paths_walkTo_L3 k1 k2 x3 x4 fu a0_ a1_) ih FU M v5_ hv5_ 0 (inr_c rfl) _ _ _ hS (lv_sub hl [1, 2, 3, 4, 5, 6, 0] rfl) hT
set_option maxHeartbeats 4000000 in
set_option maxRecDepth 100000 in
theorem c_Paths_walkTo (l : Launch) {b n : Nat} {C : CT} (hlo : 191 ≤ n) (M : Mem) (k1 : Nat) (k2 : Nat) (x3 : Int) (x4 : Int) (hk1 : isTown k1) (hk2 : isScene k2) (hx3 : InR x3) (hx4 : InR x4) (res : Mem) (hT : t_Paths_walkTo M k1 k2 x3 x4 = some res) : CM l b C n 5 y_Paths_walkTo b_Paths_walkTo 8 (none) [.ref (b + 185), .ref (b + k1), .ref (b + k2), vI x3, vI x4] M (QV b C n res) := by
  refine CM.of (lo := 191) (ow := "WardFalls$Paths") (by decide) rfl (Nat.le_of_ble_eq_true rfl) hlo (fun p e s m below meth c F hlk hr hS ls hl => ?_)
  have hl : lv_has ls 8 [(0, .ref (b + 185)), (1, .ref (b + k1)), (2, .ref (b + k2)), (3, vI x3), (4, vI x4)] := hl
  unfold t_Paths_walkTo at hT
  refine r_iconst F.hx F.hb d_Paths_walkTo_0 ?_
  refine lv_istore (lv' := [(5, vI 0), (0, .ref (b + 185)), (1, .ref (b + k1)), (2, .ref (b + k2)), (3, vI x3), (4, vI x4)]) F.hx F.hb d_Paths_walkTo_1 hl (Nat.le_of_ble_eq_true rfl) rfl (fun ls hl => ?_)
  exact k_Paths_walkTo_L3 l hlo k1 k2 x3 x4 hk1 hk2 hx3 hx4 F hlk hr FU M 0 (inr_c rfl) _ _ _ hS (lv_sub hl [1, 2, 3, 4, 5, 0] rfl) hT
theorem d_WF_walk_0 : decode b_WF_walk 0 = .ok (.aload_n 0, 1) := dc_42 (by decide +kernel)
theorem d_WF_walk_1 : decode b_WF_walk 1 = .ok (.iload_n 1, 1) := dc_27 (by decide +kernel)
theorem d_WF_walk_2 : decode b_WF_walk 2 = .ok (.iload_n 2, 1) := dc_28 (by decide +kernel)
theorem d_WF_walk_3 : decode b_WF_walk 3 = .ok (.invokevirtual 311, 3) := dc_182 (by decide +kernel)
theorem d_WF_walk_6 : decode b_WF_walk 6 = .ok (.ifCond .ne 5, 3) := dc_154 (by decide +kernel)
theorem d_WF_walk_9 : decode b_WF_walk 9 = .ok (.iconst (-1), 1) := dc_2 (by decide +kernel)
theorem d_WF_walk_10 : decode b_WF_walk 10 = .ok (.ireturn, 1) := dc_172 (by decide +kernel)
theorem d_WF_walk_11 : decode b_WF_walk 11 = .ok (.aload_n 0, 1) := dc_42 (by decide +kernel)
theorem d_WF_walk_12 : decode b_WF_walk 12 = .ok (.getfield 90, 3) := dc_180 (by decide +kernel)
theorem d_WF_walk_15 : decode b_WF_walk 15 = .ok (.aload_n 0, 1) := dc_42 (by decide +kernel)
theorem d_WF_walk_16 : decode b_WF_walk 16 = .ok (.getfield 22, 3) := dc_180 (by decide +kernel)
theorem d_WF_walk_19 : decode b_WF_walk 19 = .ok (.aload_n 0, 1) := dc_42 (by decide +kernel)
theorem d_WF_walk_20 : decode b_WF_walk 20 = .ok (.getfield 46, 3) := dc_180 (by decide +kernel)
theorem d_WF_walk_23 : decode b_WF_walk 23 = .ok (.iload_n 1, 1) := dc_27 (by decide +kernel)
theorem d_WF_walk_24 : decode b_WF_walk 24 = .ok (.iload_n 2, 1) := dc_28 (by decide +kernel)
theorem d_WF_walk_25 : decode b_WF_walk 25 = .ok (.invokevirtual 315, 3) := dc_182 (by decide +kernel)
theorem d_WF_walk_28 : decode b_WF_walk 28 = .ok (.aload_n 0, 1) := dc_42 (by decide +kernel)
theorem d_WF_walk_29 : decode b_WF_walk 29 = .ok (.getfield 90, 3) := dc_180 (by decide +kernel)
theorem d_WF_walk_32 : decode b_WF_walk 32 = .ok (.getfield 319, 3) := dc_180 (by decide +kernel)
theorem d_WF_walk_35 : decode b_WF_walk 35 = .ok (.ifCond .ne 8, 3) := dc_154 (by decide +kernel)
theorem d_WF_walk_38 : decode b_WF_walk 38 = .ok (.bipush (-2), 2) := dc_16 (by decide +kernel)
theorem d_WF_walk_40 : decode b_WF_walk 40 = .ok (.goto 12, 3) := dc_167 (by decide +kernel)
theorem d_WF_walk_43 : decode b_WF_walk 43 = .ok (.aload_n 0, 1) := dc_42 (by decide +kernel)
theorem d_WF_walk_44 : decode b_WF_walk 44 = .ok (.getfield 90, 3) := dc_180 (by decide +kernel)
theorem d_WF_walk_47 : decode b_WF_walk 47 = .ok (.getfield 319, 3) := dc_180 (by decide +kernel)
theorem d_WF_walk_50 : decode b_WF_walk 50 = .ok (.iconst 1, 1) := dc_4 (by decide +kernel)
theorem d_WF_walk_51 : decode b_WF_walk 51 = .ok (.isub, 1) := dc_100 (by decide +kernel)
theorem d_WF_walk_52 : decode b_WF_walk 52 = .ok (.ireturn, 1) := dc_172 (by decide +kernel)
def t_WF_walk (M : Mem) (x1 : Int) (x2 : Int) : Option (Mem × Int) := (qlet (t_WF_canWalk M x1 x2) fun q1 => (if q1 = 0 then (some (M, (-1))) else (obind (t_Paths_walkTo M ((M.1 0 4).toNat) 47 x1 x2) fun q5 => (if (q5.1 185 3) = 0 then (some (q5, (-2))) else (some (q5, (w32 ((q5.1 185 3) - 1))))))))
set_option maxHeartbeats 4000000 in
set_option maxRecDepth 100000 in
theorem c_WF_walk (l : Launch) {b n : Nat} {C : CT} (hlo : 191 ≤ n) (M : Mem) (x1 : Int) (x2 : Int) (hx1 : InR x1) (hx2 : InR x2) (res : Mem × Int) (hT : t_WF_walk M x1 x2 = some res) : CM l b C n 6 y_WF_walk b_WF_walk 3 (some .int) [.ref (b + 0), vI x1, vI x2] M (QI b C n res.1 res.2) := by
  refine CM.of (lo := 191) (ow := "WardFalls") (by decide) rfl (Nat.le_of_ble_eq_true rfl) hlo (fun p e s m below meth c F hlk hr hS ls hl => ?_)
  have hl : lv_has ls 3 [(0, .ref (b + 0)), (1, vI x1), (2, vI x2)] := hl
  unfold t_WF_walk at hT
  refine lv_aload_n F.hx F.hb d_WF_walk_0 rfl (lv_at hl 0 rfl) ?_
  refine lv_iload_n F.hx F.hb d_WF_walk_1 rfl (lv_at hl 1 rfl) ?_
  refine lv_iload_n F.hx F.hb d_WF_walk_2 rfl (lv_at hl 2 rfl) ?_
  obtain ⟨q1, hq1⟩ : ∃ q, q = (t_WF_canWalk M x1 x2) := ⟨_, rfl⟩
  replace hT := qlet_eq hT hq1
  refine r_backZ F hS (r_runV (k := 0) (N := 19) (T := T0) (As := [vI x1, vI x2]) F hS (show 0 < 191 by decide) (show shK 0 = 4 from rfl) rfl (c_WF_canWalk l F.2.2.1 M x1 x2 hx1 hx2 _ hq1.symm) gs_WF_311 hd_WF_canWalk ⟨Nat.le_of_ble_eq_true rfl, Nat.le_of_ble_eq_true rfl⟩ rfl hl.1 (Nat.le_of_ble_eq_true rfl) ⟨Nat.zero_le _, Nat.zero_le _⟩ rfl d_WF_walk_3) (fun H locs hS h2 => ?_)
  refine r_if_ne (tgt := 11) F.hx F.hb (inr_z h2) d_WF_walk_6 (by decide) (fun c3 => ?_) (fun c3 => ?_)
  · replace hT := (if_neg c3).symm.trans hT
    refine lv_aload_n F.hx F.hb d_WF_walk_11 rfl (lv_at hl 0 rfl) ?_
    refine r_get (v := .ref (b + 185)) (N := 19) (T := T0) (j := 17) F hS (show 0 < 191 by decide) (show shK 0 = 4 from rfl) (show shN 0 = 19 from rfl) rfl (Nat.le_of_ble_eq_true rfl) ing0 mw_567 (fv_sg rfl rfl rfl) d_WF_walk_12 ?_
    refine lv_aload_n F.hx F.hb d_WF_walk_15 rfl (lv_at hl 0 rfl) ?_
    have h4 := St_town hS
    refine r_get (v := .ref (b + ((M.1 0 4).toNat))) (N := 19) (T := T0) (j := 4) F hS (show 0 < 191 by decide) (show shK 0 = 4 from rfl) (show shN 0 = 19 from rfl) rfl (Nat.le_of_ble_eq_true rfl) ing0 mw_554 (fv_town hS) d_WF_walk_16 ?_
    refine lv_aload_n F.hx F.hb d_WF_walk_19 rfl (lv_at hl 0 rfl) ?_
    refine r_get (v := .ref (b + 47)) (N := 19) (T := T0) (j := 8) F hS (show 0 < 191 by decide) (show shK 0 = 4 from rfl) (show shN 0 = 19 from rfl) rfl (Nat.le_of_ble_eq_true rfl) ing0 mw_558 (fv_sg rfl rfl rfl) d_WF_walk_20 ?_
    refine lv_iload_n F.hx F.hb d_WF_walk_23 rfl (lv_at hl 1 rfl) ?_
    refine lv_iload_n F.hx F.hb d_WF_walk_24 rfl (lv_at hl 2 rfl) ?_
    obtain ⟨q5, hq5, hT⟩ := q_obind hT
    refine r_backV F hS (r_runV (k := 185) (N := 5) (T := T7) (As := [.ref (b + ((M.1 0 4).toNat)), .ref (b + 47), vI x1, vI x2]) F hS (show 185 < 191 by decide) (show shK 185 = 11 from rfl) rfl (c_Paths_walkTo l F.2.2.1 M ((M.1 0 4).toNat) 47 x1 x2 h4 (by decide : isScene 47) hx1 hx2 _ hq5) gs_WF_315 hd_Paths_walkTo ⟨Nat.le_of_ble_eq_true rfl, Nat.le_of_ble_eq_true rfl⟩ rfl hl.1 (Nat.le_of_ble_eq_true rfl) ⟨Nat.zero_le _, Nat.zero_le _⟩ rfl d_WF_walk_25) (fun H locs hS => ?_)
    refine lv_aload_n F.hx F.hb d_WF_walk_28 rfl (lv_at hl 0 rfl) ?_
    refine r_get (v := .ref (b + 185)) (N := 19) (T := T0) (j := 17) F hS (show 0 < 191 by decide) (show shK 0 = 4 from rfl) (show shN 0 = 19 from rfl) rfl (Nat.le_of_ble_eq_true rfl) ing0 mw_567 (fv_sg rfl rfl rfl) d_WF_walk_29 ?_
    refine r_get (v := vI (q5.1 185 3)) (N := 5) (T := T7) (j := 3) F hS (show 185 < 191 by decide) (show shK 185 = 11 from rfl) (show shN 185 = 5 from rfl) rfl (Nat.le_of_ble_eq_true rfl) ing7 mw_479 (fv_int rfl) d_WF_walk_32 ?_
    have i7 := hS.rng 185 3
    refine r_if_ne (tgt := 43) F.hx F.hb i7 d_WF_walk_35 (by decide) (fun c8 => ?_) (fun c8 => ?_)
    · replace hT := (if_neg c8).symm.trans hT
      refine lv_aload_n F.hx F.hb d_WF_walk_43 rfl (lv_at hl 0 rfl) ?_
      refine r_get (v := .ref (b + 185)) (N := 19) (T := T0) (j := 17) F hS (show 0 < 191 by decide) (show shK 0 = 4 from rfl) (show shN 0 = 19 from rfl) rfl (Nat.le_of_ble_eq_true rfl) ing0 mw_567 (fv_sg rfl rfl rfl) d_WF_walk_44 ?_
      refine r_get (v := vI (q5.1 185 3)) (N := 5) (T := T7) (j := 3) F hS (show 185 < 191 by decide) (show shK 185 = 11 from rfl) (show shN 185 = 5 from rfl) rfl (Nat.le_of_ble_eq_true rfl) ing7 mw_479 (fv_int rfl) d_WF_walk_47 ?_
      have i9 := hS.rng 185 3
      refine r_iconst F.hx F.hb d_WF_walk_50 ?_
      refine r_isub F.hx F.hb d_WF_walk_51 ?_
      cases hT
      exact r_iret F hlk hr rfl hS (inr_w32 _) d_WF_walk_52
    · replace hT := (if_pos c8).symm.trans hT
      refine r_bipush F.hx F.hb d_WF_walk_38 rfl ?_
      refine lv_goto (tgt := 52) F.hx F.hb d_WF_walk_40 (by decide) ?_
      cases hT
      exact r_iret F hlk hr rfl hS (inr_c rfl) d_WF_walk_52
  · replace hT := (if_pos c3).symm.trans hT
    refine r_iconst F.hx F.hb d_WF_walk_9 ?_
    cases hT
    exact r_iret F hlk hr rfl hS (inr_c rfl) d_WF_walk_10
theorem d_Paths_cellAt_0 : decode b_Paths_cellAt 0 = .ok (.iload_n 1, 1) := dc_27 (by decide +kernel)
theorem d_Paths_cellAt_1 : decode b_Paths_cellAt 1 = .ok (.aload_n 0, 1) := dc_42 (by decide +kernel)
theorem d_Paths_cellAt_2 : decode b_Paths_cellAt 2 = .ok (.getfield 42, 3) := dc_180 (by decide +kernel)
theorem d_Paths_cellAt_5 : decode b_Paths_cellAt 5 = .ok (.if_icmp .ge 14, 3) := dc_162 (by decide +kernel)
theorem d_Paths_cellAt_8 : decode b_Paths_cellAt 8 = .ok (.aload_n 0, 1) := dc_42 (by decide +kernel)
theorem d_Paths_cellAt_9 : decode b_Paths_cellAt 9 = .ok (.getfield 18, 3) := dc_180 (by decide +kernel)
theorem d_Paths_cellAt_12 : decode b_Paths_cellAt 12 = .ok (.iload_n 1, 1) := dc_27 (by decide +kernel)
theorem d_Paths_cellAt_13 : decode b_Paths_cellAt 13 = .ok (.invokestatic 45, 3) := dc_184 (by decide +kernel)
theorem d_Paths_cellAt_16 : decode b_Paths_cellAt 16 = .ok (.goto 5, 3) := dc_167 (by decide +kernel)
theorem d_Paths_cellAt_19 : decode b_Paths_cellAt 19 = .ok (.bipush (-2), 2) := dc_16 (by decide +kernel)
theorem d_Paths_cellAt_21 : decode b_Paths_cellAt 21 = .ok (.ireturn, 1) := dc_172 (by decide +kernel)
def t_Paths_cellAt (M : Mem) (x1 : Int) : Int := (if (M.1 185 3) ≤ x1 then (-2) else (qlet (t_WF_look M 188 48 x1) fun q3 => q3))
set_option maxHeartbeats 4000000 in
set_option maxRecDepth 100000 in
theorem c_Paths_cellAt (l : Launch) {b n : Nat} {C : CT} (hlo : 191 ≤ n) (M : Mem) (x1 : Int) (hx1 : InR x1) (res : Int) (hT : t_Paths_cellAt M x1 = res) : CM l b C n 1 y_Paths_cellAt b_Paths_cellAt 2 (some .int) [.ref (b + 185), vI x1] M (QI b C n M res) := by
  refine CM.of (lo := 191) (ow := "WardFalls$Paths") (by decide) rfl (Nat.le_of_ble_eq_true rfl) hlo (fun p e s m below meth c F hlk hr hS ls hl => ?_)
  have hl : lv_has ls 2 [(0, .ref (b + 185)), (1, vI x1)] := hl
  unfold t_Paths_cellAt at hT
  refine lv_iload_n F.hx F.hb d_Paths_cellAt_0 rfl (lv_at hl 1 rfl) ?_
  refine lv_aload_n F.hx F.hb d_Paths_cellAt_1 rfl (lv_at hl 0 rfl) ?_
  refine r_get (v := vI (M.1 185 3)) (N := 5) (T := T7) (j := 3) F hS (show 185 < 191 by decide) (show shK 185 = 11 from rfl) (show shN 185 = 5 from rfl) rfl (Nat.le_of_ble_eq_true rfl) ing7 mw_478 (fv_int rfl) d_Paths_cellAt_2 ?_
  have i1 := hS.rng 185 3
  refine r_icmp_ge (tgt := 19) F.hx F.hb hx1 i1 d_Paths_cellAt_5 (by decide) (fun c2 => ?_) (fun c2 => ?_)
  · replace hT := (if_pos c2).symm.trans hT
    refine r_bipush F.hx F.hb d_Paths_cellAt_19 rfl ?_
    subst hT
    exact r_iret F hlk hr rfl hS (inr_c rfl) d_Paths_cellAt_21
  · replace hT := (if_neg c2).symm.trans hT
    refine lv_aload_n F.hx F.hb d_Paths_cellAt_8 rfl (lv_at hl 0 rfl) ?_
    refine r_get (v := .ref (b + 188)) (N := 5) (T := T7) (j := 2) F hS (show 185 < 191 by decide) (show shK 185 = 11 from rfl) (show shN 185 = 5 from rfl) rfl (Nat.le_of_ble_eq_true rfl) ing7 mw_477 (fv_sg rfl rfl rfl) d_Paths_cellAt_9 ?_
    refine lv_iload_n F.hx F.hb d_Paths_cellAt_12 rfl (lv_at hl 1 rfl) ?_
    obtain ⟨q3, hq3⟩ : ∃ q, q = (t_WF_look M 188 48 x1) := ⟨_, rfl⟩
    replace hT := qlet_eq hT hq3
    refine r_backI F hS (r_runSN (As := [.ref (b + 188), vI x1]) F hS (c_WF_look l F.2.2.1 M 188 48 x1 (show arrP 0 188 48 191 from ⟨rfl, rfl, by decide⟩) hx1 _ hq3.symm) mw_519 mw_518 mw_1 gs_Paths_45 hd_WF_look ⟨Nat.le_of_ble_eq_true rfl, Nat.le_of_ble_eq_true rfl⟩ rfl hl.1 (Nat.le_of_ble_eq_true rfl) ⟨Nat.zero_le _, Nat.zero_le _⟩ rfl d_Paths_cellAt_13) (fun H locs hS h4 => ?_)
    refine lv_goto (tgt := 21) F.hx F.hb d_Paths_cellAt_16 (by decide) ?_
    subst hT
    exact r_iret F hlk hr rfl hS h4 d_Paths_cellAt_21
theorem d_WF_step_0 : decode b_WF_step 0 = .ok (.aload_n 0, 1) := dc_42 (by decide +kernel)
theorem d_WF_step_1 : decode b_WF_step 1 = .ok (.iload_n 1, 1) := dc_27 (by decide +kernel)
theorem d_WF_step_2 : decode b_WF_step 2 = .ok (.iload_n 2, 1) := dc_28 (by decide +kernel)
theorem d_WF_step_3 : decode b_WF_step 3 = .ok (.invokevirtual 311, 3) := dc_182 (by decide +kernel)
theorem d_WF_step_6 : decode b_WF_step 6 = .ok (.ifCond .eq 7, 3) := dc_153 (by decide +kernel)
theorem d_WF_step_9 : decode b_WF_step 9 = .ok (.iload_n 3, 1) := dc_29 (by decide +kernel)
theorem d_WF_step_10 : decode b_WF_step 10 = .ok (.ifCond .ge 5, 3) := dc_156 (by decide +kernel)
theorem d_WF_step_13 : decode b_WF_step 13 = .ok (.iconst (-1), 1) := dc_2 (by decide +kernel)
theorem d_WF_step_14 : decode b_WF_step 14 = .ok (.ireturn, 1) := dc_172 (by decide +kernel)
theorem d_WF_step_15 : decode b_WF_step 15 = .ok (.aload_n 0, 1) := dc_42 (by decide +kernel)
theorem d_WF_step_16 : decode b_WF_step 16 = .ok (.getfield 90, 3) := dc_180 (by decide +kernel)
theorem d_WF_step_19 : decode b_WF_step 19 = .ok (.aload_n 0, 1) := dc_42 (by decide +kernel)
theorem d_WF_step_20 : decode b_WF_step 20 = .ok (.getfield 22, 3) := dc_180 (by decide +kernel)
theorem d_WF_step_23 : decode b_WF_step 23 = .ok (.aload_n 0, 1) := dc_42 (by decide +kernel)
theorem d_WF_step_24 : decode b_WF_step 24 = .ok (.getfield 46, 3) := dc_180 (by decide +kernel)
theorem d_WF_step_27 : decode b_WF_step 27 = .ok (.iload_n 1, 1) := dc_27 (by decide +kernel)
theorem d_WF_step_28 : decode b_WF_step 28 = .ok (.iload_n 2, 1) := dc_28 (by decide +kernel)
theorem d_WF_step_29 : decode b_WF_step 29 = .ok (.invokevirtual 315, 3) := dc_182 (by decide +kernel)
theorem d_WF_step_32 : decode b_WF_step 32 = .ok (.aload_n 0, 1) := dc_42 (by decide +kernel)
theorem d_WF_step_33 : decode b_WF_step 33 = .ok (.getfield 90, 3) := dc_180 (by decide +kernel)
theorem d_WF_step_36 : decode b_WF_step 36 = .ok (.iload_n 3, 1) := dc_29 (by decide +kernel)
theorem d_WF_step_37 : decode b_WF_step 37 = .ok (.invokevirtual 322, 3) := dc_182 (by decide +kernel)
theorem d_WF_step_40 : decode b_WF_step 40 = .ok (.ireturn, 1) := dc_172 (by decide +kernel)
def t_WF_step (M : Mem) (x1 : Int) (x2 : Int) (x3 : Int) : Option (Mem × Int) := (qlet (t_WF_canWalk M x1 x2) fun q1 => (if q1 = 0 then (some (M, (-1))) else (if 0 ≤ x3 then (obind (t_Paths_walkTo M ((M.1 0 4).toNat) 47 x1 x2) fun q6 => (qlet (t_Paths_cellAt q6 x3) fun q8 => (some (q6, q8)))) else (some (M, (-1))))))
set_option maxHeartbeats 4000000 in
set_option maxRecDepth 100000 in
theorem c_WF_step (l : Launch) {b n : Nat} {C : CT} (hlo : 191 ≤ n) (M : Mem) (x1 : Int) (x2 : Int) (x3 : Int) (hx1 : InR x1) (hx2 : InR x2) (hx3 : InR x3) (res : Mem × Int) (hT : t_WF_step M x1 x2 x3 = some res) : CM l b C n 6 y_WF_step b_WF_step 4 (some .int) [.ref (b + 0), vI x1, vI x2, vI x3] M (QI b C n res.1 res.2) := by
  refine CM.of (lo := 191) (ow := "WardFalls") (by decide) rfl (Nat.le_of_ble_eq_true rfl) hlo (fun p e s m below meth c F hlk hr hS ls hl => ?_)
  have hl : lv_has ls 4 [(0, .ref (b + 0)), (1, vI x1), (2, vI x2), (3, vI x3)] := hl
  unfold t_WF_step at hT
  refine lv_aload_n F.hx F.hb d_WF_step_0 rfl (lv_at hl 0 rfl) ?_
  refine lv_iload_n F.hx F.hb d_WF_step_1 rfl (lv_at hl 1 rfl) ?_
  refine lv_iload_n F.hx F.hb d_WF_step_2 rfl (lv_at hl 2 rfl) ?_
  obtain ⟨q1, hq1⟩ : ∃ q, q = (t_WF_canWalk M x1 x2) := ⟨_, rfl⟩
  replace hT := qlet_eq hT hq1
  refine r_backZ F hS (r_runV (k := 0) (N := 19) (T := T0) (As := [vI x1, vI x2]) F hS (show 0 < 191 by decide) (show shK 0 = 4 from rfl) rfl (c_WF_canWalk l F.2.2.1 M x1 x2 hx1 hx2 _ hq1.symm) gs_WF_311 hd_WF_canWalk ⟨Nat.le_of_ble_eq_true rfl, Nat.le_of_ble_eq_true rfl⟩ rfl hl.1 (Nat.le_of_ble_eq_true rfl) ⟨Nat.zero_le _, Nat.zero_le _⟩ rfl d_WF_step_3) (fun H locs hS h2 => ?_)
  refine r_if_eq (tgt := 13) F.hx F.hb (inr_z h2) d_WF_step_6 (by decide) (fun c3 => ?_) (fun c3 => ?_)
  · replace hT := (if_pos c3).symm.trans hT
    refine r_iconst F.hx F.hb d_WF_step_13 ?_
    cases hT
    exact r_iret F hlk hr rfl hS (inr_c rfl) d_WF_step_14
  · replace hT := (if_neg c3).symm.trans hT
    refine lv_iload_n F.hx F.hb d_WF_step_9 rfl (lv_at hl 3 rfl) ?_
    refine r_if_ge (tgt := 15) F.hx F.hb hx3 d_WF_step_10 (by decide) (fun c4 => ?_) (fun c4 => ?_)
    · replace hT := (if_pos c4).symm.trans hT
      refine lv_aload_n F.hx F.hb d_WF_step_15 rfl (lv_at hl 0 rfl) ?_
      refine r_get (v := .ref (b + 185)) (N := 19) (T := T0) (j := 17) F hS (show 0 < 191 by decide) (show shK 0 = 4 from rfl) (show shN 0 = 19 from rfl) rfl (Nat.le_of_ble_eq_true rfl) ing0 mw_567 (fv_sg rfl rfl rfl) d_WF_step_16 ?_
      refine lv_aload_n F.hx F.hb d_WF_step_19 rfl (lv_at hl 0 rfl) ?_
      have h5 := St_town hS
      refine r_get (v := .ref (b + ((M.1 0 4).toNat))) (N := 19) (T := T0) (j := 4) F hS (show 0 < 191 by decide) (show shK 0 = 4 from rfl) (show shN 0 = 19 from rfl) rfl (Nat.le_of_ble_eq_true rfl) ing0 mw_554 (fv_town hS) d_WF_step_20 ?_
      refine lv_aload_n F.hx F.hb d_WF_step_23 rfl (lv_at hl 0 rfl) ?_
      refine r_get (v := .ref (b + 47)) (N := 19) (T := T0) (j := 8) F hS (show 0 < 191 by decide) (show shK 0 = 4 from rfl) (show shN 0 = 19 from rfl) rfl (Nat.le_of_ble_eq_true rfl) ing0 mw_558 (fv_sg rfl rfl rfl) d_WF_step_24 ?_
      refine lv_iload_n F.hx F.hb d_WF_step_27 rfl (lv_at hl 1 rfl) ?_
      refine lv_iload_n F.hx F.hb d_WF_step_28 rfl (lv_at hl 2 rfl) ?_
      obtain ⟨q6, hq6, hT⟩ := q_obind hT
      refine r_backV F hS (r_runV (k := 185) (N := 5) (T := T7) (As := [.ref (b + ((M.1 0 4).toNat)), .ref (b + 47), vI x1, vI x2]) F hS (show 185 < 191 by decide) (show shK 185 = 11 from rfl) rfl (c_Paths_walkTo l F.2.2.1 M ((M.1 0 4).toNat) 47 x1 x2 h5 (by decide : isScene 47) hx1 hx2 _ hq6) gs_WF_315 hd_Paths_walkTo ⟨Nat.le_of_ble_eq_true rfl, Nat.le_of_ble_eq_true rfl⟩ rfl hl.1 (Nat.le_of_ble_eq_true rfl) ⟨Nat.zero_le _, Nat.zero_le _⟩ rfl d_WF_step_29) (fun H locs hS => ?_)
      refine lv_aload_n F.hx F.hb d_WF_step_32 rfl (lv_at hl 0 rfl) ?_
      refine r_get (v := .ref (b + 185)) (N := 19) (T := T0) (j := 17) F hS (show 0 < 191 by decide) (show shK 0 = 4 from rfl) (show shN 0 = 19 from rfl) rfl (Nat.le_of_ble_eq_true rfl) ing0 mw_567 (fv_sg rfl rfl rfl) d_WF_step_33 ?_
      refine lv_iload_n F.hx F.hb d_WF_step_36 rfl (lv_at hl 3 rfl) ?_
      obtain ⟨q8, hq8⟩ : ∃ q, q = (t_Paths_cellAt q6 x3) := ⟨_, rfl⟩
      replace hT := qlet_eq hT hq8
      refine r_backI F hS (r_runV (k := 185) (N := 5) (T := T7) (As := [vI x3]) F hS (show 185 < 191 by decide) (show shK 185 = 11 from rfl) rfl (c_Paths_cellAt l F.2.2.1 q6 x3 hx3 _ hq8.symm) gs_WF_322 hd_Paths_cellAt ⟨Nat.le_of_ble_eq_true rfl, Nat.le_of_ble_eq_true rfl⟩ rfl hl.1 (Nat.le_of_ble_eq_true rfl) ⟨Nat.zero_le _, Nat.zero_le _⟩ rfl d_WF_step_37) (fun H locs hS h9 => ?_)
      cases hT
      exact r_iret F hlk hr rfl hS h9 d_WF_step_40
    · replace hT := (if_neg c4).symm.trans hT
      refine r_iconst F.hx F.hb d_WF_step_13 ?_
      cases hT
      exact r_iret F hlk hr rfl hS (inr_c rfl) d_WF_step_14
theorem wn_Laws_pushAll_0 : ∀ i, i < 96 → bA b_Laws_pushAll (0 + i) = wB [3, 54, 5, 21, 5, 43, 180, 0, 139, 162, 0, 141, 44, 43, 21, 5, 182, 0, 142, 54, 6, 3, 54, 7, 21, 7, 7, 162, 0, 117, 43, 21, 5, 21, 7, 182, 0, 113, 54, 8, 2, 54, 9, 21, 8, 155, 0, 79, 44, 180, 0, 117, 21, 5, 184, 0, 121, 154, 0, 67, 44, 180, 0, 117, 21, 8, 184, 0, 121, 154, 0, 55, 21, 8, 21, 6, 160, 0, 7, 9, 167, 0, 14, 42, 43, 44, 21, 5, 21, 7, 29, 182, 0, 145, 55, 10] i := wB_of (by decide +kernel)
theorem d_Laws_pushAll_0 : decode b_Laws_pushAll 0 = .ok (.iconst 0, 1) := dc_3 (q0_win (r := 0) wn_Laws_pushAll_0 (by decide +kernel))
theorem d_Laws_pushAll_1 : decode b_Laws_pushAll 1 = .ok (.istore 5, 2) := dc_54 (qU1_win (r := 1) wn_Laws_pushAll_0 (by decide +kernel))
theorem d_Laws_pushAll_3 : decode b_Laws_pushAll 3 = .ok (.iload 5, 2) := dc_21 (qU1_win (r := 3) wn_Laws_pushAll_0 (by decide +kernel))
theorem d_Laws_pushAll_5 : decode b_Laws_pushAll 5 = .ok (.aload_n 1, 1) := dc_43 (q0_win (r := 5) wn_Laws_pushAll_0 (by decide +kernel))
theorem d_Laws_pushAll_6 : decode b_Laws_pushAll 6 = .ok (.getfield 139, 3) := dc_180 (qU2_win (r := 6) wn_Laws_pushAll_0 (by decide +kernel))
theorem d_Laws_pushAll_9 : decode b_Laws_pushAll 9 = .ok (.if_icmp .ge 141, 3) := dc_162 (qS2_win (r := 9) wn_Laws_pushAll_0 (by decide +kernel))
theorem d_Laws_pushAll_12 : decode b_Laws_pushAll 12 = .ok (.aload_n 2, 1) := dc_44 (q0_win (r := 12) wn_Laws_pushAll_0 (by decide +kernel))
theorem d_Laws_pushAll_13 : decode b_Laws_pushAll 13 = .ok (.aload_n 1, 1) := dc_43 (q0_win (r := 13) wn_Laws_pushAll_0 (by decide +kernel))
theorem d_Laws_pushAll_14 : decode b_Laws_pushAll 14 = .ok (.iload 5, 2) := dc_21 (qU1_win (r := 14) wn_Laws_pushAll_0 (by decide +kernel))
theorem d_Laws_pushAll_16 : decode b_Laws_pushAll 16 = .ok (.invokevirtual 142, 3) := dc_182 (qU2_win (r := 16) wn_Laws_pushAll_0 (by decide +kernel))
theorem d_Laws_pushAll_19 : decode b_Laws_pushAll 19 = .ok (.istore 6, 2) := dc_54 (qU1_win (r := 19) wn_Laws_pushAll_0 (by decide +kernel))
theorem d_Laws_pushAll_21 : decode b_Laws_pushAll 21 = .ok (.iconst 0, 1) := dc_3 (q0_win (r := 21) wn_Laws_pushAll_0 (by decide +kernel))
theorem d_Laws_pushAll_22 : decode b_Laws_pushAll 22 = .ok (.istore 7, 2) := dc_54 (qU1_win (r := 22) wn_Laws_pushAll_0 (by decide +kernel))
theorem d_Laws_pushAll_24 : decode b_Laws_pushAll 24 = .ok (.iload 7, 2) := dc_21 (qU1_win (r := 24) wn_Laws_pushAll_0 (by decide +kernel))
theorem d_Laws_pushAll_26 : decode b_Laws_pushAll 26 = .ok (.iconst 4, 1) := dc_7 (q0_win (r := 26) wn_Laws_pushAll_0 (by decide +kernel))
theorem d_Laws_pushAll_27 : decode b_Laws_pushAll 27 = .ok (.if_icmp .ge 117, 3) := dc_162 (qS2_win (r := 27) wn_Laws_pushAll_0 (by decide +kernel))
theorem d_Laws_pushAll_30 : decode b_Laws_pushAll 30 = .ok (.aload_n 1, 1) := dc_43 (q0_win (r := 30) wn_Laws_pushAll_0 (by decide +kernel))
theorem d_Laws_pushAll_31 : decode b_Laws_pushAll 31 = .ok (.iload 5, 2) := dc_21 (qU1_win (r := 31) wn_Laws_pushAll_0 (by decide +kernel))
theorem d_Laws_pushAll_33 : decode b_Laws_pushAll 33 = .ok (.iload 7, 2) := dc_21 (qU1_win (r := 33) wn_Laws_pushAll_0 (by decide +kernel))
theorem d_Laws_pushAll_35 : decode b_Laws_pushAll 35 = .ok (.invokevirtual 113, 3) := dc_182 (qU2_win (r := 35) wn_Laws_pushAll_0 (by decide +kernel))
theorem d_Laws_pushAll_38 : decode b_Laws_pushAll 38 = .ok (.istore 8, 2) := dc_54 (qU1_win (r := 38) wn_Laws_pushAll_0 (by decide +kernel))
theorem d_Laws_pushAll_40 : decode b_Laws_pushAll 40 = .ok (.iconst (-1), 1) := dc_2 (q0_win (r := 40) wn_Laws_pushAll_0 (by decide +kernel))
theorem d_Laws_pushAll_41 : decode b_Laws_pushAll 41 = .ok (.istore 9, 2) := dc_54 (qU1_win (r := 41) wn_Laws_pushAll_0 (by decide +kernel))
theorem d_Laws_pushAll_43 : decode b_Laws_pushAll 43 = .ok (.iload 8, 2) := dc_21 (qU1_win (r := 43) wn_Laws_pushAll_0 (by decide +kernel))
theorem d_Laws_pushAll_45 : decode b_Laws_pushAll 45 = .ok (.ifCond .lt 79, 3) := dc_155 (qS2_win (r := 45) wn_Laws_pushAll_0 (by decide +kernel))
theorem d_Laws_pushAll_48 : decode b_Laws_pushAll 48 = .ok (.aload_n 2, 1) := dc_44 (q0_win (r := 48) wn_Laws_pushAll_0 (by decide +kernel))
theorem d_Laws_pushAll_49 : decode b_Laws_pushAll 49 = .ok (.getfield 117, 3) := dc_180 (qU2_win (r := 49) wn_Laws_pushAll_0 (by decide +kernel))
theorem d_Laws_pushAll_52 : decode b_Laws_pushAll 52 = .ok (.iload 5, 2) := dc_21 (qU1_win (r := 52) wn_Laws_pushAll_0 (by decide +kernel))
theorem d_Laws_pushAll_54 : decode b_Laws_pushAll 54 = .ok (.invokestatic 121, 3) := dc_184 (qU2_win (r := 54) wn_Laws_pushAll_0 (by decide +kernel))
theorem d_Laws_pushAll_57 : decode b_Laws_pushAll 57 = .ok (.ifCond .ne 67, 3) := dc_154 (qS2_win (r := 57) wn_Laws_pushAll_0 (by decide +kernel))
theorem d_Laws_pushAll_60 : decode b_Laws_pushAll 60 = .ok (.aload_n 2, 1) := dc_44 (q0_win (r := 60) wn_Laws_pushAll_0 (by decide +kernel))
theorem d_Laws_pushAll_61 : decode b_Laws_pushAll 61 = .ok (.getfield 117, 3) := dc_180 (qU2_win (r := 61) wn_Laws_pushAll_0 (by decide +kernel))
theorem d_Laws_pushAll_64 : decode b_Laws_pushAll 64 = .ok (.iload 8, 2) := dc_21 (qU1_win (r := 64) wn_Laws_pushAll_0 (by decide +kernel))
theorem d_Laws_pushAll_66 : decode b_Laws_pushAll 66 = .ok (.invokestatic 121, 3) := dc_184 (qU2_win (r := 66) wn_Laws_pushAll_0 (by decide +kernel))
theorem d_Laws_pushAll_69 : decode b_Laws_pushAll 69 = .ok (.ifCond .ne 55, 3) := dc_154 (qS2_win (r := 69) wn_Laws_pushAll_0 (by decide +kernel))
theorem d_Laws_pushAll_72 : decode b_Laws_pushAll 72 = .ok (.iload 8, 2) := dc_21 (qU1_win (r := 72) wn_Laws_pushAll_0 (by decide +kernel))
theorem d_Laws_pushAll_74 : decode b_Laws_pushAll 74 = .ok (.iload 6, 2) := dc_21 (qU1_win (r := 74) wn_Laws_pushAll_0 (by decide +kernel))
theorem d_Laws_pushAll_76 : decode b_Laws_pushAll 76 = .ok (.if_icmp .ne 7, 3) := dc_160 (qS2_win (r := 76) wn_Laws_pushAll_0 (by decide +kernel))
theorem d_Laws_pushAll_79 : decode b_Laws_pushAll 79 = .ok (.lconst 0, 1) := dc_9 (q0_win (r := 79) wn_Laws_pushAll_0 (by decide +kernel))
theorem d_Laws_pushAll_80 : decode b_Laws_pushAll 80 = .ok (.goto 14, 3) := dc_167 (qS2_win (r := 80) wn_Laws_pushAll_0 (by decide +kernel))
theorem d_Laws_pushAll_83 : decode b_Laws_pushAll 83 = .ok (.aload_n 0, 1) := dc_42 (q0_win (r := 83) wn_Laws_pushAll_0 (by decide +kernel))
theorem d_Laws_pushAll_84 : decode b_Laws_pushAll 84 = .ok (.aload_n 1, 1) := dc_43 (q0_win (r := 84) wn_Laws_pushAll_0 (by decide +kernel))
theorem d_Laws_pushAll_85 : decode b_Laws_pushAll 85 = .ok (.aload_n 2, 1) := dc_44 (q0_win (r := 85) wn_Laws_pushAll_0 (by decide +kernel))
theorem d_Laws_pushAll_86 : decode b_Laws_pushAll 86 = .ok (.iload 5, 2) := dc_21 (qU1_win (r := 86) wn_Laws_pushAll_0 (by decide +kernel))
theorem d_Laws_pushAll_88 : decode b_Laws_pushAll 88 = .ok (.iload 7, 2) := dc_21 (qU1_win (r := 88) wn_Laws_pushAll_0 (by decide +kernel))
theorem d_Laws_pushAll_90 : decode b_Laws_pushAll 90 = .ok (.iload_n 3, 1) := dc_29 (q0_win (r := 90) wn_Laws_pushAll_0 (by decide +kernel))
theorem d_Laws_pushAll_91 : decode b_Laws_pushAll 91 = .ok (.invokevirtual 145, 3) := dc_182 (qU2_win (r := 91) wn_Laws_pushAll_0 (by decide +kernel))
theorem d_Laws_pushAll_94 : decode b_Laws_pushAll 94 = .ok (.lstore 10, 2) := dc_55 (qU1_win (r := 94) wn_Laws_pushAll_0 (by decide +kernel))
theorem wn_Laws_pushAll_96 : ∀ i, i < 55 → bA b_Laws_pushAll (96 + i) = wB [22, 10, 20, 0, 100, 148, 154, 0, 7, 4, 167, 0, 16, 9, 20, 0, 149, 22, 10, 184, 0, 104, 184, 0, 110, 136, 54, 9, 25, 4, 21, 5, 7, 104, 21, 7, 96, 21, 9, 184, 0, 68, 132, 7, 1, 167, 255, 139, 132, 5, 1, 167, 255, 112, 177] i := wB_of (by decide +kernel)
theorem d_Laws_pushAll_96 : decode b_Laws_pushAll 96 = .ok (.lload 10, 2) := dc_22 (qU1_win (r := 0) wn_Laws_pushAll_96 (by decide +kernel))
theorem d_Laws_pushAll_98 : decode b_Laws_pushAll 98 = .ok (.ldc2_w 100, 3) := dc_20 (qU2_win (r := 2) wn_Laws_pushAll_96 (by decide +kernel))
theorem d_Laws_pushAll_101 : decode b_Laws_pushAll 101 = .ok (.lcmp, 1) := dc_148 (q0_win (r := 5) wn_Laws_pushAll_96 (by decide +kernel))
theorem d_Laws_pushAll_102 : decode b_Laws_pushAll 102 = .ok (.ifCond .ne 7, 3) := dc_154 (qS2_win (r := 6) wn_Laws_pushAll_96 (by decide +kernel))
theorem d_Laws_pushAll_105 : decode b_Laws_pushAll 105 = .ok (.iconst 1, 1) := dc_4 (q0_win (r := 9) wn_Laws_pushAll_96 (by decide +kernel))
theorem d_Laws_pushAll_106 : decode b_Laws_pushAll 106 = .ok (.goto 16, 3) := dc_167 (qS2_win (r := 10) wn_Laws_pushAll_96 (by decide +kernel))
theorem d_Laws_pushAll_109 : decode b_Laws_pushAll 109 = .ok (.lconst 0, 1) := dc_9 (q0_win (r := 13) wn_Laws_pushAll_96 (by decide +kernel))
theorem d_Laws_pushAll_110 : decode b_Laws_pushAll 110 = .ok (.ldc2_w 149, 3) := dc_20 (qU2_win (r := 14) wn_Laws_pushAll_96 (by decide +kernel))
theorem d_Laws_pushAll_113 : decode b_Laws_pushAll 113 = .ok (.lload 10, 2) := dc_22 (qU1_win (r := 17) wn_Laws_pushAll_96 (by decide +kernel))
theorem d_Laws_pushAll_115 : decode b_Laws_pushAll 115 = .ok (.invokestatic 104, 3) := dc_184 (qU2_win (r := 19) wn_Laws_pushAll_96 (by decide +kernel))
theorem d_Laws_pushAll_118 : decode b_Laws_pushAll 118 = .ok (.invokestatic 110, 3) := dc_184 (qU2_win (r := 22) wn_Laws_pushAll_96 (by decide +kernel))
theorem d_Laws_pushAll_121 : decode b_Laws_pushAll 121 = .ok (.l2i, 1) := dc_136 (q0_win (r := 25) wn_Laws_pushAll_96 (by decide +kernel))
theorem d_Laws_pushAll_122 : decode b_Laws_pushAll 122 = .ok (.istore 9, 2) := dc_54 (qU1_win (r := 26) wn_Laws_pushAll_96 (by decide +kernel))
theorem d_Laws_pushAll_124 : decode b_Laws_pushAll 124 = .ok (.aload 4, 2) := dc_25 (qU1_win (r := 28) wn_Laws_pushAll_96 (by decide +kernel))
theorem d_Laws_pushAll_126 : decode b_Laws_pushAll 126 = .ok (.iload 5, 2) := dc_21 (qU1_win (r := 30) wn_Laws_pushAll_96 (by decide +kernel))
theorem d_Laws_pushAll_128 : decode b_Laws_pushAll 128 = .ok (.iconst 4, 1) := dc_7 (q0_win (r := 32) wn_Laws_pushAll_96 (by decide +kernel))
theorem d_Laws_pushAll_129 : decode b_Laws_pushAll 129 = .ok (.imul, 1) := dc_104 (q0_win (r := 33) wn_Laws_pushAll_96 (by decide +kernel))
theorem d_Laws_pushAll_130 : decode b_Laws_pushAll 130 = .ok (.iload 7, 2) := dc_21 (qU1_win (r := 34) wn_Laws_pushAll_96 (by decide +kernel))
theorem d_Laws_pushAll_132 : decode b_Laws_pushAll 132 = .ok (.iadd, 1) := dc_96 (q0_win (r := 36) wn_Laws_pushAll_96 (by decide +kernel))
theorem d_Laws_pushAll_133 : decode b_Laws_pushAll 133 = .ok (.iload 9, 2) := dc_21 (qU1_win (r := 37) wn_Laws_pushAll_96 (by decide +kernel))
theorem d_Laws_pushAll_135 : decode b_Laws_pushAll 135 = .ok (.invokestatic 68, 3) := dc_184 (qU2_win (r := 39) wn_Laws_pushAll_96 (by decide +kernel))
theorem d_Laws_pushAll_138 : decode b_Laws_pushAll 138 = .ok (.iinc 7 1, 3) := dc_132 (qI_win (r := 42) wn_Laws_pushAll_96 (by decide +kernel))
theorem d_Laws_pushAll_141 : decode b_Laws_pushAll 141 = .ok (.goto (-117), 3) := dc_167 (qS2_win (r := 45) wn_Laws_pushAll_96 (by decide +kernel))
theorem d_Laws_pushAll_144 : decode b_Laws_pushAll 144 = .ok (.iinc 5 1, 3) := dc_132 (qI_win (r := 48) wn_Laws_pushAll_96 (by decide +kernel))
theorem d_Laws_pushAll_147 : decode b_Laws_pushAll 147 = .ok (.goto (-144), 3) := dc_167 (qS2_win (r := 51) wn_Laws_pushAll_96 (by decide +kernel))
theorem d_Laws_pushAll_150 : decode b_Laws_pushAll 150 = .ok (.return_, 1) := dc_177 (q0_win (r := 54) wn_Laws_pushAll_96 (by decide +kernel))
def t_Laws_pushAll_L124 (k1 : Nat) (k2 : Nat) (x3 : Int) (r4 : Nat) (N4 : Nat) (bk3 : Mem → Int → Option (Mem)) (bk24 : Mem → Int → Int → Int → Option (Mem)) (M : Mem) (v5_ : Int) (v6_ : Int) (v7_ : Int) (v8_ : Int) : Option (Mem) := (qlet (t_WF_put M r4 N4 (w32 ((w32 (v5_ * 4)) + v7_)) v8_) fun q18 => (bk24 q18 v5_ v6_ (w32 (v7_ + 1))))
def t_Laws_pushAll_L122 (k1 : Nat) (k2 : Nat) (x3 : Int) (r4 : Nat) (N4 : Nat) (bk3 : Mem → Int → Option (Mem)) (bk24 : Mem → Int → Int → Int → Option (Mem)) (M : Mem) (v5_ : Int) (v6_ : Int) (v7_ : Int) (v8_ : Int) : Option (Mem) := (t_Laws_pushAll_L124 k1 k2 x3 r4 N4 bk3 bk24 M v5_ v6_ v7_ v8_)
def t_Laws_pushAll_L94 (k1 : Nat) (k2 : Nat) (x3 : Int) (r4 : Nat) (N4 : Nat) (bk3 : Mem → Int → Option (Mem)) (bk24 : Mem → Int → Int → Int → Option (Mem)) (M : Mem) (v5_ : Int) (v6_ : Int) (v7_ : Int) (v8_ : Int64) : Option (Mem) := (if v8_ = (-9223372036854775808) then (t_Laws_pushAll_L122 k1 k2 x3 r4 N4 bk3 bk24 M v5_ v6_ v7_ 1) else (t_Laws_pushAll_L122 k1 k2 x3 r4 N4 bk3 bk24 M v5_ v6_ v7_ (q_l2i (q_maxl 0 (q_minl 999 v8_)))))
def t_Laws_pushAll_L24 (k1 : Nat) (k2 : Nat) (x3 : Int) (r4 : Nat) (N4 : Nat) (bk3 : Mem → Int → Option (Mem)) : Nat → Mem → Int → Int → Int → Option (Mem)
  | 0, _, _, _, _ => none
  | fu + 1, M, v5_, v6_, v7_ => (if 4 ≤ v7_ then (bk3 M (w32 (v5_ + 1))) else (qlet (t_Town_beside M k1 v5_ v7_) fun q6 => (if q6 < 0 then (t_Laws_pushAll_L124 k1 k2 x3 r4 N4 bk3 (fun a0_ a1_ a2_ a3_ => t_Laws_pushAll_L24 k1 k2 x3 r4 N4 bk3 fu a0_ a1_ a2_ a3_) M v5_ v6_ v7_ (-1)) else (qlet (t_WF_bitOf M (M.2 k2 4) v5_) fun q9 => (if q9 = 0 then (qlet (t_WF_bitOf M (M.2 k2 4) q6) fun q12 => (if q12 = 0 then (if q6 = v6_ then (t_Laws_pushAll_L94 k1 k2 x3 r4 N4 bk3 (fun a0_ a1_ a2_ a3_ => t_Laws_pushAll_L24 k1 k2 x3 r4 N4 bk3 fu a0_ a1_ a2_ a3_) M v5_ v6_ v7_ 0) else (obind (t_Laws_pushFrom M k1 k2 v5_ v7_ x3) fun q16 => (t_Laws_pushAll_L94 k1 k2 x3 r4 N4 bk3 (fun a0_ a1_ a2_ a3_ => t_Laws_pushAll_L24 k1 k2 x3 r4 N4 bk3 fu a0_ a1_ a2_ a3_) (q16.1) v5_ v6_ v7_ (q16.2)))) else (t_Laws_pushAll_L124 k1 k2 x3 r4 N4 bk3 (fun a0_ a1_ a2_ a3_ => t_Laws_pushAll_L24 k1 k2 x3 r4 N4 bk3 fu a0_ a1_ a2_ a3_) M v5_ v6_ v7_ (-1)))) else (t_Laws_pushAll_L124 k1 k2 x3 r4 N4 bk3 (fun a0_ a1_ a2_ a3_ => t_Laws_pushAll_L24 k1 k2 x3 r4 N4 bk3 fu a0_ a1_ a2_ a3_) M v5_ v6_ v7_ (-1)))))))
def t_Laws_pushAll_L3 (k1 : Nat) (k2 : Nat) (x3 : Int) (r4 : Nat) (N4 : Nat)  : Nat → Mem → Int → Option (Mem)
  | 0, _, _ => none
  | fu + 1, M, v5_ => (if (M.1 k1 13) ≤ v5_ then (some M) else (qlet (t_Scene_nextOf M k2 k1 v5_) fun q3 => (t_Laws_pushAll_L24 k1 k2 x3 r4 N4 (fun a0_ a1_ => t_Laws_pushAll_L3 k1 k2 x3 r4 N4 fu a0_ a1_) FU M v5_ q3 0)))
def t_Laws_pushAll (M : Mem) (k1 : Nat) (k2 : Nat) (x3 : Int) (r4 : Nat) (N4 : Nat) : Option (Mem) := (t_Laws_pushAll_L3 k1 k2 x3 r4 N4 FU M 0)
set_option maxHeartbeats 4000000 in
set_option maxRecDepth 100000 in
theorem k_Laws_pushAll_L124 (l : Launch) {p : Program} {e : Env} {s : State} {m : MethodId} {below : List Frame} {meth : Method} {c : Code} {b n : Nat} {C : CT} (hlo : 191 ≤ n) (k1 : Nat) (k2 : Nat) (x3 : Int) (r4 : Nat) (N4 : Nat) (hk1 : isTown k1) (hk2 : isScene k2) (hx3 : InR x3) (hr4 : arrP 0 r4 N4 191) (F : Cx b p m c b_Laws_pushAll 12 s ([.ref (b + 177), .ref (b + k1), .ref (b + k2), vI x3, .ref (b + r4)] : List Value).toArray "WardFalls$Laws" C n 191) (hlk : meth.locks = false) (hr : meth.sig.returnType = none) {res : Mem} (bk3 : Mem → Int → Option (Mem)) (hbk3 : ∀ (M : Mem) (v5_ : Int) (hv5_ : InR v5_) (H : Heap) (locs : List Loc) (ls : Array Slot), St b C n M s H locs → lv_has ls 12 [(0, .ref (b + 177)), (1, .ref (b + k1)), (2, .ref (b + k2)), (3, vI x3), (4, .ref (b + r4)), (5, vI v5_)] → bk3 M v5_ = some res → W p l e (headSpec (wsM y_Laws_pushAll b_Laws_pushAll 12 (none)) (rmD 5)).room s m ([.ref (b + 177), .ref (b + k1), .ref (b + k2), vI x3, .ref (b + r4)] : List Value).toArray below meth c H locs 0 0 (MQ below (QV b C n res) ([.ref (b + 177), .ref (b + k1), .ref (b + k2), vI x3, .ref (b + r4)] : List Value).toArray s 0 0 (frb b)) (F0 m 3 ls [])) (bk24 : Mem → Int → Int → Int → Option (Mem)) (hbk24 : ∀ (M : Mem) (v5_ : Int) (hv5_ : InR v5_) (v6_ : Int) (hv6_ : InR v6_) (v7_ : Int) (hv7_ : InR v7_) (H : Heap) (locs : List Loc) (ls : Array Slot), St b C n M s H locs → lv_has ls 12 [(0, .ref (b + 177)), (1, .ref (b + k1)), (2, .ref (b + k2)), (3, vI x3), (4, .ref (b + r4)), (5, vI v5_), (6, vI v6_), (7, vI v7_)] → bk24 M v5_ v6_ v7_ = some res → W p l e (headSpec (wsM y_Laws_pushAll b_Laws_pushAll 12 (none)) (rmD 5)).room s m ([.ref (b + 177), .ref (b + k1), .ref (b + k2), vI x3, .ref (b + r4)] : List Value).toArray below meth c H locs 0 0 (MQ below (QV b C n res) ([.ref (b + 177), .ref (b + k1), .ref (b + k2), vI x3, .ref (b + r4)] : List Value).toArray s 0 0 (frb b)) (F0 m 24 ls [])) (M : Mem) (v5_ : Int) (hv5_ : InR v5_) (v6_ : Int) (hv6_ : InR v6_) (v7_ : Int) (hv7_ : InR v7_) (v8_ : Int) (hv8_ : InR v8_) (H : Heap) (locs : List Loc) (ls : Array Slot) (hS : St b C n M s H locs) (hl : lv_has ls 12 [(0, .ref (b + 177)), (1, .ref (b + k1)), (2, .ref (b + k2)), (3, vI x3), (4, .ref (b + r4)), (5, vI v5_), (6, vI v6_), (7, vI v7_), (9, vI v8_)]) (hT : t_Laws_pushAll_L124 k1 k2 x3 r4 N4 bk3 bk24 M v5_ v6_ v7_ v8_ = some res) : W p l e (headSpec (wsM y_Laws_pushAll b_Laws_pushAll 12 (none)) (rmD 5)).room s m ([.ref (b + 177), .ref (b + k1), .ref (b + k2), vI x3, .ref (b + r4)] : List Value).toArray below meth c H locs 0 0 (MQ below (QV b C n res) ([.ref (b + 177), .ref (b + k1), .ref (b + k2), vI x3, .ref (b + r4)] : List Value).toArray s 0 0 (frb b)) (F0 m 124 ls []) := by
  unfold t_Laws_pushAll_L124 at hT
  refine lv_aload F.hx F.hb d_Laws_pushAll_124 (lv_at hl 4 rfl) ?_
  refine lv_iload F.hx F.hb d_Laws_pushAll_126 (lv_at hl 5 rfl) ?_
  refine r_iconst F.hx F.hb d_Laws_pushAll_128 ?_
  refine r_imul F.hx F.hb d_Laws_pushAll_129 ?_
  refine lv_iload F.hx F.hb d_Laws_pushAll_130 (lv_at hl 7 rfl) ?_
  refine r_iadd F.hx F.hb d_Laws_pushAll_132 ?_
  refine lv_iload F.hx F.hb d_Laws_pushAll_133 (lv_at hl 8 rfl) ?_
  obtain ⟨q18, hq18⟩ : ∃ q, q = (t_WF_put M r4 N4 (w32 ((w32 (v5_ * 4)) + v7_)) v8_) := ⟨_, rfl⟩
  replace hT := qlet_eq hT hq18
  refine r_backV F hS (r_runSN (As := [.ref (b + r4), vI (w32 ((w32 (v5_ * 4)) + v7_)), vI v8_]) F hS (c_WF_put l F.2.2.1 M r4 N4 (w32 ((w32 (v5_ * 4)) + v7_)) v8_ hr4 (inr_w32 _) hv8_ _ hq18.symm) mw_512 mw_511 mw_1 gs_Laws_68 hd_WF_put ⟨Nat.le_of_ble_eq_true rfl, Nat.le_of_ble_eq_true rfl⟩ rfl hl.1 (Nat.le_of_ble_eq_true rfl) ⟨Nat.zero_le _, Nat.zero_le _⟩ rfl d_Laws_pushAll_135) (fun H locs hS => ?_)
  refine lv_iinc (v := Int32.ofInt (w32 (v7_ + 1))) (lv' := [(7, vI (w32 (v7_ + 1))), (0, .ref (b + 177)), (1, .ref (b + k1)), (2, .ref (b + k2)), (3, vI x3), (4, .ref (b + r4)), (5, vI v5_), (6, vI v6_), (9, vI v8_)]) F.hx F.hb d_Laws_pushAll_138 hl (k := 7) rfl (q_of_add _ _) (Nat.le_of_ble_eq_true rfl) rfl (fun ls hl => ?_)
  refine lv_goto (tgt := 24) F.hx F.hb d_Laws_pushAll_141 (by decide) ?_
  exact hbk24 q18 v5_ hv5_ v6_ hv6_ (w32 (v7_ + 1)) (inr_w32 _) _ _ _ hS (lv_sub hl [1, 2, 3, 4, 5, 6, 7, 0] rfl) hT
set_option maxHeartbeats 4000000 in
set_option maxRecDepth 100000 in
theorem k_Laws_pushAll_L122 (l : Launch) {p : Program} {e : Env} {s : State} {m : MethodId} {below : List Frame} {meth : Method} {c : Code} {b n : Nat} {C : CT} (hlo : 191 ≤ n) (k1 : Nat) (k2 : Nat) (x3 : Int) (r4 : Nat) (N4 : Nat) (hk1 : isTown k1) (hk2 : isScene k2) (hx3 : InR x3) (hr4 : arrP 0 r4 N4 191) (F : Cx b p m c b_Laws_pushAll 12 s ([.ref (b + 177), .ref (b + k1), .ref (b + k2), vI x3, .ref (b + r4)] : List Value).toArray "WardFalls$Laws" C n 191) (hlk : meth.locks = false) (hr : meth.sig.returnType = none) {res : Mem} (bk3 : Mem → Int → Option (Mem)) (hbk3 : ∀ (M : Mem) (v5_ : Int) (hv5_ : InR v5_) (H : Heap) (locs : List Loc) (ls : Array Slot), St b C n M s H locs → lv_has ls 12 [(0, .ref (b + 177)), (1, .ref (b + k1)), (2, .ref (b + k2)), (3, vI x3), (4, .ref (b + r4)), (5, vI v5_)] → bk3 M v5_ = some res → W p l e (headSpec (wsM y_Laws_pushAll b_Laws_pushAll 12 (none)) (rmD 5)).room s m ([.ref (b + 177), .ref (b + k1), .ref (b + k2), vI x3, .ref (b + r4)] : List Value).toArray below meth c H locs 0 0 (MQ below (QV b C n res) ([.ref (b + 177), .ref (b + k1), .ref (b + k2), vI x3, .ref (b + r4)] : List Value).toArray s 0 0 (frb b)) (F0 m 3 ls [])) (bk24 : Mem → Int → Int → Int → Option (Mem)) (hbk24 : ∀ (M : Mem) (v5_ : Int) (hv5_ : InR v5_) (v6_ : Int) (hv6_ : InR v6_) (v7_ : Int) (hv7_ : InR v7_) (H : Heap) (locs : List Loc) (ls : Array Slot), St b C n M s H locs → lv_has ls 12 [(0, .ref (b + 177)), (1, .ref (b + k1)), (2, .ref (b + k2)), (3, vI x3), (4, .ref (b + r4)), (5, vI v5_), (6, vI v6_), (7, vI v7_)] → bk24 M v5_ v6_ v7_ = some res → W p l e (headSpec (wsM y_Laws_pushAll b_Laws_pushAll 12 (none)) (rmD 5)).room s m ([.ref (b + 177), .ref (b + k1), .ref (b + k2), vI x3, .ref (b + r4)] : List Value).toArray below meth c H locs 0 0 (MQ below (QV b C n res) ([.ref (b + 177), .ref (b + k1), .ref (b + k2), vI x3, .ref (b + r4)] : List Value).toArray s 0 0 (frb b)) (F0 m 24 ls [])) (M : Mem) (v5_ : Int) (hv5_ : InR v5_) (v6_ : Int) (hv6_ : InR v6_) (v7_ : Int) (hv7_ : InR v7_) (v8_ : Int) (hv8_ : InR v8_) (H : Heap) (locs : List Loc) (ls : Array Slot) (hS : St b C n M s H locs) (hl : lv_has ls 12 [(0, .ref (b + 177)), (1, .ref (b + k1)), (2, .ref (b + k2)), (3, vI x3), (4, .ref (b + r4)), (5, vI v5_), (6, vI v6_), (7, vI v7_)]) (hT : t_Laws_pushAll_L122 k1 k2 x3 r4 N4 bk3 bk24 M v5_ v6_ v7_ v8_ = some res) : W p l e (headSpec (wsM y_Laws_pushAll b_Laws_pushAll 12 (none)) (rmD 5)).room s m ([.ref (b + 177), .ref (b + k1), .ref (b + k2), vI x3, .ref (b + r4)] : List Value).toArray below meth c H locs 0 0 (MQ below (QV b C n res) ([.ref (b + 177), .ref (b + k1), .ref (b + k2), vI x3, .ref (b + r4)] : List Value).toArray s 0 0 (frb b)) (F0 m 122 ls [vI v8_]) := by
  unfold t_Laws_pushAll_L122 at hT
  refine lv_istore (lv' := [(9, vI v8_), (0, .ref (b + 177)), (1, .ref (b + k1)), (2, .ref (b + k2)), (3, vI x3), (4, .ref (b + r4)), (5, vI v5_), (6, vI v6_), (7, vI v7_)]) F.hx F.hb d_Laws_pushAll_122 hl (Nat.le_of_ble_eq_true rfl) rfl (fun ls hl => ?_)
  exact k_Laws_pushAll_L124 l hlo k1 k2 x3 r4 N4 hk1 hk2 hx3 hr4 F hlk hr bk3 hbk3 bk24 hbk24 M v5_ hv5_ v6_ hv6_ v7_ hv7_ v8_ hv8_ _ _ _ hS (lv_sub hl [1, 2, 3, 4, 5, 6, 7, 8, 0] rfl) hT
set_option maxHeartbeats 4000000 in
set_option maxRecDepth 100000 in
theorem k_Laws_pushAll_L94 (l : Launch) {p : Program} {e : Env} {s : State} {m : MethodId} {below : List Frame} {meth : Method} {c : Code} {b n : Nat} {C : CT} (hlo : 191 ≤ n) (k1 : Nat) (k2 : Nat) (x3 : Int) (r4 : Nat) (N4 : Nat) (hk1 : isTown k1) (hk2 : isScene k2) (hx3 : InR x3) (hr4 : arrP 0 r4 N4 191) (F : Cx b p m c b_Laws_pushAll 12 s ([.ref (b + 177), .ref (b + k1), .ref (b + k2), vI x3, .ref (b + r4)] : List Value).toArray "WardFalls$Laws" C n 191) (hlk : meth.locks = false) (hr : meth.sig.returnType = none) {res : Mem} (bk3 : Mem → Int → Option (Mem)) (hbk3 : ∀ (M : Mem) (v5_ : Int) (hv5_ : InR v5_) (H : Heap) (locs : List Loc) (ls : Array Slot), St b C n M s H locs → lv_has ls 12 [(0, .ref (b + 177)), (1, .ref (b + k1)), (2, .ref (b + k2)), (3, vI x3), (4, .ref (b + r4)), (5, vI v5_)] → bk3 M v5_ = some res → W p l e (headSpec (wsM y_Laws_pushAll b_Laws_pushAll 12 (none)) (rmD 5)).room s m ([.ref (b + 177), .ref (b + k1), .ref (b + k2), vI x3, .ref (b + r4)] : List Value).toArray below meth c H locs 0 0 (MQ below (QV b C n res) ([.ref (b + 177), .ref (b + k1), .ref (b + k2), vI x3, .ref (b + r4)] : List Value).toArray s 0 0 (frb b)) (F0 m 3 ls [])) (bk24 : Mem → Int → Int → Int → Option (Mem)) (hbk24 : ∀ (M : Mem) (v5_ : Int) (hv5_ : InR v5_) (v6_ : Int) (hv6_ : InR v6_) (v7_ : Int) (hv7_ : InR v7_) (H : Heap) (locs : List Loc) (ls : Array Slot), St b C n M s H locs → lv_has ls 12 [(0, .ref (b + 177)), (1, .ref (b + k1)), (2, .ref (b + k2)), (3, vI x3), (4, .ref (b + r4)), (5, vI v5_), (6, vI v6_), (7, vI v7_)] → bk24 M v5_ v6_ v7_ = some res → W p l e (headSpec (wsM y_Laws_pushAll b_Laws_pushAll 12 (none)) (rmD 5)).room s m ([.ref (b + 177), .ref (b + k1), .ref (b + k2), vI x3, .ref (b + r4)] : List Value).toArray below meth c H locs 0 0 (MQ below (QV b C n res) ([.ref (b + 177), .ref (b + k1), .ref (b + k2), vI x3, .ref (b + r4)] : List Value).toArray s 0 0 (frb b)) (F0 m 24 ls [])) (M : Mem) (v5_ : Int) (hv5_ : InR v5_) (v6_ : Int) (hv6_ : InR v6_) (v7_ : Int) (hv7_ : InR v7_) (v8_ : Int64) (H : Heap) (locs : List Loc) (ls : Array Slot) (hS : St b C n M s H locs) (hl : lv_has ls 12 [(0, .ref (b + 177)), (1, .ref (b + k1)), (2, .ref (b + k2)), (3, vI x3), (4, .ref (b + r4)), (5, vI v5_), (6, vI v6_), (7, vI v7_)]) (hT : t_Laws_pushAll_L94 k1 k2 x3 r4 N4 bk3 bk24 M v5_ v6_ v7_ v8_ = some res) : W p l e (headSpec (wsM y_Laws_pushAll b_Laws_pushAll 12 (none)) (rmD 5)).room s m ([.ref (b + 177), .ref (b + k1), .ref (b + k2), vI x3, .ref (b + r4)] : List Value).toArray below meth c H locs 0 0 (MQ below (QV b C n res) ([.ref (b + 177), .ref (b + k1), .ref (b + k2), vI x3, .ref (b + r4)] : List Value).toArray s 0 0 (frb b)) (F0 m 94 ls [.long v8_]) := by
  unfold t_Laws_pushAll_L94 at hT
  refine lv_lstore (lv' := [(10, .long v8_), (0, .ref (b + 177)), (1, .ref (b + k1)), (2, .ref (b + k2)), (3, vI x3), (4, .ref (b + r4)), (5, vI v5_), (6, vI v6_), (7, vI v7_)]) F.hx F.hb d_Laws_pushAll_94 hl (Nat.le_of_ble_eq_true rfl) rfl (fun ls hl => ?_)
  refine lv_lload F.hx F.hb d_Laws_pushAll_96 (lv_at hl 0 rfl) ?_
  refine lv_ldc2 (v := (-9223372036854775808)) F.hx F.hb F.hown (F.hts mw_920) d_Laws_pushAll_98 ?_
  refine W.lcmp F.hx F.hb d_Laws_pushAll_101 ?_
  refine r_lif_ne (tgt := 109) F.hx F.hb  d_Laws_pushAll_102 (by decide) (fun c20 => ?_) (fun c20 => ?_)
  · replace hT := (if_neg c20).symm.trans hT
    refine lv_lconst (v := 0) F.hx F.hb d_Laws_pushAll_109 rfl ?_
    refine lv_ldc2 (v := 999) F.hx F.hb F.hown (F.hts mw_1102) d_Laws_pushAll_110 ?_
    refine lv_lload F.hx F.hb d_Laws_pushAll_113 (lv_at hl 0 rfl) ?_
    refine r_mminl F hl.1 mw_922 mw_923 mw_14 mw_924 ⟨Nat.le_of_ble_eq_true rfl, Nat.le_of_ble_eq_true rfl⟩ (Nat.le_of_ble_eq_true rfl) ⟨Nat.zero_le _, Nat.zero_le _⟩ d_Laws_pushAll_115 ?_
    refine r_mmaxl F hl.1 mw_925 mw_926 mw_14 mw_927 ⟨Nat.le_of_ble_eq_true rfl, Nat.le_of_ble_eq_true rfl⟩ (Nat.le_of_ble_eq_true rfl) ⟨Nat.zero_le _, Nat.zero_le _⟩ d_Laws_pushAll_118 ?_
    refine r_l2i F.hx F.hb d_Laws_pushAll_121 ?_
    exact k_Laws_pushAll_L122 l hlo k1 k2 x3 r4 N4 hk1 hk2 hx3 hr4 F hlk hr bk3 hbk3 bk24 hbk24 M v5_ hv5_ v6_ hv6_ v7_ hv7_ (q_l2i (q_maxl 0 (q_minl 999 v8_))) (q_inr_toInt _) _ _ _ hS (lv_sub hl [1, 2, 3, 4, 5, 6, 7, 8] rfl) hT
  · replace hT := (if_pos c20).symm.trans hT
    refine r_iconst F.hx F.hb d_Laws_pushAll_105 ?_
    refine lv_goto (tgt := 122) F.hx F.hb d_Laws_pushAll_106 (by decide) ?_
    exact k_Laws_pushAll_L122 l hlo k1 k2 x3 r4 N4 hk1 hk2 hx3 hr4 F hlk hr bk3 hbk3 bk24 hbk24 M v5_ hv5_ v6_ hv6_ v7_ hv7_ 1 (inr_c rfl) _ _ _ hS (lv_sub hl [1, 2, 3, 4, 5, 6, 7, 8] rfl) hT
set_option maxHeartbeats 4000000 in
set_option maxRecDepth 100000 in
theorem k_Laws_pushAll_L24 (l : Launch) {p : Program} {e : Env} {s : State} {m : MethodId} {below : List Frame} {meth : Method} {c : Code} {b n : Nat} {C : CT} (hlo : 191 ≤ n) (k1 : Nat) (k2 : Nat) (x3 : Int) (r4 : Nat) (N4 : Nat) (hk1 : isTown k1) (hk2 : isScene k2) (hx3 : InR x3) (hr4 : arrP 0 r4 N4 191) (F : Cx b p m c b_Laws_pushAll 12 s ([.ref (b + 177), .ref (b + k1), .ref (b + k2), vI x3, .ref (b + r4)] : List Value).toArray "WardFalls$Laws" C n 191) (hlk : meth.locks = false) (hr : meth.sig.returnType = none) {res : Mem} (bk3 : Mem → Int → Option (Mem)) (hbk3 : ∀ (M : Mem) (v5_ : Int) (hv5_ : InR v5_) (H : Heap) (locs : List Loc) (ls : Array Slot), St b C n M s H locs → lv_has ls 12 [(0, .ref (b + 177)), (1, .ref (b + k1)), (2, .ref (b + k2)), (3, vI x3), (4, .ref (b + r4)), (5, vI v5_)] → bk3 M v5_ = some res → W p l e (headSpec (wsM y_Laws_pushAll b_Laws_pushAll 12 (none)) (rmD 5)).room s m ([.ref (b + 177), .ref (b + k1), .ref (b + k2), vI x3, .ref (b + r4)] : List Value).toArray below meth c H locs 0 0 (MQ below (QV b C n res) ([.ref (b + 177), .ref (b + k1), .ref (b + k2), vI x3, .ref (b + r4)] : List Value).toArray s 0 0 (frb b)) (F0 m 3 ls [])) : ∀ (fu : Nat) (M : Mem) (v5_ : Int) (hv5_ : InR v5_) (v6_ : Int) (hv6_ : InR v6_) (v7_ : Int) (hv7_ : InR v7_) (H : Heap) (locs : List Loc) (ls : Array Slot), St b C n M s H locs → lv_has ls 12 [(0, .ref (b + 177)), (1, .ref (b + k1)), (2, .ref (b + k2)), (3, vI x3), (4, .ref (b + r4)), (5, vI v5_), (6, vI v6_), (7, vI v7_)] → t_Laws_pushAll_L24 k1 k2 x3 r4 N4 bk3 fu M v5_ v6_ v7_ = some res → W p l e (headSpec (wsM y_Laws_pushAll b_Laws_pushAll 12 (none)) (rmD 5)).room s m ([.ref (b + 177), .ref (b + k1), .ref (b + k2), vI x3, .ref (b + r4)] : List Value).toArray below meth c H locs 0 0 (MQ below (QV b C n res) ([.ref (b + 177), .ref (b + k1), .ref (b + k2), vI x3, .ref (b + r4)] : List Value).toArray s 0 0 (frb b)) (F0 m 24 ls []) := by
  intro fu
  induction fu with
  | zero => intro M v5_ hv5_ v6_ hv6_ v7_ hv7_ H locs ls hS hl hT; exact absurd hT (by simp [t_Laws_pushAll_L24])
  | succ fu ih =>
    intro M v5_ hv5_ v6_ hv6_ v7_ hv7_ H locs ls hS hl hT
    rw [t_Laws_pushAll_L24] at hT
    refine lv_iload F.hx F.hb d_Laws_pushAll_24 (lv_at hl 7 rfl) ?_
    refine r_iconst F.hx F.hb d_Laws_pushAll_26 ?_
    refine r_icmp_ge (tgt := 144) F.hx F.hb hv7_ (inr_c rfl) d_Laws_pushAll_27 (by decide) (fun c5 => ?_) (fun c5 => ?_)
    · replace hT := (if_pos c5).symm.trans hT
      refine lv_iinc (v := Int32.ofInt (w32 (v5_ + 1))) (lv' := [(5, vI (w32 (v5_ + 1))), (0, .ref (b + 177)), (1, .ref (b + k1)), (2, .ref (b + k2)), (3, vI x3), (4, .ref (b + r4)), (6, vI v6_), (7, vI v7_)]) F.hx F.hb d_Laws_pushAll_144 hl (k := 5) rfl (q_of_add _ _) (Nat.le_of_ble_eq_true rfl) rfl (fun ls hl => ?_)
      refine lv_goto (tgt := 3) F.hx F.hb d_Laws_pushAll_147 (by decide) ?_
      exact hbk3 M (w32 (v5_ + 1)) (inr_w32 _) _ _ _ hS (lv_sub hl [1, 2, 3, 4, 5, 0] rfl) hT
    · replace hT := (if_neg c5).symm.trans hT
      refine lv_aload_n F.hx F.hb d_Laws_pushAll_30 rfl (lv_at hl 1 rfl) ?_
      refine lv_iload F.hx F.hb d_Laws_pushAll_31 (lv_at hl 5 rfl) ?_
      refine lv_iload F.hx F.hb d_Laws_pushAll_33 (lv_at hl 7 rfl) ?_
      obtain ⟨q6, hq6⟩ : ∃ q, q = (t_Town_beside M k1 v5_ v7_) := ⟨_, rfl⟩
      replace hT := qlet_eq hT hq6
      refine r_backI F hS (r_runV (k := k1) (N := 20) (T := T11) (As := [vI v5_, vI v7_]) F hS (Town_lt hk1) (Town_sh hk1) rfl (c_Town_beside l F.2.2.1 M k1 v5_ v7_ hk1 hv5_ hv7_ _ hq6.symm) gs_Laws_113 hd_Town_beside ⟨Nat.le_of_ble_eq_true rfl, Nat.le_of_ble_eq_true rfl⟩ rfl hl.1 (Nat.le_of_ble_eq_true rfl) ⟨Nat.zero_le _, Nat.zero_le _⟩ rfl d_Laws_pushAll_35) (fun H locs hS h7 => ?_)
      refine lv_istore (lv' := [(8, vI q6), (0, .ref (b + 177)), (1, .ref (b + k1)), (2, .ref (b + k2)), (3, vI x3), (4, .ref (b + r4)), (5, vI v5_), (6, vI v6_), (7, vI v7_)]) F.hx F.hb d_Laws_pushAll_38 hl (Nat.le_of_ble_eq_true rfl) rfl (fun ls hl => ?_)
      refine r_iconst F.hx F.hb d_Laws_pushAll_40 ?_
      refine lv_istore (lv' := [(9, vI (-1)), (8, vI q6), (0, .ref (b + 177)), (1, .ref (b + k1)), (2, .ref (b + k2)), (3, vI x3), (4, .ref (b + r4)), (5, vI v5_), (6, vI v6_), (7, vI v7_)]) F.hx F.hb d_Laws_pushAll_41 hl (Nat.le_of_ble_eq_true rfl) rfl (fun ls hl => ?_)
      refine lv_iload F.hx F.hb d_Laws_pushAll_43 (lv_at hl 1 rfl) ?_
      refine r_if_lt (tgt := 124) F.hx F.hb h7 d_Laws_pushAll_45 (by decide) (fun c8 => ?_) (fun c8 => ?_)
      · replace hT := (if_pos c8).symm.trans hT
        exact k_Laws_pushAll_L124 l hlo k1 k2 x3 r4 N4 hk1 hk2 hx3 hr4 F hlk hr bk3 hbk3 (fun a0_ a1_ a2_ a3_ => t_Laws_pushAll_L24 k1 k2 x3 r4 N4 bk3 fu a0_ a1_ a2_ a3_) ih M v5_ hv5_ v6_ hv6_ v7_ hv7_ (-1) (inr_c rfl) _ _ _ hS (lv_sub hl [2, 3, 4, 5, 6, 7, 8, 9, 0] rfl) hT
      · replace hT := (if_neg c8).symm.trans hT
        refine lv_aload_n F.hx F.hb d_Laws_pushAll_48 rfl (lv_at hl 4 rfl) ?_
        refine r_get (v := .long (M.2 k2 4)) (N := 7) (T := T9) (j := 4) F hS (Scene_lt hk2) (Scene_sh hk2) (Scene_N hk2) rfl (Nat.le_of_ble_eq_true rfl) ing9 mw_286 (fv_long rfl) d_Laws_pushAll_49 ?_
        refine lv_iload F.hx F.hb d_Laws_pushAll_52 (lv_at hl 7 rfl) ?_
        obtain ⟨q9, hq9⟩ : ∃ q, q = (t_WF_bitOf M (M.2 k2 4) v5_) := ⟨_, rfl⟩
        replace hT := qlet_eq hT hq9
        refine r_backI F hS (r_runSN (As := [.long (M.2 k2 4), vI v5_]) F hS (c_WF_bitOf l F.2.2.1 M (M.2 k2 4) v5_ hv5_ _ hq9.symm) mw_773 mw_772 mw_1 gs_Laws_121 hd_WF_bitOf ⟨Nat.le_of_ble_eq_true rfl, Nat.le_of_ble_eq_true rfl⟩ rfl hl.1 (Nat.le_of_ble_eq_true rfl) ⟨Nat.zero_le _, Nat.zero_le _⟩ rfl d_Laws_pushAll_54) (fun H locs hS h10 => ?_)
        refine r_if_ne (tgt := 124) F.hx F.hb h10 d_Laws_pushAll_57 (by decide) (fun c11 => ?_) (fun c11 => ?_)
        · replace hT := (if_neg c11).symm.trans hT
          exact k_Laws_pushAll_L124 l hlo k1 k2 x3 r4 N4 hk1 hk2 hx3 hr4 F hlk hr bk3 hbk3 (fun a0_ a1_ a2_ a3_ => t_Laws_pushAll_L24 k1 k2 x3 r4 N4 bk3 fu a0_ a1_ a2_ a3_) ih M v5_ hv5_ v6_ hv6_ v7_ hv7_ (-1) (inr_c rfl) _ _ _ hS (lv_sub hl [2, 3, 4, 5, 6, 7, 8, 9, 0] rfl) hT
        · replace hT := (if_pos c11).symm.trans hT
          refine lv_aload_n F.hx F.hb d_Laws_pushAll_60 rfl (lv_at hl 4 rfl) ?_
          refine r_get (v := .long (M.2 k2 4)) (N := 7) (T := T9) (j := 4) F hS (Scene_lt hk2) (Scene_sh hk2) (Scene_N hk2) rfl (Nat.le_of_ble_eq_true rfl) ing9 mw_286 (fv_long rfl) d_Laws_pushAll_61 ?_
          refine lv_iload F.hx F.hb d_Laws_pushAll_64 (lv_at hl 1 rfl) ?_
          obtain ⟨q12, hq12⟩ : ∃ q, q = (t_WF_bitOf M (M.2 k2 4) q6) := ⟨_, rfl⟩
          replace hT := qlet_eq hT hq12
          refine r_backI F hS (r_runSN (As := [.long (M.2 k2 4), vI q6]) F hS (c_WF_bitOf l F.2.2.1 M (M.2 k2 4) q6 h7 _ hq12.symm) mw_773 mw_772 mw_1 gs_Laws_121 hd_WF_bitOf ⟨Nat.le_of_ble_eq_true rfl, Nat.le_of_ble_eq_true rfl⟩ rfl hl.1 (Nat.le_of_ble_eq_true rfl) ⟨Nat.zero_le _, Nat.zero_le _⟩ rfl d_Laws_pushAll_66) (fun H locs hS h13 => ?_)
          refine r_if_ne (tgt := 124) F.hx F.hb h13 d_Laws_pushAll_69 (by decide) (fun c14 => ?_) (fun c14 => ?_)
          · replace hT := (if_neg c14).symm.trans hT
            exact k_Laws_pushAll_L124 l hlo k1 k2 x3 r4 N4 hk1 hk2 hx3 hr4 F hlk hr bk3 hbk3 (fun a0_ a1_ a2_ a3_ => t_Laws_pushAll_L24 k1 k2 x3 r4 N4 bk3 fu a0_ a1_ a2_ a3_) ih M v5_ hv5_ v6_ hv6_ v7_ hv7_ (-1) (inr_c rfl) _ _ _ hS (lv_sub hl [2, 3, 4, 5, 6, 7, 8, 9, 0] rfl) hT
          · replace hT := (if_pos c14).symm.trans hT
            refine lv_iload F.hx F.hb d_Laws_pushAll_72 (lv_at hl 1 rfl) ?_
            refine lv_iload F.hx F.hb d_Laws_pushAll_74 (lv_at hl 8 rfl) ?_
            refine r_icmp_ne (tgt := 83) F.hx F.hb h7 hv6_ d_Laws_pushAll_76 (by decide) (fun c15 => ?_) (fun c15 => ?_)
            · replace hT := (if_neg c15).symm.trans hT
              refine lv_aload_n F.hx F.hb d_Laws_pushAll_83 rfl (lv_at hl 2 rfl) ?_
              refine lv_aload_n F.hx F.hb d_Laws_pushAll_84 rfl (lv_at hl 3 rfl) ?_
              refine lv_aload_n F.hx F.hb d_Laws_pushAll_85 rfl (lv_at hl 4 rfl) ?_
              refine lv_iload F.hx F.hb d_Laws_pushAll_86 (lv_at hl 7 rfl) ?_
              refine lv_iload F.hx F.hb d_Laws_pushAll_88 (lv_at hl 9 rfl) ?_
              refine lv_iload_n F.hx F.hb d_Laws_pushAll_90 rfl (lv_at hl 5 rfl) ?_
              obtain ⟨q16, hq16, hT⟩ := q_obind hT
              refine r_backL F hS (r_runV (k := 177) (N := 9) (T := T4) (As := [.ref (b + k1), .ref (b + k2), vI v5_, vI v7_, vI x3]) F hS (show 177 < 191 by decide) (show shK 177 = 8 from rfl) rfl (c_Laws_pushFrom l F.2.2.1 M k1 k2 v5_ v7_ x3 hk1 hk2 hv5_ hv7_ hx3 _ hq16) gs_Laws_145 hd_Laws_pushFrom ⟨Nat.le_of_ble_eq_true rfl, Nat.le_of_ble_eq_true rfl⟩ rfl hl.1 (Nat.le_of_ble_eq_true rfl) ⟨Nat.zero_le _, Nat.zero_le _⟩ rfl d_Laws_pushAll_91) (fun H locs hS => ?_)
              exact k_Laws_pushAll_L94 l hlo k1 k2 x3 r4 N4 hk1 hk2 hx3 hr4 F hlk hr bk3 hbk3 (fun a0_ a1_ a2_ a3_ => t_Laws_pushAll_L24 k1 k2 x3 r4 N4 bk3 fu a0_ a1_ a2_ a3_) ih (q16.1) v5_ hv5_ v6_ hv6_ v7_ hv7_ (q16.2) _ _ _ hS (lv_sub hl [2, 3, 4, 5, 6, 7, 8, 9] rfl) hT
            · replace hT := (if_pos c15).symm.trans hT
              refine lv_lconst (v := 0) F.hx F.hb d_Laws_pushAll_79 rfl ?_
              refine lv_goto (tgt := 94) F.hx F.hb d_Laws_pushAll_80 (by decide) ?_
              exact k_Laws_pushAll_L94 l hlo k1 k2 x3 r4 N4 hk1 hk2 hx3 hr4 F hlk hr bk3 hbk3 (fun a0_ a1_ a2_ a3_ => t_Laws_pushAll_L24 k1 k2 x3 r4 N4 bk3 fu a0_ a1_ a2_ a3_) ih M v5_ hv5_ v6_ hv6_ v7_ hv7_ 0 _ _ _ hS (lv_sub hl [2, 3, 4, 5, 6, 7, 8, 9] rfl) hT
set_option maxHeartbeats 4000000 in
set_option maxRecDepth 100000 in
theorem k_Laws_pushAll_L3 (l : Launch) {p : Program} {e : Env} {s : State} {m : MethodId} {below : List Frame} {meth : Method} {c : Code} {b n : Nat} {C : CT} (hlo : 191 ≤ n) (k1 : Nat) (k2 : Nat) (x3 : Int) (r4 : Nat) (N4 : Nat) (hk1 : isTown k1) (hk2 : isScene k2) (hx3 : InR x3) (hr4 : arrP 0 r4 N4 191) (F : Cx b p m c b_Laws_pushAll 12 s ([.ref (b + 177), .ref (b + k1), .ref (b + k2), vI x3, .ref (b + r4)] : List Value).toArray "WardFalls$Laws" C n 191) (hlk : meth.locks = false) (hr : meth.sig.returnType = none) {res : Mem} : ∀ (fu : Nat) (M : Mem) (v5_ : Int) (hv5_ : InR v5_) (H : Heap) (locs : List Loc) (ls : Array Slot), St b C n M s H locs → lv_has ls 12 [(0, .ref (b + 177)), (1, .ref (b + k1)), (2, .ref (b + k2)), (3, vI x3), (4, .ref (b + r4)), (5, vI v5_)] → t_Laws_pushAll_L3 k1 k2 x3 r4 N4 fu M v5_ = some res → W p l e (headSpec (wsM y_Laws_pushAll b_Laws_pushAll 12 (none)) (rmD 5)).room s m ([.ref (b + 177), .ref (b + k1), .ref (b + k2), vI x3, .ref (b + r4)] : List Value).toArray below meth c H locs 0 0 (MQ below (QV b C n res) ([.ref (b + 177), .ref (b + k1), .ref (b + k2), vI x3, .ref (b + r4)] : List Value).toArray s 0 0 (frb b)) (F0 m 3 ls []) := by
  intro fu
  induction fu with
  | zero => intro M v5_ hv5_ H locs ls hS hl hT; exact absurd hT (by simp [t_Laws_pushAll_L3])
  | succ fu ih =>
    intro M v5_ hv5_ H locs ls hS hl hT
    rw [t_Laws_pushAll_L3] at hT
    refine lv_iload F.hx F.hb d_Laws_pushAll_3 (lv_at hl 5 rfl) ?_
    refine lv_aload_n F.hx F.hb d_Laws_pushAll_5 rfl (lv_at hl 1 rfl) ?_
    refine r_get (v := vI (M.1 k1 13)) (N := 20) (T := T11) (j := 13) F hS (Town_lt hk1) (Town_sh hk1) (Town_N hk1) rfl (Nat.le_of_ble_eq_true rfl) ing11 mw_129 (fv_int rfl) d_Laws_pushAll_6 ?_
    have i1 := hS.rng k1 13
    refine r_icmp_ge (tgt := 150) F.hx F.hb hv5_ i1 d_Laws_pushAll_9 (by decide) (fun c2 => ?_) (fun c2 => ?_)
    · replace hT := (if_pos c2).symm.trans hT
      cases hT
      exact r_vret F hlk hr hS d_Laws_pushAll_150
    · replace hT := (if_neg c2).symm.trans hT
      refine lv_aload_n F.hx F.hb d_Laws_pushAll_12 rfl (lv_at hl 2 rfl) ?_
      refine lv_aload_n F.hx F.hb d_Laws_pushAll_13 rfl (lv_at hl 1 rfl) ?_
      refine lv_iload F.hx F.hb d_Laws_pushAll_14 (lv_at hl 5 rfl) ?_
      obtain ⟨q3, hq3⟩ : ∃ q, q = (t_Scene_nextOf M k2 k1 v5_) := ⟨_, rfl⟩
      replace hT := qlet_eq hT hq3
      refine r_backI F hS (r_runV (k := k2) (N := 7) (T := T9) (As := [.ref (b + k1), vI v5_]) F hS (Scene_lt hk2) (Scene_sh hk2) rfl (c_Scene_nextOf l F.2.2.1 M k2 k1 v5_ hk2 hk1 hv5_ _ hq3.symm) gs_Laws_142 hd_Scene_nextOf ⟨Nat.le_of_ble_eq_true rfl, Nat.le_of_ble_eq_true rfl⟩ rfl hl.1 (Nat.le_of_ble_eq_true rfl) ⟨Nat.zero_le _, Nat.zero_le _⟩ rfl d_Laws_pushAll_16) (fun H locs hS h4 => ?_)
      refine lv_istore (lv' := [(6, vI q3), (0, .ref (b + 177)), (1, .ref (b + k1)), (2, .ref (b + k2)), (3, vI x3), (4, .ref (b + r4)), (5, vI v5_)]) F.hx F.hb d_Laws_pushAll_19 hl (Nat.le_of_ble_eq_true rfl) rfl (fun ls hl => ?_)
      refine r_iconst F.hx F.hb d_Laws_pushAll_21 ?_
      refine lv_istore (lv' := [(7, vI 0), (6, vI q3), (0, .ref (b + 177)), (1, .ref (b + k1)), (2, .ref (b + k2)), (3, vI x3), (4, .ref (b + r4)), (5, vI v5_)]) F.hx F.hb d_Laws_pushAll_22 hl (Nat.le_of_ble_eq_true rfl) rfl (fun ls hl => ?_)
      exact k_Laws_pushAll_L24 l hlo k1 k2 x3 r4 N4 hk1 hk2 hx3 hr4 F hlk hr (fun a0_ a1_ => t_Laws_pushAll_L3 k1 k2 x3 r4 N4 fu a0_ a1_) ih FU M v5_ hv5_ q3 h4 0 (inr_c rfl) _ _ _ hS (lv_sub hl [2, 3, 4, 5, 6, 7, 1, 0] rfl) hT
set_option maxHeartbeats 4000000 in
set_option maxRecDepth 100000 in
theorem c_Laws_pushAll (l : Launch) {b n : Nat} {C : CT} (hlo : 191 ≤ n) (M : Mem) (k1 : Nat) (k2 : Nat) (x3 : Int) (r4 : Nat) (N4 : Nat) (hk1 : isTown k1) (hk2 : isScene k2) (hx3 : InR x3) (hr4 : arrP 0 r4 N4 191) (res : Mem) (hT : t_Laws_pushAll M k1 k2 x3 r4 N4 = some res) : CM l b C n 5 y_Laws_pushAll b_Laws_pushAll 12 (none) [.ref (b + 177), .ref (b + k1), .ref (b + k2), vI x3, .ref (b + r4)] M (QV b C n res) := by
  refine CM.of (lo := 191) (ow := "WardFalls$Laws") (by decide) rfl (Nat.le_of_ble_eq_true rfl) hlo (fun p e s m below meth c F hlk hr hS ls hl => ?_)
  have hl : lv_has ls 12 [(0, .ref (b + 177)), (1, .ref (b + k1)), (2, .ref (b + k2)), (3, vI x3), (4, .ref (b + r4))] := hl
  unfold t_Laws_pushAll at hT
  refine r_iconst F.hx F.hb d_Laws_pushAll_0 ?_
  refine lv_istore (lv' := [(5, vI 0), (0, .ref (b + 177)), (1, .ref (b + k1)), (2, .ref (b + k2)), (3, vI x3), (4, .ref (b + r4))]) F.hx F.hb d_Laws_pushAll_1 hl (Nat.le_of_ble_eq_true rfl) rfl (fun ls hl => ?_)
  exact k_Laws_pushAll_L3 l hlo k1 k2 x3 r4 N4 hk1 hk2 hx3 hr4 F hlk hr FU M 0 (inr_c rfl) _ _ _ hS (lv_sub hl [1, 2, 3, 4, 5, 0] rfl) hT
